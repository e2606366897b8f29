theorem g9_place_0 {a1 a2 a3 a4 a5 : Int} {M : am_M} {Q : Option am_V → am_M → Prop} (k : am_CallN m9_noClaim [vi a1, vi a2, vi a3, vi a4] KS (am_up M 86 0 0) (fun r M' => am_AtN m9_place 13 [some (vr 86), some (vi a1), some (vi a2), some (vi a3), some (vi a4), some (vi a5), none, none] (r.toList ++ []) KS M' Q)) : am_AtN m9_place 0 [some (vr 86), some (vi a1), some (vi a2), some (vi a3), some (vi a4), some (vi a5), none, none] [] KS M Q := by
  refine s_aload_n (show decode (am_cc m9_place) 0 = .ok (.aload_n 0, 1) by decide +kernel) rfl ?_
  refine s_iconst (show decode (am_cc m9_place) 1 = .ok (.iconst 0, 1) by decide +kernel) ⟨by decide, by decide⟩ ?_
  refine s_putf (k := 0) (x := 0) (ty0 := tyX9) (show decode (am_cc m9_place) 2 = .ok (.putfield 95, 3) by decide +kernel) kd86 (by decide) rfl jnX9 tyX9_ok nmX9 (by decide) lf_RX9_95 rfl (Or.inl ⟨rfl, rfl, rfl⟩) ?_
  refine s_iload_n (show decode (am_cc m9_place) 5 = .ok (.iload_n 1, 1) by decide +kernel) rfl ?_
  refine s_iload_n (show decode (am_cc m9_place) 6 = .ok (.iload_n 2, 1) by decide +kernel) rfl ?_
  refine s_iload_n (show decode (am_cc m9_place) 7 = .ok (.iload_n 3, 1) by decide +kernel) rfl ?_
  refine s_iload (show decode (am_cc m9_place) 8 = .ok (.iload 4, 2) by decide +kernel) rfl ?_
  exact n_callS (as := [vi a1, vi a2, vi a3, vi a4]) (stk := []) (show decode (am_cc m9_place) 10 = .ok (.invokestatic 185, 3) by decide +kernel) lk_RX9_185 (by decide) (Nat.le_of_ble_eq_true rfl) ⟨rfl, rfl⟩ k
theorem g9_place_13 {a1 a2 a3 a4 a5 t0 : Int} {M : am_M} {Q : Option am_V → am_M → Prop} (k1 : t0 = 0 → am_AtN m9_place 18 [some (vr 86), some (vi a1), some (vi a2), some (vi a3), some (vi a4), some (vi a5), none, none] [] KS M Q) (k2 : ¬ (t0 = 0) → am_AtN m9_place 16 [some (vr 86), some (vi a1), some (vi a2), some (vi a3), some (vi a4), some (vi a5), none, none] [] KS M Q) : am_AtN m9_place 13 [some (vr 86), some (vi a1), some (vi a2), some (vi a3), some (vi a4), some (vi a5), none, none] [vi t0] KS M Q := by
  exact s_if_eq (tgt := 18) (show decode (am_cc m9_place) 13 = .ok (.ifCond .eq 5, 3) by decide +kernel) (by decide) k1 k2
theorem g9_place_16 {a1 a2 a3 a4 a5 : Int} {M : am_M} {Q : Option am_V → am_M → Prop} (k : Q (some (vi (-1))) M) : am_AtN m9_place 16 [some (vr 86), some (vi a1), some (vi a2), some (vi a3), some (vi a4), some (vi a5), none, none] [] KS M Q := by
  refine s_iconst (show decode (am_cc m9_place) 16 = .ok (.iconst (-1), 1) by decide +kernel) ⟨by decide, by decide⟩ ?_
  exact s_ireturn (show decode (am_cc m9_place) 17 = .ok (.ireturn, 1) by decide +kernel) rfl k
theorem g9_place_18 {a1 a2 a3 a4 a5 : Int} {M : am_M} {Q : Option am_V → am_M → Prop} (k : am_CallN m9_meet [vr 86, vi a1, vi a2, vi a3, vi a4] KS M (fun r M' => am_AtN m9_place 27 [some (vr 86), some (vi a1), some (vi a2), some (vi a3), some (vi a4), some (vi a5), none, none] (r.toList ++ []) KS M' Q)) : am_AtN m9_place 18 [some (vr 86), some (vi a1), some (vi a2), some (vi a3), some (vi a4), some (vi a5), none, none] [] KS M Q := by
  refine s_aload_n (show decode (am_cc m9_place) 18 = .ok (.aload_n 0, 1) by decide +kernel) rfl ?_
  refine s_iload_n (show decode (am_cc m9_place) 19 = .ok (.iload_n 1, 1) by decide +kernel) rfl ?_
  refine s_iload_n (show decode (am_cc m9_place) 20 = .ok (.iload_n 2, 1) by decide +kernel) rfl ?_
  refine s_iload_n (show decode (am_cc m9_place) 21 = .ok (.iload_n 3, 1) by decide +kernel) rfl ?_
  refine s_iload (show decode (am_cc m9_place) 22 = .ok (.iload 4, 2) by decide +kernel) rfl ?_
  exact n_callV (as := [vi a1, vi a2, vi a3, vi a4]) (stk := []) (show decode (am_cc m9_place) 24 = .ok (.invokevirtual 189, 3) by decide +kernel) lk_RX9_189 kd86 (by decide) rfl rfl (by decide) (Nat.le_of_ble_eq_true rfl) ⟨rfl, rfl⟩ k
theorem g9_place_27 {a1 a2 a3 a4 a5 t0 : Int} {M : am_M} {Q : Option am_V → am_M → Prop} (k : am_AtN m9_place 34 [some (vr 86), some (vi a1), some (vi a2), some (vi a3), some (vi a4), some (vi a5), some (vi 0), some (vi 0)] [] KS M Q) : am_AtN m9_place 27 [some (vr 86), some (vi a1), some (vi a2), some (vi a3), some (vi a4), some (vi a5), none, none] [vi t0] KS M Q := by
  refine s_popi (show decode (am_cc m9_place) 27 = .ok (.pop, 1) by decide +kernel) ?_
  refine s_iconst (show decode (am_cc m9_place) 28 = .ok (.iconst 0, 1) by decide +kernel) ⟨by decide, by decide⟩ ?_
  refine s_istore (show decode (am_cc m9_place) 29 = .ok (.istore 6, 2) by decide +kernel) (by decide) ?_
  refine s_iconst (show decode (am_cc m9_place) 31 = .ok (.iconst 0, 1) by decide +kernel) ⟨by decide, by decide⟩ ?_
  refine s_istore (show decode (am_cc m9_place) 32 = .ok (.istore 7, 2) by decide +kernel) (by decide) ?_
  exact k
theorem g9_place_34 {a1 a2 a3 a4 a5 a6 a7 : Int} {M : am_M} {Q : Option am_V → am_M → Prop} (k1 : 1296 ≤ a7 → am_AtN m9_place 71 [some (vr 86), some (vi a1), some (vi a2), some (vi a3), some (vi a4), some (vi a5), some (vi a6), some (vi a7)] [] KS M Q) (k2 : ¬ (1296 ≤ a7) → am_AtN m9_place 42 [some (vr 86), some (vi a1), some (vi a2), some (vi a3), some (vi a4), some (vi a5), some (vi a6), some (vi a7)] [] KS M Q) : am_AtN m9_place 34 [some (vr 86), some (vi a1), some (vi a2), some (vi a3), some (vi a4), some (vi a5), some (vi a6), some (vi a7)] [] KS M Q := by
  refine s_iload (show decode (am_cc m9_place) 34 = .ok (.iload 7, 2) by decide +kernel) rfl ?_
  refine s_sipush (show decode (am_cc m9_place) 36 = .ok (.sipush 1296, 3) by decide +kernel) ⟨by decide, by decide⟩ (by decide) ?_
  exact s_icmp_ge (tgt := 71) (show decode (am_cc m9_place) 39 = .ok (.if_icmp .ge 32, 3) by decide +kernel) (by decide) k1 k2
theorem g9_place_42 {a1 a2 a3 a4 a5 a6 a7 : Int} {M : am_M} {Q : Option am_V → am_M → Prop} (h1 : 0 ≤ a7) (h2 : a7 < 1296) (k1 : M 98 a7 = 0 → am_AtN m9_place 65 [some (vr 86), some (vi a1), some (vi a2), some (vi a3), some (vi a4), some (vi a5), some (vi a6), some (vi a7)] [] KS M Q) (k2 : ¬ (M 98 a7 = 0) → am_AtN m9_place 52 [some (vr 86), some (vi a1), some (vi a2), some (vi a3), some (vi a4), some (vi a5), some (vi a6), some (vi a7)] [] KS M Q) : am_AtN m9_place 42 [some (vr 86), some (vi a1), some (vi a2), some (vi a3), some (vi a4), some (vi a5), some (vi a6), some (vi a7)] [] KS M Q := by
  refine s_aload_n (show decode (am_cc m9_place) 42 = .ok (.aload_n 0, 1) by decide +kernel) rfl ?_
  refine s_getf (k := 13) (v := vr 98) (show decode (am_cc m9_place) 43 = .ok (.getfield 44, 3) by decide +kernel) kd86 (by decide) rfl jnX9 (by decide) lf_RX9_44 rfl ?_
  refine s_iload (show decode (am_cc m9_place) 46 = .ok (.iload 7, 2) by decide +kernel) rfl ?_
  refine s_baload (show decode (am_cc m9_place) 48 = .ok (.baload, 1) by decide +kernel) kd98 h1 h2 ?_
  exact s_if_eq (tgt := 65) (show decode (am_cc m9_place) 49 = .ok (.ifCond .eq 16, 3) by decide +kernel) (by decide) k1 k2
theorem g9_place_52 {a1 a2 a3 a4 a5 a6 a7 : Int} {M : am_M} {Q : Option am_V → am_M → Prop} (k1 : ¬ a6 = a5 → am_AtN m9_place 62 [some (vr 86), some (vi a1), some (vi a2), some (vi a3), some (vi a4), some (vi a5), some (vi a6), some (vi a7)] [] KS M Q) (k2 : a6 = a5 → am_AtN m9_place 59 [some (vr 86), some (vi a1), some (vi a2), some (vi a3), some (vi a4), some (vi a5), some (vi a6), some (vi a7)] [] KS M Q) : am_AtN m9_place 52 [some (vr 86), some (vi a1), some (vi a2), some (vi a3), some (vi a4), some (vi a5), some (vi a6), some (vi a7)] [] KS M Q := by
  refine s_iload (show decode (am_cc m9_place) 52 = .ok (.iload 6, 2) by decide +kernel) rfl ?_
  refine s_iload (show decode (am_cc m9_place) 54 = .ok (.iload 5, 2) by decide +kernel) rfl ?_
  exact s_icmp_ne (tgt := 62) (show decode (am_cc m9_place) 56 = .ok (.if_icmp .ne 6, 3) by decide +kernel) (by decide) k1 k2
theorem g9_place_59 {a1 a2 a3 a4 a5 a6 a7 : Int} {M : am_M} {Q : Option am_V → am_M → Prop} (k : Q (some (vi a7)) M) : am_AtN m9_place 59 [some (vr 86), some (vi a1), some (vi a2), some (vi a3), some (vi a4), some (vi a5), some (vi a6), some (vi a7)] [] KS M Q := by
  refine s_iload (show decode (am_cc m9_place) 59 = .ok (.iload 7, 2) by decide +kernel) rfl ?_
  exact s_ireturn (show decode (am_cc m9_place) 61 = .ok (.ireturn, 1) by decide +kernel) rfl k
theorem g9_place_62 {a1 a2 a3 a4 a5 a6 a7 : Int} {M : am_M} {Q : Option am_V → am_M → Prop} (h1 : -2147483648 ≤ a6 + 1 ∧ a6 + 1 ≤ 2147483647) (k : am_AtN m9_place 65 [some (vr 86), some (vi a1), some (vi a2), some (vi a3), some (vi a4), some (vi a5), some (vi (a6 + 1)), some (vi a7)] [] KS M Q) : am_AtN m9_place 62 [some (vr 86), some (vi a1), some (vi a2), some (vi a3), some (vi a4), some (vi a5), some (vi a6), some (vi a7)] [] KS M Q := by
  refine s_iinc (show decode (am_cc m9_place) 62 = .ok (.iinc 6 1, 3) by decide +kernel) rfl (by decide) h1 ?_
  exact k
theorem g9_place_65 {a1 a2 a3 a4 a5 a6 a7 : Int} {M : am_M} {Q : Option am_V → am_M → Prop} (h1 : -2147483648 ≤ a7 + 1 ∧ a7 + 1 ≤ 2147483647) (k : am_AtN m9_place 34 [some (vr 86), some (vi a1), some (vi a2), some (vi a3), some (vi a4), some (vi a5), some (vi a6), some (vi (a7 + 1))] [] KS M Q) : am_AtN m9_place 65 [some (vr 86), some (vi a1), some (vi a2), some (vi a3), some (vi a4), some (vi a5), some (vi a6), some (vi a7)] [] KS M Q := by
  refine s_iinc (show decode (am_cc m9_place) 65 = .ok (.iinc 7 1, 3) by decide +kernel) rfl (by decide) h1 ?_
  refine s_goto (tgt := 34) (show decode (am_cc m9_place) 68 = .ok (.goto (-34), 3) by decide +kernel) (by decide) ?_
  exact k
theorem g9_place_71 {a1 a2 a3 a4 a5 a6 a7 : Int} {M : am_M} {Q : Option am_V → am_M → Prop} (k : Q (some (vi (-9))) M) : am_AtN m9_place 71 [some (vr 86), some (vi a1), some (vi a2), some (vi a3), some (vi a4), some (vi a5), some (vi a6), some (vi a7)] [] KS M Q := by
  refine s_bipush (show decode (am_cc m9_place) 71 = .ok (.bipush (-9), 2) by decide +kernel) ⟨by decide, by decide⟩ (by decide) ?_
  exact s_ireturn (show decode (am_cc m9_place) 73 = .ok (.ireturn, 1) by decide +kernel) rfl k
theorem g9_sheet_0 {a1 a2 : Int} {M : am_M} {Q : Option am_V → am_M → Prop} (k : am_CallN m9_in [vl a1, vl 0, vl 1295] KS (am_up M 86 0 0) (fun r M' => am_AtN m9_sheet 14 [some (vr 86), some (vi a1), some (vi a2), none] (r.toList ++ []) KS M' Q)) : am_AtN m9_sheet 0 [some (vr 86), some (vi a1), some (vi a2), none] [] KS M Q := by
  refine s_aload_n (show decode (am_cc m9_sheet) 0 = .ok (.aload_n 0, 1) by decide +kernel) rfl ?_
  refine s_iconst (show decode (am_cc m9_sheet) 1 = .ok (.iconst 0, 1) by decide +kernel) ⟨by decide, by decide⟩ ?_
  refine s_putf (k := 0) (x := 0) (ty0 := tyX9) (show decode (am_cc m9_sheet) 2 = .ok (.putfield 95, 3) by decide +kernel) kd86 (by decide) rfl jnX9 tyX9_ok nmX9 (by decide) lf_RX9_95 rfl (Or.inl ⟨rfl, rfl, rfl⟩) ?_
  refine s_iload_n (show decode (am_cc m9_sheet) 5 = .ok (.iload_n 1, 1) by decide +kernel) rfl ?_
  refine s_i2l (show decode (am_cc m9_sheet) 6 = .ok (.i2l, 1) by decide +kernel) ?_
  refine s_lconst (v := 0) (show decode (am_cc m9_sheet) 7 = .ok (.lconst 0, 1) by decide +kernel) (by decide) ⟨by decide, by decide⟩ ?_
  refine s_ldc2 (show decode (am_cc m9_sheet) 8 = .ok (.ldc2_w 195, 3) by decide +kernel) lc_RX9_195 ⟨by decide, by decide⟩ ?_
  exact n_callS (as := [vl a1, vl 0, vl 1295]) (stk := []) (show decode (am_cc m9_sheet) 11 = .ok (.invokestatic 110, 3) by decide +kernel) lk_RX9_110 (by decide) (Nat.le_of_ble_eq_true rfl) ⟨rfl, rfl⟩ k
theorem g9_sheet_14 {a1 a2 t0 : Int} {M : am_M} {Q : Option am_V → am_M → Prop} (k1 : ¬ t0 = 0 → am_AtN m9_sheet 20 [some (vr 86), some (vi a1), some (vi a2), none] [] KS M Q) (k2 : t0 = 0 → am_AtN m9_sheet 17 [some (vr 86), some (vi a1), some (vi a2), none] [] KS M Q) : am_AtN m9_sheet 14 [some (vr 86), some (vi a1), some (vi a2), none] [vi t0] KS M Q := by
  exact s_if_ne (tgt := 20) (show decode (am_cc m9_sheet) 14 = .ok (.ifCond .ne 6, 3) by decide +kernel) (by decide) k1 k2
theorem g9_sheet_17 {a1 a2 : Int} {M : am_M} {Q : Option am_V → am_M → Prop} (k : Q (some (vi (-2))) M) : am_AtN m9_sheet 17 [some (vr 86), some (vi a1), some (vi a2), none] [] KS M Q := by
  refine s_bipush (show decode (am_cc m9_sheet) 17 = .ok (.bipush (-2), 2) by decide +kernel) ⟨by decide, by decide⟩ (by decide) ?_
  exact s_ireturn (show decode (am_cc m9_sheet) 19 = .ok (.ireturn, 1) by decide +kernel) rfl k
theorem g9_sheet_20 {a1 a2 : Int} {M : am_M} {Q : Option am_V → am_M → Prop} (h1 : 0 ≤ a1) (h2 : a1 < 1296) (k1 : M 99 a1 = 0 → am_AtN m9_sheet 33 [some (vr 86), some (vi a1), some (vi a2), none] [] KS M Q) (k2 : ¬ (M 99 a1 = 0) → am_AtN m9_sheet 29 [some (vr 86), some (vi a1), some (vi a2), none] [] KS M Q) : am_AtN m9_sheet 20 [some (vr 86), some (vi a1), some (vi a2), none] [] KS M Q := by
  refine s_aload_n (show decode (am_cc m9_sheet) 20 = .ok (.aload_n 0, 1) by decide +kernel) rfl ?_
  refine s_getf (k := 14) (v := vr 99) (show decode (am_cc m9_sheet) 21 = .ok (.getfield 47, 3) by decide +kernel) kd86 (by decide) rfl jnX9 (by decide) lf_RX9_47 rfl ?_
  refine s_iload_n (show decode (am_cc m9_sheet) 24 = .ok (.iload_n 1, 1) by decide +kernel) rfl ?_
  refine s_baload (show decode (am_cc m9_sheet) 25 = .ok (.baload, 1) by decide +kernel) kd99 h1 h2 ?_
  exact s_if_eq (tgt := 33) (show decode (am_cc m9_sheet) 26 = .ok (.ifCond .eq 7, 3) by decide +kernel) (by decide) k1 k2
theorem g9_sheet_29 {a1 a2 : Int} {M : am_M} {Q : Option am_V → am_M → Prop} (k : am_AtN m9_sheet 34 [some (vr 86), some (vi a1), some (vi a2), none] [vi 1] KS M Q) : am_AtN m9_sheet 29 [some (vr 86), some (vi a1), some (vi a2), none] [] KS M Q := by
  refine s_iconst (show decode (am_cc m9_sheet) 29 = .ok (.iconst 1, 1) by decide +kernel) ⟨by decide, by decide⟩ ?_
  refine s_goto (tgt := 34) (show decode (am_cc m9_sheet) 30 = .ok (.goto 4, 3) by decide +kernel) (by decide) ?_
  exact k
theorem g9_sheet_33 {a1 a2 : Int} {M : am_M} {Q : Option am_V → am_M → Prop} (k : am_AtN m9_sheet 34 [some (vr 86), some (vi a1), some (vi a2), none] [vi 0] KS M Q) : am_AtN m9_sheet 33 [some (vr 86), some (vi a1), some (vi a2), none] [] KS M Q := by
  refine s_iconst (show decode (am_cc m9_sheet) 33 = .ok (.iconst 0, 1) by decide +kernel) ⟨by decide, by decide⟩ ?_
  exact k
theorem g9_sheet_34 {a1 a2 t0 : Int} {M : am_M} {Q : Option am_V → am_M → Prop} (h1 : 0 ≤ a1) (h2 : a1 < 1296) (h3 : a2 = 0 ∨ a2 = 1) (k : Q (some (vi t0)) (am_up M 99 a1 a2)) : am_AtN m9_sheet 34 [some (vr 86), some (vi a1), some (vi a2), none] [vi t0] KS M Q := by
  refine s_istore_n (show decode (am_cc m9_sheet) 34 = .ok (.istore_n 3, 1) by decide +kernel) (by decide) ?_
  refine s_aload_n (show decode (am_cc m9_sheet) 35 = .ok (.aload_n 0, 1) by decide +kernel) rfl ?_
  refine s_getf (k := 14) (v := vr 99) (show decode (am_cc m9_sheet) 36 = .ok (.getfield 47, 3) by decide +kernel) kd86 (by decide) rfl jnX9 (by decide) lf_RX9_47 rfl ?_
  refine s_iload_n (show decode (am_cc m9_sheet) 39 = .ok (.iload_n 1, 1) by decide +kernel) rfl ?_
  refine s_iload_n (show decode (am_cc m9_sheet) 40 = .ok (.iload_n 2, 1) by decide +kernel) rfl ?_
  refine s_bastore (show decode (am_cc m9_sheet) 41 = .ok (.bastore, 1) by decide +kernel) kd99 h1 h2 h3 ?_
  refine s_iload_n (show decode (am_cc m9_sheet) 42 = .ok (.iload_n 3, 1) by decide +kernel) rfl ?_
  exact s_ireturn (show decode (am_cc m9_sheet) 43 = .ok (.ireturn, 1) by decide +kernel) rfl k
theorem g9_write_0 {a1 a2 a3 a4 : Int} {M : am_M} {Q : Option am_V → am_M → Prop} (k : am_CallN m9_noClaim [vi a1, vi a2, vi a3, vi a4] KS (am_up M 86 0 0) (fun r M' => am_AtN m9_write 13 [some (vr 86), some (vi a1), some (vi a2), some (vi a3), some (vi a4), none] (r.toList ++ []) KS M' Q)) : am_AtN m9_write 0 [some (vr 86), some (vi a1), some (vi a2), some (vi a3), some (vi a4), none] [] KS M Q := by
  refine s_aload_n (show decode (am_cc m9_write) 0 = .ok (.aload_n 0, 1) by decide +kernel) rfl ?_
  refine s_iconst (show decode (am_cc m9_write) 1 = .ok (.iconst 0, 1) by decide +kernel) ⟨by decide, by decide⟩ ?_
  refine s_putf (k := 0) (x := 0) (ty0 := tyX9) (show decode (am_cc m9_write) 2 = .ok (.putfield 95, 3) by decide +kernel) kd86 (by decide) rfl jnX9 tyX9_ok nmX9 (by decide) lf_RX9_95 rfl (Or.inl ⟨rfl, rfl, rfl⟩) ?_
  refine s_iload_n (show decode (am_cc m9_write) 5 = .ok (.iload_n 1, 1) by decide +kernel) rfl ?_
  refine s_iload_n (show decode (am_cc m9_write) 6 = .ok (.iload_n 2, 1) by decide +kernel) rfl ?_
  refine s_iload_n (show decode (am_cc m9_write) 7 = .ok (.iload_n 3, 1) by decide +kernel) rfl ?_
  refine s_iload (show decode (am_cc m9_write) 8 = .ok (.iload 4, 2) by decide +kernel) rfl ?_
  exact n_callS (as := [vi a1, vi a2, vi a3, vi a4]) (stk := []) (show decode (am_cc m9_write) 10 = .ok (.invokestatic 185, 3) by decide +kernel) lk_RX9_185 (by decide) (Nat.le_of_ble_eq_true rfl) ⟨rfl, rfl⟩ k
theorem g9_write_13 {a1 a2 a3 a4 t0 : Int} {M : am_M} {Q : Option am_V → am_M → Prop} (k1 : t0 = 0 → am_AtN m9_write 18 [some (vr 86), some (vi a1), some (vi a2), some (vi a3), some (vi a4), none] [] KS M Q) (k2 : ¬ (t0 = 0) → am_AtN m9_write 16 [some (vr 86), some (vi a1), some (vi a2), some (vi a3), some (vi a4), none] [] KS M Q) : am_AtN m9_write 13 [some (vr 86), some (vi a1), some (vi a2), some (vi a3), some (vi a4), none] [vi t0] KS M Q := by
  exact s_if_eq (tgt := 18) (show decode (am_cc m9_write) 13 = .ok (.ifCond .eq 5, 3) by decide +kernel) (by decide) k1 k2
theorem g9_write_16 {a1 a2 a3 a4 : Int} {M : am_M} {Q : Option am_V → am_M → Prop} (k : Q (some (vi (-1))) M) : am_AtN m9_write 16 [some (vr 86), some (vi a1), some (vi a2), some (vi a3), some (vi a4), none] [] KS M Q := by
  refine s_iconst (show decode (am_cc m9_write) 16 = .ok (.iconst (-1), 1) by decide +kernel) ⟨by decide, by decide⟩ ?_
  exact s_ireturn (show decode (am_cc m9_write) 17 = .ok (.ireturn, 1) by decide +kernel) rfl k
theorem g9_write_18 {a1 a2 a3 a4 : Int} {M : am_M} {Q : Option am_V → am_M → Prop} (k : am_CallN m9_meet [vr 86, vi a1, vi a2, vi a3, vi a4] KS M (fun r M' => am_AtN m9_write 27 [some (vr 86), some (vi a1), some (vi a2), some (vi a3), some (vi a4), none] (r.toList ++ []) KS M' Q)) : am_AtN m9_write 18 [some (vr 86), some (vi a1), some (vi a2), some (vi a3), some (vi a4), none] [] KS M Q := by
  refine s_aload_n (show decode (am_cc m9_write) 18 = .ok (.aload_n 0, 1) by decide +kernel) rfl ?_
  refine s_iload_n (show decode (am_cc m9_write) 19 = .ok (.iload_n 1, 1) by decide +kernel) rfl ?_
  refine s_iload_n (show decode (am_cc m9_write) 20 = .ok (.iload_n 2, 1) by decide +kernel) rfl ?_
  refine s_iload_n (show decode (am_cc m9_write) 21 = .ok (.iload_n 3, 1) by decide +kernel) rfl ?_
  refine s_iload (show decode (am_cc m9_write) 22 = .ok (.iload 4, 2) by decide +kernel) rfl ?_
  exact n_callV (as := [vi a1, vi a2, vi a3, vi a4]) (stk := []) (show decode (am_cc m9_write) 24 = .ok (.invokevirtual 189, 3) by decide +kernel) lk_RX9_189 kd86 (by decide) rfl rfl (by decide) (Nat.le_of_ble_eq_true rfl) ⟨rfl, rfl⟩ k
theorem g9_write_27 {a1 a2 a3 a4 t0 : Int} {M : am_M} {Q : Option am_V → am_M → Prop} (k : am_AtN m9_write 31 [some (vr 86), some (vi a1), some (vi a2), some (vi a3), some (vi a4), some (vi 0)] [] KS M Q) : am_AtN m9_write 27 [some (vr 86), some (vi a1), some (vi a2), some (vi a3), some (vi a4), none] [vi t0] KS M Q := by
  refine s_popi (show decode (am_cc m9_write) 27 = .ok (.pop, 1) by decide +kernel) ?_
  refine s_iconst (show decode (am_cc m9_write) 28 = .ok (.iconst 0, 1) by decide +kernel) ⟨by decide, by decide⟩ ?_
  refine s_istore (show decode (am_cc m9_write) 29 = .ok (.istore 5, 2) by decide +kernel) (by decide) ?_
  exact k
theorem g9_write_31 {a1 a2 a3 a4 a5 : Int} {M : am_M} {Q : Option am_V → am_M → Prop} (k1 : 1296 ≤ a5 → am_AtN m9_write 59 [some (vr 86), some (vi a1), some (vi a2), some (vi a3), some (vi a4), some (vi a5)] [] KS M Q) (k2 : ¬ (1296 ≤ a5) → am_AtN m9_write 39 [some (vr 86), some (vi a1), some (vi a2), some (vi a3), some (vi a4), some (vi a5)] [] KS M Q) : am_AtN m9_write 31 [some (vr 86), some (vi a1), some (vi a2), some (vi a3), some (vi a4), some (vi a5)] [] KS M Q := by
  refine s_iload (show decode (am_cc m9_write) 31 = .ok (.iload 5, 2) by decide +kernel) rfl ?_
  refine s_sipush (show decode (am_cc m9_write) 33 = .ok (.sipush 1296, 3) by decide +kernel) ⟨by decide, by decide⟩ (by decide) ?_
  exact s_icmp_ge (tgt := 59) (show decode (am_cc m9_write) 36 = .ok (.if_icmp .ge 23, 3) by decide +kernel) (by decide) k1 k2
theorem g9_write_39 {a1 a2 a3 a4 a5 : Int} {M : am_M} {Q : Option am_V → am_M → Prop} (h1 : 0 ≤ a5) (h2 : a5 < 1296) (h3 : 0 ≤ a5) (h4 : a5 < 1296) (h5 : M 98 a5 = 0 ∨ M 98 a5 = 1) (h6 : -2147483648 ≤ a5 + 1 ∧ a5 + 1 ≤ 2147483647) (k : am_AtN m9_write 31 [some (vr 86), some (vi a1), some (vi a2), some (vi a3), some (vi a4), some (vi (a5 + 1))] [] KS (am_up M 99 a5 (M 98 a5)) Q) : am_AtN m9_write 39 [some (vr 86), some (vi a1), some (vi a2), some (vi a3), some (vi a4), some (vi a5)] [] KS M Q := by
  refine s_aload_n (show decode (am_cc m9_write) 39 = .ok (.aload_n 0, 1) by decide +kernel) rfl ?_
  refine s_getf (k := 14) (v := vr 99) (show decode (am_cc m9_write) 40 = .ok (.getfield 47, 3) by decide +kernel) kd86 (by decide) rfl jnX9 (by decide) lf_RX9_47 rfl ?_
  refine s_iload (show decode (am_cc m9_write) 43 = .ok (.iload 5, 2) by decide +kernel) rfl ?_
  refine s_aload_n (show decode (am_cc m9_write) 45 = .ok (.aload_n 0, 1) by decide +kernel) rfl ?_
  refine s_getf (k := 13) (v := vr 98) (show decode (am_cc m9_write) 46 = .ok (.getfield 44, 3) by decide +kernel) kd86 (by decide) rfl jnX9 (by decide) lf_RX9_44 rfl ?_
  refine s_iload (show decode (am_cc m9_write) 49 = .ok (.iload 5, 2) by decide +kernel) rfl ?_
  refine s_baload (show decode (am_cc m9_write) 51 = .ok (.baload, 1) by decide +kernel) kd98 h1 h2 ?_
  refine s_bastore (show decode (am_cc m9_write) 52 = .ok (.bastore, 1) by decide +kernel) kd99 h3 h4 h5 ?_
  refine s_iinc (show decode (am_cc m9_write) 53 = .ok (.iinc 5 1, 3) by decide +kernel) rfl (by decide) h6 ?_
  refine s_goto (tgt := 31) (show decode (am_cc m9_write) 56 = .ok (.goto (-25), 3) by decide +kernel) (by decide) ?_
  exact k
theorem g9_write_59 {a1 a2 a3 a4 a5 : Int} {M : am_M} {Q : Option am_V → am_M → Prop} (k : Q (some (vi (M 86 15))) M) : am_AtN m9_write 59 [some (vr 86), some (vi a1), some (vi a2), some (vi a3), some (vi a4), some (vi a5)] [] KS M Q := by
  refine s_aload_n (show decode (am_cc m9_write) 59 = .ok (.aload_n 0, 1) by decide +kernel) rfl ?_
  refine s_getf (k := 15) (v := vi (M 86 15)) (show decode (am_cc m9_write) 60 = .ok (.getfield 174, 3) by decide +kernel) kd86 (by decide) rfl jnX9 (by decide) lf_RX9_174 rfl ?_
  exact s_ireturn (show decode (am_cc m9_write) 63 = .ok (.ireturn, 1) by decide +kernel) rfl k
theorem g9_check_0 {a1 a2 a3 a4 : Int} {M : am_M} {Q : Option am_V → am_M → Prop} (k : am_CallN m9_noClaim [vi a1, vi a2, vi a3, vi a4] KS (am_up M 86 0 0) (fun r M' => am_AtN m9_check 13 [some (vr 86), some (vi a1), some (vi a2), some (vi a3), some (vi a4), none, none, none, none] (r.toList ++ []) KS M' Q)) : am_AtN m9_check 0 [some (vr 86), some (vi a1), some (vi a2), some (vi a3), some (vi a4), none, none, none, none] [] KS M Q := by
  refine s_aload_n (show decode (am_cc m9_check) 0 = .ok (.aload_n 0, 1) by decide +kernel) rfl ?_
  refine s_iconst (show decode (am_cc m9_check) 1 = .ok (.iconst 0, 1) by decide +kernel) ⟨by decide, by decide⟩ ?_
  refine s_putf (k := 0) (x := 0) (ty0 := tyX9) (show decode (am_cc m9_check) 2 = .ok (.putfield 95, 3) by decide +kernel) kd86 (by decide) rfl jnX9 tyX9_ok nmX9 (by decide) lf_RX9_95 rfl (Or.inl ⟨rfl, rfl, rfl⟩) ?_
  refine s_iload_n (show decode (am_cc m9_check) 5 = .ok (.iload_n 1, 1) by decide +kernel) rfl ?_
  refine s_iload_n (show decode (am_cc m9_check) 6 = .ok (.iload_n 2, 1) by decide +kernel) rfl ?_
  refine s_iload_n (show decode (am_cc m9_check) 7 = .ok (.iload_n 3, 1) by decide +kernel) rfl ?_
  refine s_iload (show decode (am_cc m9_check) 8 = .ok (.iload 4, 2) by decide +kernel) rfl ?_
  exact n_callS (as := [vi a1, vi a2, vi a3, vi a4]) (stk := []) (show decode (am_cc m9_check) 10 = .ok (.invokestatic 185, 3) by decide +kernel) lk_RX9_185 (by decide) (Nat.le_of_ble_eq_true rfl) ⟨rfl, rfl⟩ k
theorem g9_check_13 {a1 a2 a3 a4 t0 : Int} {M : am_M} {Q : Option am_V → am_M → Prop} (k1 : t0 = 0 → am_AtN m9_check 18 [some (vr 86), some (vi a1), some (vi a2), some (vi a3), some (vi a4), none, none, none, none] [] KS M Q) (k2 : ¬ (t0 = 0) → am_AtN m9_check 16 [some (vr 86), some (vi a1), some (vi a2), some (vi a3), some (vi a4), none, none, none, none] [] KS M Q) : am_AtN m9_check 13 [some (vr 86), some (vi a1), some (vi a2), some (vi a3), some (vi a4), none, none, none, none] [vi t0] KS M Q := by
  exact s_if_eq (tgt := 18) (show decode (am_cc m9_check) 13 = .ok (.ifCond .eq 5, 3) by decide +kernel) (by decide) k1 k2
theorem g9_check_16 {a1 a2 a3 a4 : Int} {M : am_M} {Q : Option am_V → am_M → Prop} (k : Q (some (vi (-1))) M) : am_AtN m9_check 16 [some (vr 86), some (vi a1), some (vi a2), some (vi a3), some (vi a4), none, none, none, none] [] KS M Q := by
  refine s_iconst (show decode (am_cc m9_check) 16 = .ok (.iconst (-1), 1) by decide +kernel) ⟨by decide, by decide⟩ ?_
  exact s_ireturn (show decode (am_cc m9_check) 17 = .ok (.ireturn, 1) by decide +kernel) rfl k
theorem g9_check_18 {a1 a2 a3 a4 : Int} {M : am_M} {Q : Option am_V → am_M → Prop} (k1 : ¬ M 99 0 = 0 → am_AtN m9_check 29 [some (vr 86), some (vi a1), some (vi a2), some (vi a3), some (vi a4), none, none, none, none] [] KS M Q) (k2 : M 99 0 = 0 → am_AtN m9_check 27 [some (vr 86), some (vi a1), some (vi a2), some (vi a3), some (vi a4), none, none, none, none] [] KS M Q) : am_AtN m9_check 18 [some (vr 86), some (vi a1), some (vi a2), some (vi a3), some (vi a4), none, none, none, none] [] KS M Q := by
  refine s_aload_n (show decode (am_cc m9_check) 18 = .ok (.aload_n 0, 1) by decide +kernel) rfl ?_
  refine s_getf (k := 14) (v := vr 99) (show decode (am_cc m9_check) 19 = .ok (.getfield 47, 3) by decide +kernel) kd86 (by decide) rfl jnX9 (by decide) lf_RX9_47 rfl ?_
  refine s_iconst (show decode (am_cc m9_check) 22 = .ok (.iconst 0, 1) by decide +kernel) ⟨by decide, by decide⟩ ?_
  refine s_baload (show decode (am_cc m9_check) 23 = .ok (.baload, 1) by decide +kernel) kd99 (by decide) (by decide) ?_
  exact s_if_ne (tgt := 29) (show decode (am_cc m9_check) 24 = .ok (.ifCond .ne 5, 3) by decide +kernel) (by decide) k1 k2
theorem g9_check_27 {a1 a2 a3 a4 : Int} {M : am_M} {Q : Option am_V → am_M → Prop} (k : Q (some (vi 1)) M) : am_AtN m9_check 27 [some (vr 86), some (vi a1), some (vi a2), some (vi a3), some (vi a4), none, none, none, none] [] KS M Q := by
  refine s_iconst (show decode (am_cc m9_check) 27 = .ok (.iconst 1, 1) by decide +kernel) ⟨by decide, by decide⟩ ?_
  exact s_ireturn (show decode (am_cc m9_check) 28 = .ok (.ireturn, 1) by decide +kernel) rfl k
theorem g9_check_29 {a1 a2 a3 a4 : Int} {M : am_M} {Q : Option am_V → am_M → Prop} (k : am_AtN m9_check 38 [some (vr 86), some (vi a1), some (vi a2), some (vi a3), some (vi a4), some (vi 1), some (vi 1), some (vi 0), none] [] KS M Q) : am_AtN m9_check 29 [some (vr 86), some (vi a1), some (vi a2), some (vi a3), some (vi a4), none, none, none, none] [] KS M Q := by
  refine s_iconst (show decode (am_cc m9_check) 29 = .ok (.iconst 1, 1) by decide +kernel) ⟨by decide, by decide⟩ ?_
  refine s_istore (show decode (am_cc m9_check) 30 = .ok (.istore 5, 2) by decide +kernel) (by decide) ?_
  refine s_iconst (show decode (am_cc m9_check) 32 = .ok (.iconst 1, 1) by decide +kernel) ⟨by decide, by decide⟩ ?_
  refine s_istore (show decode (am_cc m9_check) 33 = .ok (.istore 6, 2) by decide +kernel) (by decide) ?_
  refine s_iconst (show decode (am_cc m9_check) 35 = .ok (.iconst 0, 1) by decide +kernel) ⟨by decide, by decide⟩ ?_
  refine s_istore (show decode (am_cc m9_check) 36 = .ok (.istore 7, 2) by decide +kernel) (by decide) ?_
  exact k
theorem g9_check_38 {a1 a2 a3 a4 a5 a6 a7 : Int} {M : am_M} {Q : Option am_V → am_M → Prop} (k1 : 1296 ≤ a7 → am_AtN m9_check 149 [some (vr 86), some (vi a1), some (vi a2), some (vi a3), some (vi a4), some (vi a5), some (vi a6), some (vi a7), none] [] KS M Q) (k2 : ¬ (1296 ≤ a7) → am_AtN m9_check 46 [some (vr 86), some (vi a1), some (vi a2), some (vi a3), some (vi a4), some (vi a5), some (vi a6), some (vi a7), none] [] KS M Q) : am_AtN m9_check 38 [some (vr 86), some (vi a1), some (vi a2), some (vi a3), some (vi a4), some (vi a5), some (vi a6), some (vi a7), none] [] KS M Q := by
  refine s_iload (show decode (am_cc m9_check) 38 = .ok (.iload 7, 2) by decide +kernel) rfl ?_
  refine s_sipush (show decode (am_cc m9_check) 40 = .ok (.sipush 1296, 3) by decide +kernel) ⟨by decide, by decide⟩ (by decide) ?_
  exact s_icmp_ge (tgt := 149) (show decode (am_cc m9_check) 43 = .ok (.if_icmp .ge 106, 3) by decide +kernel) (by decide) k1 k2
theorem g9_check_46 {a1 a2 a3 a4 a5 a6 a7 : Int} {M : am_M} {Q : Option am_V → am_M → Prop} (k : am_AtN m9_check 49 [some (vr 86), some (vi a1), some (vi a2), some (vi a3), some (vi a4), some (vi a5), some (vi a6), some (vi a7), some (vi 0)] [] KS M Q) : am_AtN m9_check 46 [some (vr 86), some (vi a1), some (vi a2), some (vi a3), some (vi a4), some (vi a5), some (vi a6), some (vi a7), none] [] KS M Q := by
  refine s_iconst (show decode (am_cc m9_check) 46 = .ok (.iconst 0, 1) by decide +kernel) ⟨by decide, by decide⟩ ?_
  refine s_istore (show decode (am_cc m9_check) 47 = .ok (.istore 8, 2) by decide +kernel) (by decide) ?_
  exact k
theorem g9_check_49 {a1 a2 a3 a4 a5 a6 a7 a8 : Int} {M : am_M} {Q : Option am_V → am_M → Prop} (k1 : M 86 1 ≤ a8 → am_AtN m9_check 107 [some (vr 86), some (vi a1), some (vi a2), some (vi a3), some (vi a4), some (vi a5), some (vi a6), some (vi a7), some (vi a8)] [] KS M Q) (k2 : ¬ (M 86 1 ≤ a8) → am_AtN m9_check 58 [some (vr 86), some (vi a1), some (vi a2), some (vi a3), some (vi a4), some (vi a5), some (vi a6), some (vi a7), some (vi a8)] [] KS M Q) : am_AtN m9_check 49 [some (vr 86), some (vi a1), some (vi a2), some (vi a3), some (vi a4), some (vi a5), some (vi a6), some (vi a7), some (vi a8)] [] KS M Q := by
  refine s_iload (show decode (am_cc m9_check) 49 = .ok (.iload 8, 2) by decide +kernel) rfl ?_
  refine s_aload_n (show decode (am_cc m9_check) 51 = .ok (.aload_n 0, 1) by decide +kernel) rfl ?_
  refine s_getf (k := 1) (v := vi (M 86 1)) (show decode (am_cc m9_check) 52 = .ok (.getfield 99, 3) by decide +kernel) kd86 (by decide) rfl jnX9 (by decide) lf_RX9_99 rfl ?_
  exact s_icmp_ge (tgt := 107) (show decode (am_cc m9_check) 55 = .ok (.if_icmp .ge 52, 3) by decide +kernel) (by decide) k1 k2
theorem g9_check_58 {a1 a2 a3 a4 a5 a6 a7 a8 : Int} {M : am_M} {Q : Option am_V → am_M → Prop} (h1 : 0 ≤ a7) (h2 : a7 < 1296) (k1 : M 99 a7 = 0 → am_AtN m9_check 107 [some (vr 86), some (vi a1), some (vi a2), some (vi a3), some (vi a4), some (vi a5), some (vi a6), some (vi a7), some (vi a8)] [] KS M Q) (k2 : ¬ (M 99 a7 = 0) → am_AtN m9_check 68 [some (vr 86), some (vi a1), some (vi a2), some (vi a3), some (vi a4), some (vi a5), some (vi a6), some (vi a7), some (vi a8)] [] KS M Q) : am_AtN m9_check 58 [some (vr 86), some (vi a1), some (vi a2), some (vi a3), some (vi a4), some (vi a5), some (vi a6), some (vi a7), some (vi a8)] [] KS M Q := by
  refine s_aload_n (show decode (am_cc m9_check) 58 = .ok (.aload_n 0, 1) by decide +kernel) rfl ?_
  refine s_getf (k := 14) (v := vr 99) (show decode (am_cc m9_check) 59 = .ok (.getfield 47, 3) by decide +kernel) kd86 (by decide) rfl jnX9 (by decide) lf_RX9_47 rfl ?_
  refine s_iload (show decode (am_cc m9_check) 62 = .ok (.iload 7, 2) by decide +kernel) rfl ?_
  refine s_baload (show decode (am_cc m9_check) 64 = .ok (.baload, 1) by decide +kernel) kd99 h1 h2 ?_
  exact s_if_eq (tgt := 107) (show decode (am_cc m9_check) 65 = .ok (.ifCond .eq 42, 3) by decide +kernel) (by decide) k1 k2
theorem g9_check_68 {a1 a2 a3 a4 a5 a6 a7 a8 : Int} {M : am_M} {Q : Option am_V → am_M → Prop} (k1 : a5 = 0 → am_AtN m9_check 98 [some (vr 86), some (vi a1), some (vi a2), some (vi a3), some (vi a4), some (vi a5), some (vi a6), some (vi a7), some (vi a8)] [] KS M Q) (k2 : ¬ (a5 = 0) → am_AtN m9_check 73 [some (vr 86), some (vi a1), some (vi a2), some (vi a3), some (vi a4), some (vi a5), some (vi a6), some (vi a7), some (vi a8)] [] KS M Q) : am_AtN m9_check 68 [some (vr 86), some (vi a1), some (vi a2), some (vi a3), some (vi a4), some (vi a5), some (vi a6), some (vi a7), some (vi a8)] [] KS M Q := by
  refine s_iload (show decode (am_cc m9_check) 68 = .ok (.iload 5, 2) by decide +kernel) rfl ?_
  exact s_if_eq (tgt := 98) (show decode (am_cc m9_check) 70 = .ok (.ifCond .eq 28, 3) by decide +kernel) (by decide) k1 k2
theorem g9_check_73 {a1 a2 a3 a4 a5 a6 a7 a8 : Int} {M : am_M} {Q : Option am_V → am_M → Prop} (k : am_CallN m9_leadsTo [vr 86, vi a7, vi a8, vi a1, vi a2, vi a3, vi a4] KS M (fun r M' => am_AtN m9_check 90 [some (vr 86), some (vi a1), some (vi a2), some (vi a3), some (vi a4), some (vi a5), some (vi a6), some (vi a7), some (vi a8)] (r.toList ++ [vr 99]) KS M' Q)) : am_AtN m9_check 73 [some (vr 86), some (vi a1), some (vi a2), some (vi a3), some (vi a4), some (vi a5), some (vi a6), some (vi a7), some (vi a8)] [] KS M Q := by
  refine s_aload_n (show decode (am_cc m9_check) 73 = .ok (.aload_n 0, 1) by decide +kernel) rfl ?_
  refine s_getf (k := 14) (v := vr 99) (show decode (am_cc m9_check) 74 = .ok (.getfield 47, 3) by decide +kernel) kd86 (by decide) rfl jnX9 (by decide) lf_RX9_47 rfl ?_
  refine s_aload_n (show decode (am_cc m9_check) 77 = .ok (.aload_n 0, 1) by decide +kernel) rfl ?_
  refine s_iload (show decode (am_cc m9_check) 78 = .ok (.iload 7, 2) by decide +kernel) rfl ?_
  refine s_iload (show decode (am_cc m9_check) 80 = .ok (.iload 8, 2) by decide +kernel) rfl ?_
  refine s_iload_n (show decode (am_cc m9_check) 82 = .ok (.iload_n 1, 1) by decide +kernel) rfl ?_
  refine s_iload_n (show decode (am_cc m9_check) 83 = .ok (.iload_n 2, 1) by decide +kernel) rfl ?_
  refine s_iload_n (show decode (am_cc m9_check) 84 = .ok (.iload_n 3, 1) by decide +kernel) rfl ?_
  refine s_iload (show decode (am_cc m9_check) 85 = .ok (.iload 4, 2) by decide +kernel) rfl ?_
  exact n_callV (as := [vi a7, vi a8, vi a1, vi a2, vi a3, vi a4]) (stk := [vr 99]) (show decode (am_cc m9_check) 87 = .ok (.invokevirtual 181, 3) by decide +kernel) lk_RX9_181 kd86 (by decide) rfl rfl (by decide) (Nat.le_of_ble_eq_true rfl) ⟨rfl, rfl⟩ k
theorem g9_check_90 {a1 a2 a3 a4 a5 a6 a7 a8 t0 t1 : Int} {M : am_M} {Q : Option am_V → am_M → Prop} {n0 : Nat} {q0 : List Int} (h1 : am_kd KS t0 = some (12, n0, q0)) (h2 : 0 ≤ t1) (h3 : t1 < (n0 : Int)) (k1 : M t0 t1 = 0 → am_AtN m9_check 98 [some (vr 86), some (vi a1), some (vi a2), some (vi a3), some (vi a4), some (vi a5), some (vi a6), some (vi a7), some (vi a8)] [] KS M Q) (k2 : ¬ (M t0 t1 = 0) → am_AtN m9_check 94 [some (vr 86), some (vi a1), some (vi a2), some (vi a3), some (vi a4), some (vi a5), some (vi a6), some (vi a7), some (vi a8)] [] KS M Q) : am_AtN m9_check 90 [some (vr 86), some (vi a1), some (vi a2), some (vi a3), some (vi a4), some (vi a5), some (vi a6), some (vi a7), some (vi a8)] [vi t1, vr t0] KS M Q := by
  refine s_baload (show decode (am_cc m9_check) 90 = .ok (.baload, 1) by decide +kernel) h1 h2 h3 ?_
  exact s_if_eq (tgt := 98) (show decode (am_cc m9_check) 91 = .ok (.ifCond .eq 7, 3) by decide +kernel) (by decide) k1 k2
theorem g9_check_94 {a1 a2 a3 a4 a5 a6 a7 a8 : Int} {M : am_M} {Q : Option am_V → am_M → Prop} (k : am_AtN m9_check 99 [some (vr 86), some (vi a1), some (vi a2), some (vi a3), some (vi a4), some (vi a5), some (vi a6), some (vi a7), some (vi a8)] [vi 1] KS M Q) : am_AtN m9_check 94 [some (vr 86), some (vi a1), some (vi a2), some (vi a3), some (vi a4), some (vi a5), some (vi a6), some (vi a7), some (vi a8)] [] KS M Q := by
  refine s_iconst (show decode (am_cc m9_check) 94 = .ok (.iconst 1, 1) by decide +kernel) ⟨by decide, by decide⟩ ?_
  refine s_goto (tgt := 99) (show decode (am_cc m9_check) 95 = .ok (.goto 4, 3) by decide +kernel) (by decide) ?_
  exact k
theorem g9_check_98 {a1 a2 a3 a4 a5 a6 a7 a8 : Int} {M : am_M} {Q : Option am_V → am_M → Prop} (k : am_AtN m9_check 99 [some (vr 86), some (vi a1), some (vi a2), some (vi a3), some (vi a4), some (vi a5), some (vi a6), some (vi a7), some (vi a8)] [vi 0] KS M Q) : am_AtN m9_check 98 [some (vr 86), some (vi a1), some (vi a2), some (vi a3), some (vi a4), some (vi a5), some (vi a6), some (vi a7), some (vi a8)] [] KS M Q := by
  refine s_iconst (show decode (am_cc m9_check) 98 = .ok (.iconst 0, 1) by decide +kernel) ⟨by decide, by decide⟩ ?_
  exact k
theorem g9_check_99 {a1 a2 a3 a4 a5 a6 a7 a8 t0 : Int} {M : am_M} {Q : Option am_V → am_M → Prop} (h1 : -2147483648 ≤ a8 + 1 ∧ a8 + 1 ≤ 2147483647) (k : am_AtN m9_check 49 [some (vr 86), some (vi a1), some (vi a2), some (vi a3), some (vi a4), some (vi t0), some (vi a6), some (vi a7), some (vi (a8 + 1))] [] KS M Q) : am_AtN m9_check 99 [some (vr 86), some (vi a1), some (vi a2), some (vi a3), some (vi a4), some (vi a5), some (vi a6), some (vi a7), some (vi a8)] [vi t0] KS M Q := by
  refine s_istore (show decode (am_cc m9_check) 99 = .ok (.istore 5, 2) by decide +kernel) (by decide) ?_
  refine s_iinc (show decode (am_cc m9_check) 101 = .ok (.iinc 8 1, 3) by decide +kernel) rfl (by decide) h1 ?_
  refine s_goto (tgt := 49) (show decode (am_cc m9_check) 104 = .ok (.goto (-55), 3) by decide +kernel) (by decide) ?_
  exact k
theorem g9_check_107 {a1 a2 a3 a4 a5 a6 a7 a8 : Int} {M : am_M} {Q : Option am_V → am_M → Prop} (k1 : a6 = 0 → am_AtN m9_check 140 [some (vr 86), some (vi a1), some (vi a2), some (vi a3), some (vi a4), some (vi a5), some (vi a6), some (vi a7), some (vi a8)] [] KS M Q) (k2 : ¬ (a6 = 0) → am_AtN m9_check 112 [some (vr 86), some (vi a1), some (vi a2), some (vi a3), some (vi a4), some (vi a5), some (vi a6), some (vi a7), some (vi a8)] [] KS M Q) : am_AtN m9_check 107 [some (vr 86), some (vi a1), some (vi a2), some (vi a3), some (vi a4), some (vi a5), some (vi a6), some (vi a7), some (vi a8)] [] KS M Q := by
  refine s_iload (show decode (am_cc m9_check) 107 = .ok (.iload 6, 2) by decide +kernel) rfl ?_
  exact s_if_eq (tgt := 140) (show decode (am_cc m9_check) 109 = .ok (.ifCond .eq 31, 3) by decide +kernel) (by decide) k1 k2
theorem g9_check_112 {a1 a2 a3 a4 a5 a6 a7 a8 : Int} {M : am_M} {Q : Option am_V → am_M → Prop} (h1 : 0 ≤ a7) (h2 : a7 < 1296) (k1 : M 99 a7 = 0 → am_AtN m9_check 136 [some (vr 86), some (vi a1), some (vi a2), some (vi a3), some (vi a4), some (vi a5), some (vi a6), some (vi a7), some (vi a8)] [] KS M Q) (k2 : ¬ (M 99 a7 = 0) → am_AtN m9_check 122 [some (vr 86), some (vi a1), some (vi a2), some (vi a3), some (vi a4), some (vi a5), some (vi a6), some (vi a7), some (vi a8)] [] KS M Q) : am_AtN m9_check 112 [some (vr 86), some (vi a1), some (vi a2), some (vi a3), some (vi a4), some (vi a5), some (vi a6), some (vi a7), some (vi a8)] [] KS M Q := by
  refine s_aload_n (show decode (am_cc m9_check) 112 = .ok (.aload_n 0, 1) by decide +kernel) rfl ?_
  refine s_getf (k := 14) (v := vr 99) (show decode (am_cc m9_check) 113 = .ok (.getfield 47, 3) by decide +kernel) kd86 (by decide) rfl jnX9 (by decide) lf_RX9_47 rfl ?_
  refine s_iload (show decode (am_cc m9_check) 116 = .ok (.iload 7, 2) by decide +kernel) rfl ?_
  refine s_baload (show decode (am_cc m9_check) 118 = .ok (.baload, 1) by decide +kernel) kd99 h1 h2 ?_
  exact s_if_eq (tgt := 136) (show decode (am_cc m9_check) 119 = .ok (.ifCond .eq 17, 3) by decide +kernel) (by decide) k1 k2
theorem g9_check_122 {a1 a2 a3 a4 a5 a6 a7 a8 : Int} {M : am_M} {Q : Option am_V → am_M → Prop} (k : am_CallN m9_isBad [vr 86, vi a7, vi a1, vi a2, vi a3, vi a4] KS M (fun r M' => am_AtN m9_check 133 [some (vr 86), some (vi a1), some (vi a2), some (vi a3), some (vi a4), some (vi a5), some (vi a6), some (vi a7), some (vi a8)] (r.toList ++ []) KS M' Q)) : am_AtN m9_check 122 [some (vr 86), some (vi a1), some (vi a2), some (vi a3), some (vi a4), some (vi a5), some (vi a6), some (vi a7), some (vi a8)] [] KS M Q := by
  refine s_aload_n (show decode (am_cc m9_check) 122 = .ok (.aload_n 0, 1) by decide +kernel) rfl ?_
  refine s_iload (show decode (am_cc m9_check) 123 = .ok (.iload 7, 2) by decide +kernel) rfl ?_
  refine s_iload_n (show decode (am_cc m9_check) 125 = .ok (.iload_n 1, 1) by decide +kernel) rfl ?_
  refine s_iload_n (show decode (am_cc m9_check) 126 = .ok (.iload_n 2, 1) by decide +kernel) rfl ?_
  refine s_iload_n (show decode (am_cc m9_check) 127 = .ok (.iload_n 3, 1) by decide +kernel) rfl ?_
  refine s_iload (show decode (am_cc m9_check) 128 = .ok (.iload 4, 2) by decide +kernel) rfl ?_
  exact n_callV (as := [vi a7, vi a1, vi a2, vi a3, vi a4]) (stk := []) (show decode (am_cc m9_check) 130 = .ok (.invokevirtual 177, 3) by decide +kernel) lk_RX9_177 kd86 (by decide) rfl rfl (by decide) (Nat.le_of_ble_eq_true rfl) ⟨rfl, rfl⟩ k
theorem g9_check_133 {a1 a2 a3 a4 a5 a6 a7 a8 t0 : Int} {M : am_M} {Q : Option am_V → am_M → Prop} (k1 : ¬ t0 = 0 → am_AtN m9_check 140 [some (vr 86), some (vi a1), some (vi a2), some (vi a3), some (vi a4), some (vi a5), some (vi a6), some (vi a7), some (vi a8)] [] KS M Q) (k2 : t0 = 0 → am_AtN m9_check 136 [some (vr 86), some (vi a1), some (vi a2), some (vi a3), some (vi a4), some (vi a5), some (vi a6), some (vi a7), some (vi a8)] [] KS M Q) : am_AtN m9_check 133 [some (vr 86), some (vi a1), some (vi a2), some (vi a3), some (vi a4), some (vi a5), some (vi a6), some (vi a7), some (vi a8)] [vi t0] KS M Q := by
  exact s_if_ne (tgt := 140) (show decode (am_cc m9_check) 133 = .ok (.ifCond .ne 7, 3) by decide +kernel) (by decide) k1 k2
theorem g9_check_136 {a1 a2 a3 a4 a5 a6 a7 a8 : Int} {M : am_M} {Q : Option am_V → am_M → Prop} (k : am_AtN m9_check 141 [some (vr 86), some (vi a1), some (vi a2), some (vi a3), some (vi a4), some (vi a5), some (vi a6), some (vi a7), some (vi a8)] [vi 1] KS M Q) : am_AtN m9_check 136 [some (vr 86), some (vi a1), some (vi a2), some (vi a3), some (vi a4), some (vi a5), some (vi a6), some (vi a7), some (vi a8)] [] KS M Q := by
  refine s_iconst (show decode (am_cc m9_check) 136 = .ok (.iconst 1, 1) by decide +kernel) ⟨by decide, by decide⟩ ?_
  refine s_goto (tgt := 141) (show decode (am_cc m9_check) 137 = .ok (.goto 4, 3) by decide +kernel) (by decide) ?_
  exact k
theorem g9_check_140 {a1 a2 a3 a4 a5 a6 a7 a8 : Int} {M : am_M} {Q : Option am_V → am_M → Prop} (k : am_AtN m9_check 141 [some (vr 86), some (vi a1), some (vi a2), some (vi a3), some (vi a4), some (vi a5), some (vi a6), some (vi a7), some (vi a8)] [vi 0] KS M Q) : am_AtN m9_check 140 [some (vr 86), some (vi a1), some (vi a2), some (vi a3), some (vi a4), some (vi a5), some (vi a6), some (vi a7), some (vi a8)] [] KS M Q := by
  refine s_iconst (show decode (am_cc m9_check) 140 = .ok (.iconst 0, 1) by decide +kernel) ⟨by decide, by decide⟩ ?_
  exact k
theorem g9_check_141 {a1 a2 a3 a4 a5 a6 a7 a8 t0 : Int} {M : am_M} {Q : Option am_V → am_M → Prop} (h1 : -2147483648 ≤ a7 + 1 ∧ a7 + 1 ≤ 2147483647) (k : am_AtN m9_check 38 [some (vr 86), some (vi a1), some (vi a2), some (vi a3), some (vi a4), some (vi a5), some (vi t0), some (vi (a7 + 1)), none] [] KS M Q) : am_AtN m9_check 141 [some (vr 86), some (vi a1), some (vi a2), some (vi a3), some (vi a4), some (vi a5), some (vi a6), some (vi a7), some (vi a8)] [vi t0] KS M Q := by
  refine s_istore (show decode (am_cc m9_check) 141 = .ok (.istore 6, 2) by decide +kernel) (by decide) ?_
  refine s_iinc (show decode (am_cc m9_check) 143 = .ok (.iinc 7 1, 3) by decide +kernel) rfl (by decide) h1 ?_
  refine s_goto (tgt := 38) (show decode (am_cc m9_check) 146 = .ok (.goto (-108), 3) by decide +kernel) (by decide) ?_
  refine am_fg 8 ?_
  exact k
theorem g9_check_149 {a1 a2 a3 a4 a5 a6 a7 : Int} {M : am_M} {Q : Option am_V → am_M → Prop} (k1 : ¬ a5 = 0 → am_AtN m9_check 158 [some (vr 86), some (vi a1), some (vi a2), some (vi a3), some (vi a4), some (vi a5), some (vi a6), some (vi a7), none] [] KS M Q) (k2 : a5 = 0 → am_AtN m9_check 154 [some (vr 86), some (vi a1), some (vi a2), some (vi a3), some (vi a4), some (vi a5), some (vi a6), some (vi a7), none] [] KS M Q) : am_AtN m9_check 149 [some (vr 86), some (vi a1), some (vi a2), some (vi a3), some (vi a4), some (vi a5), some (vi a6), some (vi a7), none] [] KS M Q := by
  refine s_iload (show decode (am_cc m9_check) 149 = .ok (.iload 5, 2) by decide +kernel) rfl ?_
  exact s_if_ne (tgt := 158) (show decode (am_cc m9_check) 151 = .ok (.ifCond .ne 7, 3) by decide +kernel) (by decide) k1 k2
theorem g9_check_154 {a1 a2 a3 a4 a5 a6 a7 : Int} {M : am_M} {Q : Option am_V → am_M → Prop} (k : am_AtN m9_check 168 [some (vr 86), some (vi a1), some (vi a2), some (vi a3), some (vi a4), some (vi a5), some (vi a6), some (vi a7), none] [vi 2] KS M Q) : am_AtN m9_check 154 [some (vr 86), some (vi a1), some (vi a2), some (vi a3), some (vi a4), some (vi a5), some (vi a6), some (vi a7), none] [] KS M Q := by
  refine s_iconst (show decode (am_cc m9_check) 154 = .ok (.iconst 2, 1) by decide +kernel) ⟨by decide, by decide⟩ ?_
  refine s_goto (tgt := 168) (show decode (am_cc m9_check) 155 = .ok (.goto 13, 3) by decide +kernel) (by decide) ?_
  exact k
theorem g9_check_158 {a1 a2 a3 a4 a5 a6 a7 : Int} {M : am_M} {Q : Option am_V → am_M → Prop} (k1 : ¬ a6 = 0 → am_AtN m9_check 167 [some (vr 86), some (vi a1), some (vi a2), some (vi a3), some (vi a4), some (vi a5), some (vi a6), some (vi a7), none] [] KS M Q) (k2 : a6 = 0 → am_AtN m9_check 163 [some (vr 86), some (vi a1), some (vi a2), some (vi a3), some (vi a4), some (vi a5), some (vi a6), some (vi a7), none] [] KS M Q) : am_AtN m9_check 158 [some (vr 86), some (vi a1), some (vi a2), some (vi a3), some (vi a4), some (vi a5), some (vi a6), some (vi a7), none] [] KS M Q := by
  refine s_iload (show decode (am_cc m9_check) 158 = .ok (.iload 6, 2) by decide +kernel) rfl ?_
  exact s_if_ne (tgt := 167) (show decode (am_cc m9_check) 160 = .ok (.ifCond .ne 7, 3) by decide +kernel) (by decide) k1 k2
theorem g9_check_163 {a1 a2 a3 a4 a5 a6 a7 : Int} {M : am_M} {Q : Option am_V → am_M → Prop} (k : am_AtN m9_check 168 [some (vr 86), some (vi a1), some (vi a2), some (vi a3), some (vi a4), some (vi a5), some (vi a6), some (vi a7), none] [vi 3] KS M Q) : am_AtN m9_check 163 [some (vr 86), some (vi a1), some (vi a2), some (vi a3), some (vi a4), some (vi a5), some (vi a6), some (vi a7), none] [] KS M Q := by
  refine s_iconst (show decode (am_cc m9_check) 163 = .ok (.iconst 3, 1) by decide +kernel) ⟨by decide, by decide⟩ ?_
  refine s_goto (tgt := 168) (show decode (am_cc m9_check) 164 = .ok (.goto 4, 3) by decide +kernel) (by decide) ?_
  exact k
theorem g9_check_167 {a1 a2 a3 a4 a5 a6 a7 : Int} {M : am_M} {Q : Option am_V → am_M → Prop} (k : am_AtN m9_check 168 [some (vr 86), some (vi a1), some (vi a2), some (vi a3), some (vi a4), some (vi a5), some (vi a6), some (vi a7), none] [vi 0] KS M Q) : am_AtN m9_check 167 [some (vr 86), some (vi a1), some (vi a2), some (vi a3), some (vi a4), some (vi a5), some (vi a6), some (vi a7), none] [] KS M Q := by
  refine s_iconst (show decode (am_cc m9_check) 167 = .ok (.iconst 0, 1) by decide +kernel) ⟨by decide, by decide⟩ ?_
  exact k
theorem g9_check_168 {a1 a2 a3 a4 a5 a6 a7 t0 : Int} {M : am_M} {Q : Option am_V → am_M → Prop} (k : Q (some (vi t0)) M) : am_AtN m9_check 168 [some (vr 86), some (vi a1), some (vi a2), some (vi a3), some (vi a4), some (vi a5), some (vi a6), some (vi a7), none] [vi t0] KS M Q := by
  exact s_ireturn (show decode (am_cc m9_check) 168 = .ok (.ireturn, 1) by decide +kernel) rfl k
theorem g9_often_0 {a0 a1 : Int} {K : am_K} {M : am_M} {Q : Option am_V → am_M → Prop} (k : am_AtN m9_often 4 [some (vi a0), some (vi a1), some (vi 0), some (vi 0)] [] K M Q) : am_AtN m9_often 0 [some (vi a0), some (vi a1), none, none] [] K M Q := by
  refine s_iconst (show decode (am_cc m9_often) 0 = .ok (.iconst 0, 1) by decide +kernel) ⟨by decide, by decide⟩ ?_
  refine s_istore_n (show decode (am_cc m9_often) 1 = .ok (.istore_n 2, 1) by decide +kernel) (by decide) ?_
  refine s_iconst (show decode (am_cc m9_often) 2 = .ok (.iconst 0, 1) by decide +kernel) ⟨by decide, by decide⟩ ?_
  refine s_istore_n (show decode (am_cc m9_often) 3 = .ok (.istore_n 3, 1) by decide +kernel) (by decide) ?_
  exact k
theorem g9_often_4 {a0 a1 a2 a3 : Int} {K : am_K} {M : am_M} {Q : Option am_V → am_M → Prop} (k : am_CallN m9_longOf [vi a0] K M (fun r M' => am_AtN m9_often 9 [some (vi a0), some (vi a1), some (vi a2), some (vi a3)] (r.toList ++ [vi a3]) K M' Q)) : am_AtN m9_often 4 [some (vi a0), some (vi a1), some (vi a2), some (vi a3)] [] K M Q := by
  refine s_iload_n (show decode (am_cc m9_often) 4 = .ok (.iload_n 3, 1) by decide +kernel) rfl ?_
  refine s_iload_n (show decode (am_cc m9_often) 5 = .ok (.iload_n 0, 1) by decide +kernel) rfl ?_
  exact n_callS (as := [vi a0]) (stk := [vi a3]) (show decode (am_cc m9_often) 6 = .ok (.invokestatic 152, 3) by decide +kernel) lk_RX9_152 (by decide) (Nat.le_of_ble_eq_true rfl) ⟨rfl, rfl⟩ k
theorem g9_often_9 {a0 a1 a2 a3 t0 t1 : Int} {K : am_K} {M : am_M} {Q : Option am_V → am_M → Prop} (k1 : t1 ≤ t0 → am_AtN m9_often 35 [some (vi a0), some (vi a1), some (vi a2), some (vi a3)] [] K M Q) (k2 : ¬ (t1 ≤ t0) → am_AtN m9_often 12 [some (vi a0), some (vi a1), some (vi a2), some (vi a3)] [] K M Q) : am_AtN m9_often 9 [some (vi a0), some (vi a1), some (vi a2), some (vi a3)] [vi t1, vi t0] K M Q := by
  exact s_icmp_ge (tgt := 35) (show decode (am_cc m9_often) 9 = .ok (.if_icmp .ge 26, 3) by decide +kernel) (by decide) k1 k2
theorem g9_often_12 {a0 a1 a2 a3 : Int} {K : am_K} {M : am_M} {Q : Option am_V → am_M → Prop} (k : am_CallN m9_letterOf [vi a0, vi a3] K M (fun r M' => am_AtN m9_often 18 [some (vi a0), some (vi a1), some (vi a2), some (vi a3)] (r.toList ++ [vi a2]) K M' Q)) : am_AtN m9_often 12 [some (vi a0), some (vi a1), some (vi a2), some (vi a3)] [] K M Q := by
  refine s_iload_n (show decode (am_cc m9_often) 12 = .ok (.iload_n 2, 1) by decide +kernel) rfl ?_
  refine s_iload_n (show decode (am_cc m9_often) 13 = .ok (.iload_n 0, 1) by decide +kernel) rfl ?_
  refine s_iload_n (show decode (am_cc m9_often) 14 = .ok (.iload_n 3, 1) by decide +kernel) rfl ?_
  exact n_callS (as := [vi a0, vi a3]) (stk := [vi a2]) (show decode (am_cc m9_often) 15 = .ok (.invokestatic 156, 3) by decide +kernel) lk_RX9_156 (by decide) (Nat.le_of_ble_eq_true rfl) ⟨rfl, rfl⟩ k
theorem g9_often_18 {a0 a1 a2 a3 t0 t1 : Int} {K : am_K} {M : am_M} {Q : Option am_V → am_M → Prop} (k1 : ¬ t1 = a1 → am_AtN m9_often 26 [some (vi a0), some (vi a1), some (vi a2), some (vi a3)] [vi t0] K M Q) (k2 : t1 = a1 → am_AtN m9_often 22 [some (vi a0), some (vi a1), some (vi a2), some (vi a3)] [vi t0] K M Q) : am_AtN m9_often 18 [some (vi a0), some (vi a1), some (vi a2), some (vi a3)] [vi t1, vi t0] K M Q := by
  refine s_iload_n (show decode (am_cc m9_often) 18 = .ok (.iload_n 1, 1) by decide +kernel) rfl ?_
  exact s_icmp_ne (tgt := 26) (show decode (am_cc m9_often) 19 = .ok (.if_icmp .ne 7, 3) by decide +kernel) (by decide) k1 k2
theorem g9_often_22 {a0 a1 a2 a3 t0 : Int} {K : am_K} {M : am_M} {Q : Option am_V → am_M → Prop} (k : am_AtN m9_often 27 [some (vi a0), some (vi a1), some (vi a2), some (vi a3)] [vi 1, vi t0] K M Q) : am_AtN m9_often 22 [some (vi a0), some (vi a1), some (vi a2), some (vi a3)] [vi t0] K M Q := by
  refine s_iconst (show decode (am_cc m9_often) 22 = .ok (.iconst 1, 1) by decide +kernel) ⟨by decide, by decide⟩ ?_
  refine s_goto (tgt := 27) (show decode (am_cc m9_often) 23 = .ok (.goto 4, 3) by decide +kernel) (by decide) ?_
  exact k
theorem g9_often_26 {a0 a1 a2 a3 t0 : Int} {K : am_K} {M : am_M} {Q : Option am_V → am_M → Prop} (k : am_AtN m9_often 27 [some (vi a0), some (vi a1), some (vi a2), some (vi a3)] [vi 0, vi t0] K M Q) : am_AtN m9_often 26 [some (vi a0), some (vi a1), some (vi a2), some (vi a3)] [vi t0] K M Q := by
  refine s_iconst (show decode (am_cc m9_often) 26 = .ok (.iconst 0, 1) by decide +kernel) ⟨by decide, by decide⟩ ?_
  exact k
theorem g9_often_27 {a0 a1 a2 a3 t0 t1 : Int} {K : am_K} {M : am_M} {Q : Option am_V → am_M → Prop} (h1 : -2147483648 ≤ t0 + t1 ∧ t0 + t1 ≤ 2147483647) (h2 : -2147483648 ≤ a3 + 1 ∧ a3 + 1 ≤ 2147483647) (k : am_AtN m9_often 4 [some (vi a0), some (vi a1), some (vi (t0 + t1)), some (vi (a3 + 1))] [] K M Q) : am_AtN m9_often 27 [some (vi a0), some (vi a1), some (vi a2), some (vi a3)] [vi t1, vi t0] K M Q := by
  refine s_iadd (show decode (am_cc m9_often) 27 = .ok (.iadd, 1) by decide +kernel) h1 ?_
  refine s_istore_n (show decode (am_cc m9_often) 28 = .ok (.istore_n 2, 1) by decide +kernel) (by decide) ?_
  refine s_iinc (show decode (am_cc m9_often) 29 = .ok (.iinc 3 1, 3) by decide +kernel) rfl (by decide) h2 ?_
  refine s_goto (tgt := 4) (show decode (am_cc m9_often) 32 = .ok (.goto (-28), 3) by decide +kernel) (by decide) ?_
  exact k
theorem g9_often_35 {a0 a1 a2 a3 : Int} {K : am_K} {M : am_M} {Q : Option am_V → am_M → Prop} (k : Q (some (vi a2)) M) : am_AtN m9_often 35 [some (vi a0), some (vi a1), some (vi a2), some (vi a3)] [] K M Q := by
  refine s_iload_n (show decode (am_cc m9_often) 35 = .ok (.iload_n 2, 1) by decide +kernel) rfl ?_
  exact s_ireturn (show decode (am_cc m9_often) 36 = .ok (.ireturn, 1) by decide +kernel) rfl k
theorem g9_unlike_0 {a1 a2 a3 : Int} {M : am_M} {Q : Option am_V → am_M → Prop} (k : am_AtN m9_unlike 3 [some (vr 86), some (vi a1), some (vi a2), some (vi a3), some (vi 0), none, none, none, none, none, none, none, none, none] [] KS M Q) : am_AtN m9_unlike 0 [some (vr 86), some (vi a1), some (vi a2), some (vi a3), none, none, none, none, none, none, none, none, none, none] [] KS M Q := by
  refine s_iconst (show decode (am_cc m9_unlike) 0 = .ok (.iconst 0, 1) by decide +kernel) ⟨by decide, by decide⟩ ?_
  refine s_istore (show decode (am_cc m9_unlike) 1 = .ok (.istore 4, 2) by decide +kernel) (by decide) ?_
  exact k
theorem g9_unlike_3 {a1 a2 a3 a4 : Int} {M : am_M} {Q : Option am_V → am_M → Prop} (k1 : 14400 ≤ a4 → am_AtN m9_unlike 25 [some (vr 86), some (vi a1), some (vi a2), some (vi a3), some (vi a4), none, none, none, none, none, none, none, none, none] [] KS M Q) (k2 : ¬ (14400 ≤ a4) → am_AtN m9_unlike 11 [some (vr 86), some (vi a1), some (vi a2), some (vi a3), some (vi a4), none, none, none, none, none, none, none, none, none] [] KS M Q) : am_AtN m9_unlike 3 [some (vr 86), some (vi a1), some (vi a2), some (vi a3), some (vi a4), none, none, none, none, none, none, none, none, none] [] KS M Q := by
  refine s_iload (show decode (am_cc m9_unlike) 3 = .ok (.iload 4, 2) by decide +kernel) rfl ?_
  refine s_sipush (show decode (am_cc m9_unlike) 5 = .ok (.sipush 14400, 3) by decide +kernel) ⟨by decide, by decide⟩ (by decide) ?_
  exact s_icmp_ge (tgt := 25) (show decode (am_cc m9_unlike) 8 = .ok (.if_icmp .ge 17, 3) by decide +kernel) (by decide) k1 k2
theorem g9_unlike_11 {a1 a2 a3 a4 : Int} {M : am_M} {Q : Option am_V → am_M → Prop} (h1 : 0 ≤ a4) (h2 : a4 < 14400) (h3 : -2147483648 ≤ a4 + 1 ∧ a4 + 1 ≤ 2147483647) (k : am_AtN m9_unlike 3 [some (vr 86), some (vi a1), some (vi a2), some (vi a3), some (vi (a4 + 1)), none, none, none, none, none, none, none, none, none] [] KS (am_up M 100 a4 0) Q) : am_AtN m9_unlike 11 [some (vr 86), some (vi a1), some (vi a2), some (vi a3), some (vi a4), none, none, none, none, none, none, none, none, none] [] KS M Q := by
  refine s_aload_n (show decode (am_cc m9_unlike) 11 = .ok (.aload_n 0, 1) by decide +kernel) rfl ?_
  refine s_getf (k := 19) (v := vr 100) (show decode (am_cc m9_unlike) 12 = .ok (.getfield 50, 3) by decide +kernel) kd86 (by decide) rfl jnX9 (by decide) lf_RX9_50 rfl ?_
  refine s_iload (show decode (am_cc m9_unlike) 15 = .ok (.iload 4, 2) by decide +kernel) rfl ?_
  refine s_iconst (show decode (am_cc m9_unlike) 17 = .ok (.iconst 0, 1) by decide +kernel) ⟨by decide, by decide⟩ ?_
  refine s_bastore (show decode (am_cc m9_unlike) 18 = .ok (.bastore, 1) by decide +kernel) kd100 h1 h2 (by decide) ?_
  refine s_iinc (show decode (am_cc m9_unlike) 19 = .ok (.iinc 4 1, 3) by decide +kernel) rfl (by decide) h3 ?_
  refine s_goto (tgt := 3) (show decode (am_cc m9_unlike) 22 = .ok (.goto (-19), 3) by decide +kernel) (by decide) ?_
  exact k
theorem g9_unlike_25 {a1 a2 a3 a4 : Int} {M : am_M} {Q : Option am_V → am_M → Prop} (k : am_AtN m9_unlike 37 [some (vr 86), some (vi a1), some (vi a2), some (vi a3), some (vi 0), none, none, none, none, none, none, none, none, none] [] KS (am_up M 100 200 1) Q) : am_AtN m9_unlike 25 [some (vr 86), some (vi a1), some (vi a2), some (vi a3), some (vi a4), none, none, none, none, none, none, none, none, none] [] KS M Q := by
  refine s_aload_n (show decode (am_cc m9_unlike) 25 = .ok (.aload_n 0, 1) by decide +kernel) rfl ?_
  refine s_getf (k := 19) (v := vr 100) (show decode (am_cc m9_unlike) 26 = .ok (.getfield 50, 3) by decide +kernel) kd86 (by decide) rfl jnX9 (by decide) lf_RX9_50 rfl ?_
  refine s_sipush (show decode (am_cc m9_unlike) 29 = .ok (.sipush 200, 3) by decide +kernel) ⟨by decide, by decide⟩ (by decide) ?_
  refine s_iconst (show decode (am_cc m9_unlike) 32 = .ok (.iconst 1, 1) by decide +kernel) ⟨by decide, by decide⟩ ?_
  refine s_bastore (show decode (am_cc m9_unlike) 33 = .ok (.bastore, 1) by decide +kernel) kd100 (by decide) (by decide) (by decide) ?_
  refine s_iconst (show decode (am_cc m9_unlike) 34 = .ok (.iconst 0, 1) by decide +kernel) ⟨by decide, by decide⟩ ?_
  refine s_istore (show decode (am_cc m9_unlike) 35 = .ok (.istore 4, 2) by decide +kernel) (by decide) ?_
  exact k
theorem g9_unlike_37 {a1 a2 a3 a4 : Int} {M : am_M} {Q : Option am_V → am_M → Prop} (k1 : 74 ≤ a4 → am_AtN m9_unlike 337 [some (vr 86), some (vi a1), some (vi a2), some (vi a3), some (vi a4), none, none, none, none, none, none, none, none, none] [] KS M Q) (k2 : ¬ (74 ≤ a4) → am_AtN m9_unlike 44 [some (vr 86), some (vi a1), some (vi a2), some (vi a3), some (vi a4), none, none, none, none, none, none, none, none, none] [] KS M Q) : am_AtN m9_unlike 37 [some (vr 86), some (vi a1), some (vi a2), some (vi a3), some (vi a4), none, none, none, none, none, none, none, none, none] [] KS M Q := by
  refine s_iload (show decode (am_cc m9_unlike) 37 = .ok (.iload 4, 2) by decide +kernel) rfl ?_
  refine s_bipush (show decode (am_cc m9_unlike) 39 = .ok (.bipush 74, 2) by decide +kernel) ⟨by decide, by decide⟩ (by decide) ?_
  exact s_icmp_ge (tgt := 337) (show decode (am_cc m9_unlike) 41 = .ok (.if_icmp .ge 296, 3) by decide +kernel) (by decide) k1 k2
theorem g9_unlike_44 {a1 a2 a3 a4 : Int} {M : am_M} {Q : Option am_V → am_M → Prop} (k : am_AtN m9_unlike 50 [some (vr 86), some (vi a1), some (vi a2), some (vi a3), some (vi a4), some (vi 0), some (vi 0), none, none, none, none, none, none, none] [] KS M Q) : am_AtN m9_unlike 44 [some (vr 86), some (vi a1), some (vi a2), some (vi a3), some (vi a4), none, none, none, none, none, none, none, none, none] [] KS M Q := by
  refine s_iconst (show decode (am_cc m9_unlike) 44 = .ok (.iconst 0, 1) by decide +kernel) ⟨by decide, by decide⟩ ?_
  refine s_istore (show decode (am_cc m9_unlike) 45 = .ok (.istore 5, 2) by decide +kernel) (by decide) ?_
  refine s_iconst (show decode (am_cc m9_unlike) 47 = .ok (.iconst 0, 1) by decide +kernel) ⟨by decide, by decide⟩ ?_
  refine s_istore (show decode (am_cc m9_unlike) 48 = .ok (.istore 6, 2) by decide +kernel) (by decide) ?_
  exact k
theorem g9_unlike_50 {a1 a2 a3 a4 a5 a6 : Int} {M : am_M} {Q : Option am_V → am_M → Prop} (k1 : 14400 ≤ a6 → am_AtN m9_unlike 72 [some (vr 86), some (vi a1), some (vi a2), some (vi a3), some (vi a4), some (vi a5), some (vi a6), none, none, none, none, none, none, none] [] KS M Q) (k2 : ¬ (14400 ≤ a6) → am_AtN m9_unlike 58 [some (vr 86), some (vi a1), some (vi a2), some (vi a3), some (vi a4), some (vi a5), some (vi a6), none, none, none, none, none, none, none] [] KS M Q) : am_AtN m9_unlike 50 [some (vr 86), some (vi a1), some (vi a2), some (vi a3), some (vi a4), some (vi a5), some (vi a6), none, none, none, none, none, none, none] [] KS M Q := by
  refine s_iload (show decode (am_cc m9_unlike) 50 = .ok (.iload 6, 2) by decide +kernel) rfl ?_
  refine s_sipush (show decode (am_cc m9_unlike) 52 = .ok (.sipush 14400, 3) by decide +kernel) ⟨by decide, by decide⟩ (by decide) ?_
  exact s_icmp_ge (tgt := 72) (show decode (am_cc m9_unlike) 55 = .ok (.if_icmp .ge 17, 3) by decide +kernel) (by decide) k1 k2
theorem g9_unlike_58 {a1 a2 a3 a4 a5 a6 : Int} {M : am_M} {Q : Option am_V → am_M → Prop} (h1 : 0 ≤ a6) (h2 : a6 < 14400) (h3 : -2147483648 ≤ a6 + 1 ∧ a6 + 1 ≤ 2147483647) (k : am_AtN m9_unlike 50 [some (vr 86), some (vi a1), some (vi a2), some (vi a3), some (vi a4), some (vi a5), some (vi (a6 + 1)), none, none, none, none, none, none, none] [] KS (am_up M 101 a6 0) Q) : am_AtN m9_unlike 58 [some (vr 86), some (vi a1), some (vi a2), some (vi a3), some (vi a4), some (vi a5), some (vi a6), none, none, none, none, none, none, none] [] KS M Q := by
  refine s_aload_n (show decode (am_cc m9_unlike) 58 = .ok (.aload_n 0, 1) by decide +kernel) rfl ?_
  refine s_getf (k := 20) (v := vr 101) (show decode (am_cc m9_unlike) 59 = .ok (.getfield 53, 3) by decide +kernel) kd86 (by decide) rfl jnX9 (by decide) lf_RX9_53 rfl ?_
  refine s_iload (show decode (am_cc m9_unlike) 62 = .ok (.iload 6, 2) by decide +kernel) rfl ?_
  refine s_iconst (show decode (am_cc m9_unlike) 64 = .ok (.iconst 0, 1) by decide +kernel) ⟨by decide, by decide⟩ ?_
  refine s_bastore (show decode (am_cc m9_unlike) 65 = .ok (.bastore, 1) by decide +kernel) kd101 h1 h2 (by decide) ?_
  refine s_iinc (show decode (am_cc m9_unlike) 66 = .ok (.iinc 6 1, 3) by decide +kernel) rfl (by decide) h3 ?_
  refine s_goto (tgt := 50) (show decode (am_cc m9_unlike) 69 = .ok (.goto (-19), 3) by decide +kernel) (by decide) ?_
  exact k
theorem g9_unlike_72 {a1 a2 a3 a4 a5 a6 : Int} {M : am_M} {Q : Option am_V → am_M → Prop} (k : am_AtN m9_unlike 75 [some (vr 86), some (vi a1), some (vi a2), some (vi a3), some (vi a4), some (vi a5), some (vi 0), none, none, none, none, none, none, none] [] KS M Q) : am_AtN m9_unlike 72 [some (vr 86), some (vi a1), some (vi a2), some (vi a3), some (vi a4), some (vi a5), some (vi a6), none, none, none, none, none, none, none] [] KS M Q := by
  refine s_iconst (show decode (am_cc m9_unlike) 72 = .ok (.iconst 0, 1) by decide +kernel) ⟨by decide, by decide⟩ ?_
  refine s_istore (show decode (am_cc m9_unlike) 73 = .ok (.istore 6, 2) by decide +kernel) (by decide) ?_
  exact k
theorem g9_unlike_75 {a1 a2 a3 a4 a5 a6 : Int} {M : am_M} {Q : Option am_V → am_M → Prop} (k1 : 14400 ≤ a6 → am_AtN m9_unlike 292 [some (vr 86), some (vi a1), some (vi a2), some (vi a3), some (vi a4), some (vi a5), some (vi a6), none, none, none, none, none, none, none] [] KS M Q) (k2 : ¬ (14400 ≤ a6) → am_AtN m9_unlike 83 [some (vr 86), some (vi a1), some (vi a2), some (vi a3), some (vi a4), some (vi a5), some (vi a6), none, none, none, none, none, none, none] [] KS M Q) : am_AtN m9_unlike 75 [some (vr 86), some (vi a1), some (vi a2), some (vi a3), some (vi a4), some (vi a5), some (vi a6), none, none, none, none, none, none, none] [] KS M Q := by
  refine s_iload (show decode (am_cc m9_unlike) 75 = .ok (.iload 6, 2) by decide +kernel) rfl ?_
  refine s_sipush (show decode (am_cc m9_unlike) 77 = .ok (.sipush 14400, 3) by decide +kernel) ⟨by decide, by decide⟩ (by decide) ?_
  exact s_icmp_ge (tgt := 292) (show decode (am_cc m9_unlike) 80 = .ok (.if_icmp .ge 212, 3) by decide +kernel) (by decide) k1 k2
theorem g9_unlike_83 {a1 a2 a3 a4 a5 a6 : Int} {M : am_M} {Q : Option am_V → am_M → Prop} (h1 : 0 ≤ a6) (h2 : a6 < 14400) (k1 : M 100 a6 = 0 → am_AtN m9_unlike 286 [some (vr 86), some (vi a1), some (vi a2), some (vi a3), some (vi a4), some (vi a5), some (vi a6), none, none, none, none, none, none, none] [] KS M Q) (k2 : ¬ (M 100 a6 = 0) → am_AtN m9_unlike 93 [some (vr 86), some (vi a1), some (vi a2), some (vi a3), some (vi a4), some (vi a5), some (vi a6), none, none, none, none, none, none, none] [] KS M Q) : am_AtN m9_unlike 83 [some (vr 86), some (vi a1), some (vi a2), some (vi a3), some (vi a4), some (vi a5), some (vi a6), none, none, none, none, none, none, none] [] KS M Q := by
  refine s_aload_n (show decode (am_cc m9_unlike) 83 = .ok (.aload_n 0, 1) by decide +kernel) rfl ?_
  refine s_getf (k := 19) (v := vr 100) (show decode (am_cc m9_unlike) 84 = .ok (.getfield 50, 3) by decide +kernel) kd86 (by decide) rfl jnX9 (by decide) lf_RX9_50 rfl ?_
  refine s_iload (show decode (am_cc m9_unlike) 87 = .ok (.iload 6, 2) by decide +kernel) rfl ?_
  refine s_baload (show decode (am_cc m9_unlike) 89 = .ok (.baload, 1) by decide +kernel) kd100 h1 h2 ?_
  exact s_if_eq (tgt := 286) (show decode (am_cc m9_unlike) 90 = .ok (.ifCond .eq 196, 3) by decide +kernel) (by decide) k1 k2
theorem g9_unlike_93 {a1 a2 a3 a4 a5 a6 : Int} {M : am_M} {Q : Option am_V → am_M → Prop} (h1 : 0 ≤ a6) (h2 : 0 ≤ a6 / 400) (h3 : 0 ≤ a6) (h4 : 0 ≤ a6 / 400) (h5 : 0 ≤ a6) (h6 : -2147483648 ≤ 6 * a2 ∧ 6 * a2 ≤ 2147483647) (h7 : -2147483648 ≤ (6 * a2) + ((a6 / 400) % 6) ∧ (6 * a2) + ((a6 / 400) % 6) ≤ 2147483647) (h8 : 0 ≤ (6 * a2) + ((a6 / 400) % 6)) (h9 : (6 * a2) + ((a6 / 400) % 6) < 24) (k1 : ¬ a5 = 0 → am_AtN m9_unlike 178 [some (vr 86), some (vi a1), some (vi a2), some (vi a3), some (vi a4), some (vi a5), some (vi a6), some (vi ((a6 / 400) / 6)), some (vi ((a6 / 400) % 6)), some (vi (a6 % 400)), some (vi (M 94 ((6 * a2) + ((a6 / 400) % 6)))), none, none, none] [] KS M Q) (k2 : a5 = 0 → am_AtN m9_unlike 142 [some (vr 86), some (vi a1), some (vi a2), some (vi a3), some (vi a4), some (vi a5), some (vi a6), some (vi ((a6 / 400) / 6)), some (vi ((a6 / 400) % 6)), some (vi (a6 % 400)), some (vi (M 94 ((6 * a2) + ((a6 / 400) % 6)))), none, none, none] [] KS M Q) : am_AtN m9_unlike 93 [some (vr 86), some (vi a1), some (vi a2), some (vi a3), some (vi a4), some (vi a5), some (vi a6), none, none, none, none, none, none, none] [] KS M Q := by
  refine s_iload (show decode (am_cc m9_unlike) 93 = .ok (.iload 6, 2) by decide +kernel) rfl ?_
  refine s_sipush (show decode (am_cc m9_unlike) 95 = .ok (.sipush 400, 3) by decide +kernel) ⟨by decide, by decide⟩ (by decide) ?_
  refine s_idiv (show decode (am_cc m9_unlike) 98 = .ok (.idiv, 1) by decide +kernel) h1 (by decide) ?_
  refine s_bipush (show decode (am_cc m9_unlike) 99 = .ok (.bipush 6, 2) by decide +kernel) ⟨by decide, by decide⟩ (by decide) ?_
  refine s_idiv (show decode (am_cc m9_unlike) 101 = .ok (.idiv, 1) by decide +kernel) h2 (by decide) ?_
  refine s_istore (show decode (am_cc m9_unlike) 102 = .ok (.istore 7, 2) by decide +kernel) (by decide) ?_
  refine s_iload (show decode (am_cc m9_unlike) 104 = .ok (.iload 6, 2) by decide +kernel) rfl ?_
  refine s_sipush (show decode (am_cc m9_unlike) 106 = .ok (.sipush 400, 3) by decide +kernel) ⟨by decide, by decide⟩ (by decide) ?_
  refine s_idiv (show decode (am_cc m9_unlike) 109 = .ok (.idiv, 1) by decide +kernel) h3 (by decide) ?_
  refine s_bipush (show decode (am_cc m9_unlike) 110 = .ok (.bipush 6, 2) by decide +kernel) ⟨by decide, by decide⟩ (by decide) ?_
  refine s_irem (show decode (am_cc m9_unlike) 112 = .ok (.irem, 1) by decide +kernel) h4 (by decide) ?_
  refine s_istore (show decode (am_cc m9_unlike) 113 = .ok (.istore 8, 2) by decide +kernel) (by decide) ?_
  refine s_iload (show decode (am_cc m9_unlike) 115 = .ok (.iload 6, 2) by decide +kernel) rfl ?_
  refine s_sipush (show decode (am_cc m9_unlike) 117 = .ok (.sipush 400, 3) by decide +kernel) ⟨by decide, by decide⟩ (by decide) ?_
  refine s_irem (show decode (am_cc m9_unlike) 120 = .ok (.irem, 1) by decide +kernel) h5 (by decide) ?_
  refine s_istore (show decode (am_cc m9_unlike) 121 = .ok (.istore 9, 2) by decide +kernel) (by decide) ?_
  refine s_aload_n (show decode (am_cc m9_unlike) 123 = .ok (.aload_n 0, 1) by decide +kernel) rfl ?_
  refine s_getf (k := 9) (v := vr 94) (show decode (am_cc m9_unlike) 124 = .ok (.getfield 32, 3) by decide +kernel) kd86 (by decide) rfl jnX9 (by decide) lf_RX9_32 rfl ?_
  refine s_bipush (show decode (am_cc m9_unlike) 127 = .ok (.bipush 6, 2) by decide +kernel) ⟨by decide, by decide⟩ (by decide) ?_
  refine s_iload_n (show decode (am_cc m9_unlike) 129 = .ok (.iload_n 2, 1) by decide +kernel) rfl ?_
  refine s_imul (show decode (am_cc m9_unlike) 130 = .ok (.imul, 1) by decide +kernel) h6 ?_
  refine s_iload (show decode (am_cc m9_unlike) 131 = .ok (.iload 8, 2) by decide +kernel) rfl ?_
  refine s_iadd (show decode (am_cc m9_unlike) 133 = .ok (.iadd, 1) by decide +kernel) h7 ?_
  refine s_iaload (show decode (am_cc m9_unlike) 134 = .ok (.iaload, 1) by decide +kernel) kd94 h8 h9 ?_
  refine s_istore (show decode (am_cc m9_unlike) 135 = .ok (.istore 10, 2) by decide +kernel) (by decide) ?_
  refine s_iload (show decode (am_cc m9_unlike) 137 = .ok (.iload 5, 2) by decide +kernel) rfl ?_
  exact s_if_ne (tgt := 178) (show decode (am_cc m9_unlike) 139 = .ok (.ifCond .ne 39, 3) by decide +kernel) (by decide) k1 k2
theorem g9_unlike_142 {a1 a2 a3 a4 a5 a6 a7 a8 a9 a10 : Int} {M : am_M} {Q : Option am_V → am_M → Prop} (h1 : -2147483648 ≤ 6 * a1 ∧ 6 * a1 ≤ 2147483647) (h2 : -2147483648 ≤ (6 * a1) + a7 ∧ (6 * a1) + a7 ≤ 2147483647) (h3 : 0 ≤ (6 * a1) + a7) (h4 : (6 * a1) + a7 < 48) (k1 : M 88 ((6 * a1) + a7) = 0 → am_AtN m9_unlike 182 [some (vr 86), some (vi a1), some (vi a2), some (vi a3), some (vi a4), some (vi a5), some (vi a6), some (vi a7), some (vi a8), some (vi a9), some (vi a10), none, none, none] [] KS M Q) (k2 : ¬ (M 88 ((6 * a1) + a7) = 0) → am_AtN m9_unlike 157 [some (vr 86), some (vi a1), some (vi a2), some (vi a3), some (vi a4), some (vi a5), some (vi a6), some (vi a7), some (vi a8), some (vi a9), some (vi a10), none, none, none] [] KS M Q) : am_AtN m9_unlike 142 [some (vr 86), some (vi a1), some (vi a2), some (vi a3), some (vi a4), some (vi a5), some (vi a6), some (vi a7), some (vi a8), some (vi a9), some (vi a10), none, none, none] [] KS M Q := by
  refine s_aload_n (show decode (am_cc m9_unlike) 142 = .ok (.aload_n 0, 1) by decide +kernel) rfl ?_
  refine s_getf (k := 3) (v := vr 88) (show decode (am_cc m9_unlike) 143 = .ok (.getfield 13, 3) by decide +kernel) kd86 (by decide) rfl jnX9 (by decide) lf_RX9_13 rfl ?_
  refine s_bipush (show decode (am_cc m9_unlike) 146 = .ok (.bipush 6, 2) by decide +kernel) ⟨by decide, by decide⟩ (by decide) ?_
  refine s_iload_n (show decode (am_cc m9_unlike) 148 = .ok (.iload_n 1, 1) by decide +kernel) rfl ?_
  refine s_imul (show decode (am_cc m9_unlike) 149 = .ok (.imul, 1) by decide +kernel) h1 ?_
  refine s_iload (show decode (am_cc m9_unlike) 150 = .ok (.iload 7, 2) by decide +kernel) rfl ?_
  refine s_iadd (show decode (am_cc m9_unlike) 152 = .ok (.iadd, 1) by decide +kernel) h2 ?_
  refine s_baload (show decode (am_cc m9_unlike) 153 = .ok (.baload, 1) by decide +kernel) kd88 h3 h4 ?_
  exact s_if_eq (tgt := 182) (show decode (am_cc m9_unlike) 154 = .ok (.ifCond .eq 28, 3) by decide +kernel) (by decide) k1 k2
theorem g9_unlike_157 {a1 a2 a3 a4 a5 a6 a7 a8 a9 a10 : Int} {M : am_M} {Q : Option am_V → am_M → Prop} (k1 : a10 = -1 → am_AtN m9_unlike 182 [some (vr 86), some (vi a1), some (vi a2), some (vi a3), some (vi a4), some (vi a5), some (vi a6), some (vi a7), some (vi a8), some (vi a9), some (vi a10), none, none, none] [] KS M Q) (k2 : ¬ (a10 = -1) → am_AtN m9_unlike 163 [some (vr 86), some (vi a1), some (vi a2), some (vi a3), some (vi a4), some (vi a5), some (vi a6), some (vi a7), some (vi a8), some (vi a9), some (vi a10), none, none, none] [] KS M Q) : am_AtN m9_unlike 157 [some (vr 86), some (vi a1), some (vi a2), some (vi a3), some (vi a4), some (vi a5), some (vi a6), some (vi a7), some (vi a8), some (vi a9), some (vi a10), none, none, none] [] KS M Q := by
  refine s_iload (show decode (am_cc m9_unlike) 157 = .ok (.iload 10, 2) by decide +kernel) rfl ?_
  refine s_iconst (show decode (am_cc m9_unlike) 159 = .ok (.iconst (-1), 1) by decide +kernel) ⟨by decide, by decide⟩ ?_
  exact s_icmp_eq (tgt := 182) (show decode (am_cc m9_unlike) 160 = .ok (.if_icmp .eq 22, 3) by decide +kernel) (by decide) k1 k2
theorem g9_unlike_163 {a1 a2 a3 a4 a5 a6 a7 a8 a9 a10 : Int} {M : am_M} {Q : Option am_V → am_M → Prop} (k : am_CallN m9_often [vi a10, vi a3] KS M (fun r M' => am_AtN m9_unlike 171 [some (vr 86), some (vi a1), some (vi a2), some (vi a3), some (vi a4), some (vi a5), some (vi a6), some (vi a7), some (vi a8), some (vi a9), some (vi a10), none, none, none] (r.toList ++ [vi a9]) KS M' Q)) : am_AtN m9_unlike 163 [some (vr 86), some (vi a1), some (vi a2), some (vi a3), some (vi a4), some (vi a5), some (vi a6), some (vi a7), some (vi a8), some (vi a9), some (vi a10), none, none, none] [] KS M Q := by
  refine s_iload (show decode (am_cc m9_unlike) 163 = .ok (.iload 9, 2) by decide +kernel) rfl ?_
  refine s_iload (show decode (am_cc m9_unlike) 165 = .ok (.iload 10, 2) by decide +kernel) rfl ?_
  refine s_iload_n (show decode (am_cc m9_unlike) 167 = .ok (.iload_n 3, 1) by decide +kernel) rfl ?_
  exact n_callS (as := [vi a10, vi a3]) (stk := [vi a9]) (show decode (am_cc m9_unlike) 168 = .ok (.invokestatic 197, 3) by decide +kernel) lk_RX9_197 (by decide) (Nat.le_of_ble_eq_true rfl) ⟨rfl, rfl⟩ k
theorem g9_unlike_171 {a1 a2 a3 a4 a5 a6 a7 a8 a9 a10 t0 t1 : Int} {M : am_M} {Q : Option am_V → am_M → Prop} (h1 : -2147483648 ≤ t0 + t1 ∧ t0 + t1 ≤ 2147483647) (k1 : t0 + t1 = 200 → am_AtN m9_unlike 182 [some (vr 86), some (vi a1), some (vi a2), some (vi a3), some (vi a4), some (vi a5), some (vi a6), some (vi a7), some (vi a8), some (vi a9), some (vi a10), none, none, none] [] KS M Q) (k2 : ¬ (t0 + t1 = 200) → am_AtN m9_unlike 178 [some (vr 86), some (vi a1), some (vi a2), some (vi a3), some (vi a4), some (vi a5), some (vi a6), some (vi a7), some (vi a8), some (vi a9), some (vi a10), none, none, none] [] KS M Q) : am_AtN m9_unlike 171 [some (vr 86), some (vi a1), some (vi a2), some (vi a3), some (vi a4), some (vi a5), some (vi a6), some (vi a7), some (vi a8), some (vi a9), some (vi a10), none, none, none] [vi t1, vi t0] KS M Q := by
  refine s_iadd (show decode (am_cc m9_unlike) 171 = .ok (.iadd, 1) by decide +kernel) h1 ?_
  refine s_sipush (show decode (am_cc m9_unlike) 172 = .ok (.sipush 200, 3) by decide +kernel) ⟨by decide, by decide⟩ (by decide) ?_
  exact s_icmp_eq (tgt := 182) (show decode (am_cc m9_unlike) 175 = .ok (.if_icmp .eq 7, 3) by decide +kernel) (by decide) k1 k2
theorem g9_unlike_178 {a1 a2 a3 a4 a5 a6 a7 a8 a9 a10 : Int} {M : am_M} {Q : Option am_V → am_M → Prop} (k : am_AtN m9_unlike 183 [some (vr 86), some (vi a1), some (vi a2), some (vi a3), some (vi a4), some (vi a5), some (vi a6), some (vi a7), some (vi a8), some (vi a9), some (vi a10), none, none, none] [vi 1] KS M Q) : am_AtN m9_unlike 178 [some (vr 86), some (vi a1), some (vi a2), some (vi a3), some (vi a4), some (vi a5), some (vi a6), some (vi a7), some (vi a8), some (vi a9), some (vi a10), none, none, none] [] KS M Q := by
  refine s_iconst (show decode (am_cc m9_unlike) 178 = .ok (.iconst 1, 1) by decide +kernel) ⟨by decide, by decide⟩ ?_
  refine s_goto (tgt := 183) (show decode (am_cc m9_unlike) 179 = .ok (.goto 4, 3) by decide +kernel) (by decide) ?_
  exact k
theorem g9_unlike_182 {a1 a2 a3 a4 a5 a6 a7 a8 a9 a10 : Int} {M : am_M} {Q : Option am_V → am_M → Prop} (k : am_AtN m9_unlike 183 [some (vr 86), some (vi a1), some (vi a2), some (vi a3), some (vi a4), some (vi a5), some (vi a6), some (vi a7), some (vi a8), some (vi a9), some (vi a10), none, none, none] [vi 0] KS M Q) : am_AtN m9_unlike 182 [some (vr 86), some (vi a1), some (vi a2), some (vi a3), some (vi a4), some (vi a5), some (vi a6), some (vi a7), some (vi a8), some (vi a9), some (vi a10), none, none, none] [] KS M Q := by
  refine s_iconst (show decode (am_cc m9_unlike) 182 = .ok (.iconst 0, 1) by decide +kernel) ⟨by decide, by decide⟩ ?_
  exact k
theorem g9_unlike_183 {a1 a2 a3 a4 a5 a6 a7 a8 a9 a10 t0 : Int} {M : am_M} {Q : Option am_V → am_M → Prop} (k : am_AtN m9_unlike 188 [some (vr 86), some (vi a1), some (vi a2), some (vi a3), some (vi a4), some (vi t0), some (vi a6), some (vi a7), some (vi a8), some (vi a9), some (vi a10), some (vi 0), none, none] [] KS M Q) : am_AtN m9_unlike 183 [some (vr 86), some (vi a1), some (vi a2), some (vi a3), some (vi a4), some (vi a5), some (vi a6), some (vi a7), some (vi a8), some (vi a9), some (vi a10), none, none, none] [vi t0] KS M Q := by
  refine s_istore (show decode (am_cc m9_unlike) 183 = .ok (.istore 5, 2) by decide +kernel) (by decide) ?_
  refine s_iconst (show decode (am_cc m9_unlike) 185 = .ok (.iconst 0, 1) by decide +kernel) ⟨by decide, by decide⟩ ?_
  refine s_istore (show decode (am_cc m9_unlike) 186 = .ok (.istore 11, 2) by decide +kernel) (by decide) ?_
  exact k
theorem g9_unlike_188 {a1 a2 a3 a4 a5 a6 a7 a8 a9 a10 a11 : Int} {M : am_M} {Q : Option am_V → am_M → Prop} (k1 : M 86 1 ≤ a11 → am_AtN m9_unlike 286 [some (vr 86), some (vi a1), some (vi a2), some (vi a3), some (vi a4), some (vi a5), some (vi a6), none, none, none, none, none, none, none] [] KS M Q) (k2 : ¬ (M 86 1 ≤ a11) → am_AtN m9_unlike 197 [some (vr 86), some (vi a1), some (vi a2), some (vi a3), some (vi a4), some (vi a5), some (vi a6), some (vi a7), some (vi a8), some (vi a9), some (vi a10), some (vi a11), none, none] [] KS M Q) : am_AtN m9_unlike 188 [some (vr 86), some (vi a1), some (vi a2), some (vi a3), some (vi a4), some (vi a5), some (vi a6), some (vi a7), some (vi a8), some (vi a9), some (vi a10), some (vi a11), none, none] [] KS M Q := by
  refine s_iload (show decode (am_cc m9_unlike) 188 = .ok (.iload 11, 2) by decide +kernel) rfl ?_
  refine s_aload_n (show decode (am_cc m9_unlike) 190 = .ok (.aload_n 0, 1) by decide +kernel) rfl ?_
  refine s_getf (k := 1) (v := vi (M 86 1)) (show decode (am_cc m9_unlike) 191 = .ok (.getfield 99, 3) by decide +kernel) kd86 (by decide) rfl jnX9 (by decide) lf_RX9_99 rfl ?_
  refine s_icmp_ge (tgt := 286) (show decode (am_cc m9_unlike) 194 = .ok (.if_icmp .ge 92, 3) by decide +kernel) (by decide) (fun h => ?_) (fun h => ?_)
  · refine am_fg 7 ?_
    refine am_fg 8 ?_
    refine am_fg 9 ?_
    refine am_fg 10 ?_
    refine am_fg 11 ?_
    exact k1 h
  · exact k2 h
theorem g9_unlike_197 {a1 a2 a3 a4 a5 a6 a7 a8 a9 a10 a11 : Int} {M : am_M} {Q : Option am_V → am_M → Prop} (h1 : -2147483648 ≤ 24 * a2 ∧ 24 * a2 ≤ 2147483647) (h2 : -2147483648 ≤ 4 * a8 ∧ 4 * a8 ≤ 2147483647) (h3 : -2147483648 ≤ (24 * a2) + (4 * a8) ∧ (24 * a2) + (4 * a8) ≤ 2147483647) (h4 : -2147483648 ≤ ((24 * a2) + (4 * a8)) + a11 ∧ ((24 * a2) + (4 * a8)) + a11 ≤ 2147483647) (h5 : 0 ≤ ((24 * a2) + (4 * a8)) + a11) (h6 : ((24 * a2) + (4 * a8)) + a11 < 96) (k : am_CallN m9_often [vi (M 93 (((24 * a2) + (4 * a8)) + a11)), vi a3] KS M (fun r M' => am_AtN m9_unlike 222 [some (vr 86), some (vi a1), some (vi a2), some (vi a3), some (vi a4), some (vi a5), some (vi a6), some (vi a7), some (vi a8), some (vi a9), some (vi a10), some (vi a11), some (vi (((24 * a2) + (4 * a8)) + a11)), none] (r.toList ++ []) KS M' Q)) : am_AtN m9_unlike 197 [some (vr 86), some (vi a1), some (vi a2), some (vi a3), some (vi a4), some (vi a5), some (vi a6), some (vi a7), some (vi a8), some (vi a9), some (vi a10), some (vi a11), none, none] [] KS M Q := by
  refine s_bipush (show decode (am_cc m9_unlike) 197 = .ok (.bipush 24, 2) by decide +kernel) ⟨by decide, by decide⟩ (by decide) ?_
  refine s_iload_n (show decode (am_cc m9_unlike) 199 = .ok (.iload_n 2, 1) by decide +kernel) rfl ?_
  refine s_imul (show decode (am_cc m9_unlike) 200 = .ok (.imul, 1) by decide +kernel) h1 ?_
  refine s_iconst (show decode (am_cc m9_unlike) 201 = .ok (.iconst 4, 1) by decide +kernel) ⟨by decide, by decide⟩ ?_
  refine s_iload (show decode (am_cc m9_unlike) 202 = .ok (.iload 8, 2) by decide +kernel) rfl ?_
  refine s_imul (show decode (am_cc m9_unlike) 204 = .ok (.imul, 1) by decide +kernel) h2 ?_
  refine s_iadd (show decode (am_cc m9_unlike) 205 = .ok (.iadd, 1) by decide +kernel) h3 ?_
  refine s_iload (show decode (am_cc m9_unlike) 206 = .ok (.iload 11, 2) by decide +kernel) rfl ?_
  refine s_iadd (show decode (am_cc m9_unlike) 208 = .ok (.iadd, 1) by decide +kernel) h4 ?_
  refine s_istore (show decode (am_cc m9_unlike) 209 = .ok (.istore 12, 2) by decide +kernel) (by decide) ?_
  refine s_aload_n (show decode (am_cc m9_unlike) 211 = .ok (.aload_n 0, 1) by decide +kernel) rfl ?_
  refine s_getf (k := 8) (v := vr 93) (show decode (am_cc m9_unlike) 212 = .ok (.getfield 29, 3) by decide +kernel) kd86 (by decide) rfl jnX9 (by decide) lf_RX9_29 rfl ?_
  refine s_iload (show decode (am_cc m9_unlike) 215 = .ok (.iload 12, 2) by decide +kernel) rfl ?_
  refine s_iaload (show decode (am_cc m9_unlike) 217 = .ok (.iaload, 1) by decide +kernel) kd93 h5 h6 ?_
  refine s_iload_n (show decode (am_cc m9_unlike) 218 = .ok (.iload_n 3, 1) by decide +kernel) rfl ?_
  exact n_callS (as := [vi (M 93 (((24 * a2) + (4 * a8)) + a11)), vi a3]) (stk := []) (show decode (am_cc m9_unlike) 219 = .ok (.invokestatic 197, 3) by decide +kernel) lk_RX9_197 (by decide) (Nat.le_of_ble_eq_true rfl) ⟨rfl, rfl⟩ k
theorem g9_unlike_222 {a1 a2 a3 a4 a5 a6 a7 a8 a9 a10 a11 a12 t0 : Int} {M : am_M} {Q : Option am_V → am_M → Prop} (k1 : ¬ a11 = a3 → am_AtN m9_unlike 232 [some (vr 86), some (vi a1), some (vi a2), some (vi a3), some (vi a4), some (vi a5), some (vi a6), some (vi a7), some (vi a8), some (vi a9), some (vi a10), some (vi a11), some (vi a12), none] [vi t0] KS M Q) (k2 : a11 = a3 → am_AtN m9_unlike 228 [some (vr 86), some (vi a1), some (vi a2), some (vi a3), some (vi a4), some (vi a5), some (vi a6), some (vi a7), some (vi a8), some (vi a9), some (vi a10), some (vi a11), some (vi a12), none] [vi t0] KS M Q) : am_AtN m9_unlike 222 [some (vr 86), some (vi a1), some (vi a2), some (vi a3), some (vi a4), some (vi a5), some (vi a6), some (vi a7), some (vi a8), some (vi a9), some (vi a10), some (vi a11), some (vi a12), none] [vi t0] KS M Q := by
  refine s_iload (show decode (am_cc m9_unlike) 222 = .ok (.iload 11, 2) by decide +kernel) rfl ?_
  refine s_iload_n (show decode (am_cc m9_unlike) 224 = .ok (.iload_n 3, 1) by decide +kernel) rfl ?_
  exact s_icmp_ne (tgt := 232) (show decode (am_cc m9_unlike) 225 = .ok (.if_icmp .ne 7, 3) by decide +kernel) (by decide) k1 k2
theorem g9_unlike_228 {a1 a2 a3 a4 a5 a6 a7 a8 a9 a10 a11 a12 t0 : Int} {M : am_M} {Q : Option am_V → am_M → Prop} (k : am_AtN m9_unlike 233 [some (vr 86), some (vi a1), some (vi a2), some (vi a3), some (vi a4), some (vi a5), some (vi a6), some (vi a7), some (vi a8), some (vi a9), some (vi a10), some (vi a11), some (vi a12), none] [vi 1, vi t0] KS M Q) : am_AtN m9_unlike 228 [some (vr 86), some (vi a1), some (vi a2), some (vi a3), some (vi a4), some (vi a5), some (vi a6), some (vi a7), some (vi a8), some (vi a9), some (vi a10), some (vi a11), some (vi a12), none] [vi t0] KS M Q := by
  refine s_iconst (show decode (am_cc m9_unlike) 228 = .ok (.iconst 1, 1) by decide +kernel) ⟨by decide, by decide⟩ ?_
  refine s_goto (tgt := 233) (show decode (am_cc m9_unlike) 229 = .ok (.goto 4, 3) by decide +kernel) (by decide) ?_
  exact k
theorem g9_unlike_232 {a1 a2 a3 a4 a5 a6 a7 a8 a9 a10 a11 a12 t0 : Int} {M : am_M} {Q : Option am_V → am_M → Prop} (k : am_AtN m9_unlike 233 [some (vr 86), some (vi a1), some (vi a2), some (vi a3), some (vi a4), some (vi a5), some (vi a6), some (vi a7), some (vi a8), some (vi a9), some (vi a10), some (vi a11), some (vi a12), none] [vi 0, vi t0] KS M Q) : am_AtN m9_unlike 232 [some (vr 86), some (vi a1), some (vi a2), some (vi a3), some (vi a4), some (vi a5), some (vi a6), some (vi a7), some (vi a8), some (vi a9), some (vi a10), some (vi a11), some (vi a12), none] [vi t0] KS M Q := by
  refine s_iconst (show decode (am_cc m9_unlike) 232 = .ok (.iconst 0, 1) by decide +kernel) ⟨by decide, by decide⟩ ?_
  exact k
theorem g9_unlike_233 {a1 a2 a3 a4 a5 a6 a7 a8 a9 a10 a11 a12 t0 t1 : Int} {M : am_M} {Q : Option am_V → am_M → Prop} (h1 : -2147483648 ≤ t0 - t1 ∧ t0 - t1 ≤ 2147483647) (h2 : -2147483648 ≤ 24 * a1 ∧ 24 * a1 ≤ 2147483647) (h3 : -2147483648 ≤ 4 * a7 ∧ 4 * a7 ≤ 2147483647) (h4 : -2147483648 ≤ (24 * a1) + (4 * a7) ∧ (24 * a1) + (4 * a7) ≤ 2147483647) (h5 : -2147483648 ≤ ((24 * a1) + (4 * a7)) + a11 ∧ ((24 * a1) + (4 * a7)) + a11 ≤ 2147483647) (h6 : 0 ≤ ((24 * a1) + (4 * a7)) + a11) (h7 : ((24 * a1) + (4 * a7)) + a11 < 192) (h8 : -2147483648 ≤ 6 * (M 87 (((24 * a1) + (4 * a7)) + a11)) ∧ 6 * (M 87 (((24 * a1) + (4 * a7)) + a11)) ≤ 2147483647) (h9 : 0 ≤ a12) (h10 : a12 < 96) (h11 : -2147483648 ≤ (6 * (M 87 (((24 * a1) + (4 * a7)) + a11))) + (M 92 a12) ∧ (6 * (M 87 (((24 * a1) + (4 * a7)) + a11))) + (M 92 a12) ≤ 2147483647) (h12 : -2147483648 ≤ 400 * ((6 * (M 87 (((24 * a1) + (4 * a7)) + a11))) + (M 92 a12)) ∧ 400 * ((6 * (M 87 (((24 * a1) + (4 * a7)) + a11))) + (M 92 a12)) ≤ 2147483647) (h13 : -2147483648 ≤ (400 * ((6 * (M 87 (((24 * a1) + (4 * a7)) + a11))) + (M 92 a12))) + a9 ∧ (400 * ((6 * (M 87 (((24 * a1) + (4 * a7)) + a11))) + (M 92 a12))) + a9 ≤ 2147483647) (h14 : -2147483648 ≤ ((400 * ((6 * (M 87 (((24 * a1) + (4 * a7)) + a11))) + (M 92 a12))) + a9) + (t0 - t1) ∧ ((400 * ((6 * (M 87 (((24 * a1) + (4 * a7)) + a11))) + (M 92 a12))) + a9) + (t0 - t1) ≤ 2147483647) (h15 : 0 ≤ ((400 * ((6 * (M 87 (((24 * a1) + (4 * a7)) + a11))) + (M 92 a12))) + a9) + (t0 - t1)) (h16 : ((400 * ((6 * (M 87 (((24 * a1) + (4 * a7)) + a11))) + (M 92 a12))) + a9) + (t0 - t1) < 14400) (h17 : -2147483648 ≤ a11 + 1 ∧ a11 + 1 ≤ 2147483647) (k : am_AtN m9_unlike 188 [some (vr 86), some (vi a1), some (vi a2), some (vi a3), some (vi a4), some (vi a5), some (vi a6), some (vi a7), some (vi a8), some (vi a9), some (vi a10), some (vi (a11 + 1)), none, none] [] KS (am_up M 101 (((400 * ((6 * (M 87 (((24 * a1) + (4 * a7)) + a11))) + (M 92 a12))) + a9) + (t0 - t1)) 1) Q) : am_AtN m9_unlike 233 [some (vr 86), some (vi a1), some (vi a2), some (vi a3), some (vi a4), some (vi a5), some (vi a6), some (vi a7), some (vi a8), some (vi a9), some (vi a10), some (vi a11), some (vi a12), none] [vi t1, vi t0] KS M Q := by
  refine s_isub (show decode (am_cc m9_unlike) 233 = .ok (.isub, 1) by decide +kernel) h1 ?_
  refine s_istore (show decode (am_cc m9_unlike) 234 = .ok (.istore 13, 2) by decide +kernel) (by decide) ?_
  refine s_aload_n (show decode (am_cc m9_unlike) 236 = .ok (.aload_n 0, 1) by decide +kernel) rfl ?_
  refine s_getf (k := 20) (v := vr 101) (show decode (am_cc m9_unlike) 237 = .ok (.getfield 53, 3) by decide +kernel) kd86 (by decide) rfl jnX9 (by decide) lf_RX9_53 rfl ?_
  refine s_sipush (show decode (am_cc m9_unlike) 240 = .ok (.sipush 400, 3) by decide +kernel) ⟨by decide, by decide⟩ (by decide) ?_
  refine s_bipush (show decode (am_cc m9_unlike) 243 = .ok (.bipush 6, 2) by decide +kernel) ⟨by decide, by decide⟩ (by decide) ?_
  refine s_aload_n (show decode (am_cc m9_unlike) 245 = .ok (.aload_n 0, 1) by decide +kernel) rfl ?_
  refine s_getf (k := 2) (v := vr 87) (show decode (am_cc m9_unlike) 246 = .ok (.getfield 7, 3) by decide +kernel) kd86 (by decide) rfl jnX9 (by decide) lf_RX9_7 rfl ?_
  refine s_bipush (show decode (am_cc m9_unlike) 249 = .ok (.bipush 24, 2) by decide +kernel) ⟨by decide, by decide⟩ (by decide) ?_
  refine s_iload_n (show decode (am_cc m9_unlike) 251 = .ok (.iload_n 1, 1) by decide +kernel) rfl ?_
  refine s_imul (show decode (am_cc m9_unlike) 252 = .ok (.imul, 1) by decide +kernel) h2 ?_
  refine s_iconst (show decode (am_cc m9_unlike) 253 = .ok (.iconst 4, 1) by decide +kernel) ⟨by decide, by decide⟩ ?_
  refine s_iload (show decode (am_cc m9_unlike) 254 = .ok (.iload 7, 2) by decide +kernel) rfl ?_
  refine s_imul (show decode (am_cc m9_unlike) 256 = .ok (.imul, 1) by decide +kernel) h3 ?_
  refine s_iadd (show decode (am_cc m9_unlike) 257 = .ok (.iadd, 1) by decide +kernel) h4 ?_
  refine s_iload (show decode (am_cc m9_unlike) 258 = .ok (.iload 11, 2) by decide +kernel) rfl ?_
  refine s_iadd (show decode (am_cc m9_unlike) 260 = .ok (.iadd, 1) by decide +kernel) h5 ?_
  refine s_iaload (show decode (am_cc m9_unlike) 261 = .ok (.iaload, 1) by decide +kernel) kd87 h6 h7 ?_
  refine s_imul (show decode (am_cc m9_unlike) 262 = .ok (.imul, 1) by decide +kernel) h8 ?_
  refine s_aload_n (show decode (am_cc m9_unlike) 263 = .ok (.aload_n 0, 1) by decide +kernel) rfl ?_
  refine s_getf (k := 7) (v := vr 92) (show decode (am_cc m9_unlike) 264 = .ok (.getfield 26, 3) by decide +kernel) kd86 (by decide) rfl jnX9 (by decide) lf_RX9_26 rfl ?_
  refine s_iload (show decode (am_cc m9_unlike) 267 = .ok (.iload 12, 2) by decide +kernel) rfl ?_
  refine s_iaload (show decode (am_cc m9_unlike) 269 = .ok (.iaload, 1) by decide +kernel) kd92 h9 h10 ?_
  refine s_iadd (show decode (am_cc m9_unlike) 270 = .ok (.iadd, 1) by decide +kernel) h11 ?_
  refine s_imul (show decode (am_cc m9_unlike) 271 = .ok (.imul, 1) by decide +kernel) h12 ?_
  refine s_iload (show decode (am_cc m9_unlike) 272 = .ok (.iload 9, 2) by decide +kernel) rfl ?_
  refine s_iadd (show decode (am_cc m9_unlike) 274 = .ok (.iadd, 1) by decide +kernel) h13 ?_
  refine s_iload (show decode (am_cc m9_unlike) 275 = .ok (.iload 13, 2) by decide +kernel) rfl ?_
  refine s_iadd (show decode (am_cc m9_unlike) 277 = .ok (.iadd, 1) by decide +kernel) h14 ?_
  refine s_iconst (show decode (am_cc m9_unlike) 278 = .ok (.iconst 1, 1) by decide +kernel) ⟨by decide, by decide⟩ ?_
  refine s_bastore (show decode (am_cc m9_unlike) 279 = .ok (.bastore, 1) by decide +kernel) kd101 h15 h16 (by decide) ?_
  refine s_iinc (show decode (am_cc m9_unlike) 280 = .ok (.iinc 11 1, 3) by decide +kernel) rfl (by decide) h17 ?_
  refine s_goto (tgt := 188) (show decode (am_cc m9_unlike) 283 = .ok (.goto (-95), 3) by decide +kernel) (by decide) ?_
  refine am_fg 12 ?_
  refine am_fg 13 ?_
  exact k
theorem g9_unlike_286 {a1 a2 a3 a4 a5 a6 : Int} {M : am_M} {Q : Option am_V → am_M → Prop} (h1 : -2147483648 ≤ a6 + 1 ∧ a6 + 1 ≤ 2147483647) (k : am_AtN m9_unlike 75 [some (vr 86), some (vi a1), some (vi a2), some (vi a3), some (vi a4), some (vi a5), some (vi (a6 + 1)), none, none, none, none, none, none, none] [] KS M Q) : am_AtN m9_unlike 286 [some (vr 86), some (vi a1), some (vi a2), some (vi a3), some (vi a4), some (vi a5), some (vi a6), none, none, none, none, none, none, none] [] KS M Q := by
  refine s_iinc (show decode (am_cc m9_unlike) 286 = .ok (.iinc 6 1, 3) by decide +kernel) rfl (by decide) h1 ?_
  refine s_goto (tgt := 75) (show decode (am_cc m9_unlike) 289 = .ok (.goto (-214), 3) by decide +kernel) (by decide) ?_
  exact k
theorem g9_unlike_292 {a1 a2 a3 a4 a5 a6 : Int} {M : am_M} {Q : Option am_V → am_M → Prop} (k1 : a5 = 0 → am_AtN m9_unlike 300 [some (vr 86), some (vi a1), some (vi a2), some (vi a3), some (vi a4), some (vi a5), some (vi a6), none, none, none, none, none, none, none] [] KS M Q) (k2 : ¬ (a5 = 0) → am_AtN m9_unlike 297 [some (vr 86), some (vi a1), some (vi a2), some (vi a3), some (vi a4), some (vi a5), some (vi a6), none, none, none, none, none, none, none] [] KS M Q) : am_AtN m9_unlike 292 [some (vr 86), some (vi a1), some (vi a2), some (vi a3), some (vi a4), some (vi a5), some (vi a6), none, none, none, none, none, none, none] [] KS M Q := by
  refine s_iload (show decode (am_cc m9_unlike) 292 = .ok (.iload 5, 2) by decide +kernel) rfl ?_
  exact s_if_eq (tgt := 300) (show decode (am_cc m9_unlike) 294 = .ok (.ifCond .eq 6, 3) by decide +kernel) (by decide) k1 k2
theorem g9_unlike_297 {a1 a2 a3 a4 a5 a6 : Int} {M : am_M} {Q : Option am_V → am_M → Prop} (k : Q (some (vi a4)) M) : am_AtN m9_unlike 297 [some (vr 86), some (vi a1), some (vi a2), some (vi a3), some (vi a4), some (vi a5), some (vi a6), none, none, none, none, none, none, none] [] KS M Q := by
  refine s_iload (show decode (am_cc m9_unlike) 297 = .ok (.iload 4, 2) by decide +kernel) rfl ?_
  exact s_ireturn (show decode (am_cc m9_unlike) 299 = .ok (.ireturn, 1) by decide +kernel) rfl k
theorem g9_unlike_300 {a1 a2 a3 a4 a5 a6 : Int} {M : am_M} {Q : Option am_V → am_M → Prop} (k : am_AtN m9_unlike 303 [some (vr 86), some (vi a1), some (vi a2), some (vi a3), some (vi a4), some (vi a5), some (vi 0), none, none, none, none, none, none, none] [] KS M Q) : am_AtN m9_unlike 300 [some (vr 86), some (vi a1), some (vi a2), some (vi a3), some (vi a4), some (vi a5), some (vi a6), none, none, none, none, none, none, none] [] KS M Q := by
  refine s_iconst (show decode (am_cc m9_unlike) 300 = .ok (.iconst 0, 1) by decide +kernel) ⟨by decide, by decide⟩ ?_
  refine s_istore (show decode (am_cc m9_unlike) 301 = .ok (.istore 6, 2) by decide +kernel) (by decide) ?_
  exact k
theorem g9_unlike_303 {a1 a2 a3 a4 a5 a6 : Int} {M : am_M} {Q : Option am_V → am_M → Prop} (k1 : 14400 ≤ a6 → am_AtN m9_unlike 331 [some (vr 86), some (vi a1), some (vi a2), some (vi a3), some (vi a4), some (vi a5), some (vi a6), none, none, none, none, none, none, none] [] KS M Q) (k2 : ¬ (14400 ≤ a6) → am_AtN m9_unlike 311 [some (vr 86), some (vi a1), some (vi a2), some (vi a3), some (vi a4), some (vi a5), some (vi a6), none, none, none, none, none, none, none] [] KS M Q) : am_AtN m9_unlike 303 [some (vr 86), some (vi a1), some (vi a2), some (vi a3), some (vi a4), some (vi a5), some (vi a6), none, none, none, none, none, none, none] [] KS M Q := by
  refine s_iload (show decode (am_cc m9_unlike) 303 = .ok (.iload 6, 2) by decide +kernel) rfl ?_
  refine s_sipush (show decode (am_cc m9_unlike) 305 = .ok (.sipush 14400, 3) by decide +kernel) ⟨by decide, by decide⟩ (by decide) ?_
  exact s_icmp_ge (tgt := 331) (show decode (am_cc m9_unlike) 308 = .ok (.if_icmp .ge 23, 3) by decide +kernel) (by decide) k1 k2
theorem g9_unlike_311 {a1 a2 a3 a4 a5 a6 : Int} {M : am_M} {Q : Option am_V → am_M → Prop} (h1 : 0 ≤ a6) (h2 : a6 < 14400) (h3 : 0 ≤ a6) (h4 : a6 < 14400) (h5 : M 101 a6 = 0 ∨ M 101 a6 = 1) (h6 : -2147483648 ≤ a6 + 1 ∧ a6 + 1 ≤ 2147483647) (k : am_AtN m9_unlike 303 [some (vr 86), some (vi a1), some (vi a2), some (vi a3), some (vi a4), some (vi a5), some (vi (a6 + 1)), none, none, none, none, none, none, none] [] KS (am_up M 100 a6 (M 101 a6)) Q) : am_AtN m9_unlike 311 [some (vr 86), some (vi a1), some (vi a2), some (vi a3), some (vi a4), some (vi a5), some (vi a6), none, none, none, none, none, none, none] [] KS M Q := by
  refine s_aload_n (show decode (am_cc m9_unlike) 311 = .ok (.aload_n 0, 1) by decide +kernel) rfl ?_
  refine s_getf (k := 19) (v := vr 100) (show decode (am_cc m9_unlike) 312 = .ok (.getfield 50, 3) by decide +kernel) kd86 (by decide) rfl jnX9 (by decide) lf_RX9_50 rfl ?_
  refine s_iload (show decode (am_cc m9_unlike) 315 = .ok (.iload 6, 2) by decide +kernel) rfl ?_
  refine s_aload_n (show decode (am_cc m9_unlike) 317 = .ok (.aload_n 0, 1) by decide +kernel) rfl ?_
  refine s_getf (k := 20) (v := vr 101) (show decode (am_cc m9_unlike) 318 = .ok (.getfield 53, 3) by decide +kernel) kd86 (by decide) rfl jnX9 (by decide) lf_RX9_53 rfl ?_
  refine s_iload (show decode (am_cc m9_unlike) 321 = .ok (.iload 6, 2) by decide +kernel) rfl ?_
  refine s_baload (show decode (am_cc m9_unlike) 323 = .ok (.baload, 1) by decide +kernel) kd101 h1 h2 ?_
  refine s_bastore (show decode (am_cc m9_unlike) 324 = .ok (.bastore, 1) by decide +kernel) kd100 h3 h4 h5 ?_
  refine s_iinc (show decode (am_cc m9_unlike) 325 = .ok (.iinc 6 1, 3) by decide +kernel) rfl (by decide) h6 ?_
  refine s_goto (tgt := 303) (show decode (am_cc m9_unlike) 328 = .ok (.goto (-25), 3) by decide +kernel) (by decide) ?_
  exact k
theorem g9_unlike_331 {a1 a2 a3 a4 a5 a6 : Int} {M : am_M} {Q : Option am_V → am_M → Prop} (h1 : -2147483648 ≤ a4 + 1 ∧ a4 + 1 ≤ 2147483647) (k : am_AtN m9_unlike 37 [some (vr 86), some (vi a1), some (vi a2), some (vi a3), some (vi (a4 + 1)), none, none, none, none, none, none, none, none, none] [] KS M Q) : am_AtN m9_unlike 331 [some (vr 86), some (vi a1), some (vi a2), some (vi a3), some (vi a4), some (vi a5), some (vi a6), none, none, none, none, none, none, none] [] KS M Q := by
  refine s_iinc (show decode (am_cc m9_unlike) 331 = .ok (.iinc 4 1, 3) by decide +kernel) rfl (by decide) h1 ?_
  refine s_goto (tgt := 37) (show decode (am_cc m9_unlike) 334 = .ok (.goto (-297), 3) by decide +kernel) (by decide) ?_
  refine am_fg 5 ?_
  refine am_fg 6 ?_
  exact k
theorem g9_unlike_337 {a1 a2 a3 a4 : Int} {M : am_M} {Q : Option am_V → am_M → Prop} (k : Q (some (vi (-9))) M) : am_AtN m9_unlike 337 [some (vr 86), some (vi a1), some (vi a2), some (vi a3), some (vi a4), none, none, none, none, none, none, none, none, none] [] KS M Q := by
  refine s_bipush (show decode (am_cc m9_unlike) 337 = .ok (.bipush (-9), 2) by decide +kernel) ⟨by decide, by decide⟩ (by decide) ?_
  exact s_ireturn (show decode (am_cc m9_unlike) 339 = .ok (.ireturn, 1) by decide +kernel) rfl k
theorem g9_stays_0 {a1 a2 a3 : Int} {M : am_M} {Q : Option am_V → am_M → Prop} (k : am_CallN m9_noSentence [vi a1] KS (am_up M 86 0 0) (fun r M' => am_AtN m9_stays 9 [some (vr 86), some (vi a1), some (vi a2), some (vi a3)] (r.toList ++ []) KS M' Q)) : am_AtN m9_stays 0 [some (vr 86), some (vi a1), some (vi a2), some (vi a3)] [] KS M Q := by
  refine s_aload_n (show decode (am_cc m9_stays) 0 = .ok (.aload_n 0, 1) by decide +kernel) rfl ?_
  refine s_iconst (show decode (am_cc m9_stays) 1 = .ok (.iconst 0, 1) by decide +kernel) ⟨by decide, by decide⟩ ?_
  refine s_putf (k := 0) (x := 0) (ty0 := tyX9) (show decode (am_cc m9_stays) 2 = .ok (.putfield 95, 3) by decide +kernel) kd86 (by decide) rfl jnX9 tyX9_ok nmX9 (by decide) lf_RX9_95 rfl (Or.inl ⟨rfl, rfl, rfl⟩) ?_
  refine s_iload_n (show decode (am_cc m9_stays) 5 = .ok (.iload_n 1, 1) by decide +kernel) rfl ?_
  exact n_callS (as := [vi a1]) (stk := []) (show decode (am_cc m9_stays) 6 = .ok (.invokestatic 122, 3) by decide +kernel) lk_RX9_122 (by decide) (Nat.le_of_ble_eq_true rfl) ⟨rfl, rfl⟩ k
theorem g9_stays_9 {a1 a2 a3 t0 : Int} {M : am_M} {Q : Option am_V → am_M → Prop} (k1 : ¬ t0 = 0 → am_AtN m9_stays 27 [some (vr 86), some (vi a1), some (vi a2), some (vi a3)] [] KS M Q) (k2 : t0 = 0 → am_AtN m9_stays 12 [some (vr 86), some (vi a1), some (vi a2), some (vi a3)] [] KS M Q) : am_AtN m9_stays 9 [some (vr 86), some (vi a1), some (vi a2), some (vi a3)] [vi t0] KS M Q := by
  exact s_if_ne (tgt := 27) (show decode (am_cc m9_stays) 9 = .ok (.ifCond .ne 18, 3) by decide +kernel) (by decide) k1 k2
theorem g9_stays_12 {a1 a2 a3 : Int} {M : am_M} {Q : Option am_V → am_M → Prop} (k : am_CallN m9_noProgram [vi a2] KS M (fun r M' => am_AtN m9_stays 16 [some (vr 86), some (vi a1), some (vi a2), some (vi a3)] (r.toList ++ []) KS M' Q)) : am_AtN m9_stays 12 [some (vr 86), some (vi a1), some (vi a2), some (vi a3)] [] KS M Q := by
  refine s_iload_n (show decode (am_cc m9_stays) 12 = .ok (.iload_n 2, 1) by decide +kernel) rfl ?_
  exact n_callS (as := [vi a2]) (stk := []) (show decode (am_cc m9_stays) 13 = .ok (.invokestatic 144, 3) by decide +kernel) lk_RX9_144 (by decide) (Nat.le_of_ble_eq_true rfl) ⟨rfl, rfl⟩ k
theorem g9_stays_16 {a1 a2 a3 t0 : Int} {M : am_M} {Q : Option am_V → am_M → Prop} (k1 : ¬ t0 = 0 → am_AtN m9_stays 27 [some (vr 86), some (vi a1), some (vi a2), some (vi a3)] [] KS M Q) (k2 : t0 = 0 → am_AtN m9_stays 19 [some (vr 86), some (vi a1), some (vi a2), some (vi a3)] [] KS M Q) : am_AtN m9_stays 16 [some (vr 86), some (vi a1), some (vi a2), some (vi a3)] [vi t0] KS M Q := by
  exact s_if_ne (tgt := 27) (show decode (am_cc m9_stays) 16 = .ok (.ifCond .ne 11, 3) by decide +kernel) (by decide) k1 k2
theorem g9_stays_19 {a1 a2 a3 : Int} {M : am_M} {Q : Option am_V → am_M → Prop} (k : am_CallN m9_noLetter [vr 86, vi a3] KS M (fun r M' => am_AtN m9_stays 24 [some (vr 86), some (vi a1), some (vi a2), some (vi a3)] (r.toList ++ []) KS M' Q)) : am_AtN m9_stays 19 [some (vr 86), some (vi a1), some (vi a2), some (vi a3)] [] KS M Q := by
  refine s_aload_n (show decode (am_cc m9_stays) 19 = .ok (.aload_n 0, 1) by decide +kernel) rfl ?_
  refine s_iload_n (show decode (am_cc m9_stays) 20 = .ok (.iload_n 3, 1) by decide +kernel) rfl ?_
  exact n_callV (as := [vi a3]) (stk := []) (show decode (am_cc m9_stays) 21 = .ok (.invokevirtual 129, 3) by decide +kernel) lk_RX9_129 kd86 (by decide) rfl rfl (by decide) (Nat.le_of_ble_eq_true rfl) ⟨rfl, rfl⟩ k
theorem g9_stays_24 {a1 a2 a3 t0 : Int} {M : am_M} {Q : Option am_V → am_M → Prop} (k1 : t0 = 0 → am_AtN m9_stays 29 [some (vr 86), some (vi a1), some (vi a2), some (vi a3)] [] KS M Q) (k2 : ¬ (t0 = 0) → am_AtN m9_stays 27 [some (vr 86), some (vi a1), some (vi a2), some (vi a3)] [] KS M Q) : am_AtN m9_stays 24 [some (vr 86), some (vi a1), some (vi a2), some (vi a3)] [vi t0] KS M Q := by
  exact s_if_eq (tgt := 29) (show decode (am_cc m9_stays) 24 = .ok (.ifCond .eq 5, 3) by decide +kernel) (by decide) k1 k2
theorem g9_stays_27 {a1 a2 a3 : Int} {M : am_M} {Q : Option am_V → am_M → Prop} (k : Q (some (vi (-1))) M) : am_AtN m9_stays 27 [some (vr 86), some (vi a1), some (vi a2), some (vi a3)] [] KS M Q := by
  refine s_iconst (show decode (am_cc m9_stays) 27 = .ok (.iconst (-1), 1) by decide +kernel) ⟨by decide, by decide⟩ ?_
  exact s_ireturn (show decode (am_cc m9_stays) 28 = .ok (.ireturn, 1) by decide +kernel) rfl k
theorem g9_stays_29 {a1 a2 a3 : Int} {M : am_M} {Q : Option am_V → am_M → Prop} (k : am_CallN m9_unlike [vr 86, vi a1, vi a2, vi a3] KS M (fun r M' => am_AtN m9_stays 36 [some (vr 86), some (vi a1), some (vi a2), some (vi a3)] (r.toList ++ []) KS M' Q)) : am_AtN m9_stays 29 [some (vr 86), some (vi a1), some (vi a2), some (vi a3)] [] KS M Q := by
  refine s_aload_n (show decode (am_cc m9_stays) 29 = .ok (.aload_n 0, 1) by decide +kernel) rfl ?_
  refine s_iload_n (show decode (am_cc m9_stays) 30 = .ok (.iload_n 1, 1) by decide +kernel) rfl ?_
  refine s_iload_n (show decode (am_cc m9_stays) 31 = .ok (.iload_n 2, 1) by decide +kernel) rfl ?_
  refine s_iload_n (show decode (am_cc m9_stays) 32 = .ok (.iload_n 3, 1) by decide +kernel) rfl ?_
  exact n_callV (as := [vi a1, vi a2, vi a3]) (stk := []) (show decode (am_cc m9_stays) 33 = .ok (.invokevirtual 200, 3) by decide +kernel) lk_RX9_200 kd86 (by decide) rfl rfl (by decide) (Nat.le_of_ble_eq_true rfl) ⟨rfl, rfl⟩ k
theorem g9_stays_36 {a1 a2 a3 t0 : Int} {M : am_M} {Q : Option am_V → am_M → Prop} (k1 : ¬ t0 = -9 → am_AtN m9_stays 45 [some (vr 86), some (vi a1), some (vi a2), some (vi a3)] [] KS M Q) (k2 : t0 = -9 → am_AtN m9_stays 41 [some (vr 86), some (vi a1), some (vi a2), some (vi a3)] [] KS M Q) : am_AtN m9_stays 36 [some (vr 86), some (vi a1), some (vi a2), some (vi a3)] [vi t0] KS M Q := by
  refine s_bipush (show decode (am_cc m9_stays) 36 = .ok (.bipush (-9), 2) by decide +kernel) ⟨by decide, by decide⟩ (by decide) ?_
  exact s_icmp_ne (tgt := 45) (show decode (am_cc m9_stays) 38 = .ok (.if_icmp .ne 7, 3) by decide +kernel) (by decide) k1 k2
theorem g9_stays_41 {a1 a2 a3 : Int} {M : am_M} {Q : Option am_V → am_M → Prop} (k : am_AtN m9_stays 46 [some (vr 86), some (vi a1), some (vi a2), some (vi a3)] [vi 1] KS M Q) : am_AtN m9_stays 41 [some (vr 86), some (vi a1), some (vi a2), some (vi a3)] [] KS M Q := by
  refine s_iconst (show decode (am_cc m9_stays) 41 = .ok (.iconst 1, 1) by decide +kernel) ⟨by decide, by decide⟩ ?_
  refine s_goto (tgt := 46) (show decode (am_cc m9_stays) 42 = .ok (.goto 4, 3) by decide +kernel) (by decide) ?_
  exact k
theorem g9_stays_45 {a1 a2 a3 : Int} {M : am_M} {Q : Option am_V → am_M → Prop} (k : am_AtN m9_stays 46 [some (vr 86), some (vi a1), some (vi a2), some (vi a3)] [vi 0] KS M Q) : am_AtN m9_stays 45 [some (vr 86), some (vi a1), some (vi a2), some (vi a3)] [] KS M Q := by
  refine s_iconst (show decode (am_cc m9_stays) 45 = .ok (.iconst 0, 1) by decide +kernel) ⟨by decide, by decide⟩ ?_
  exact k
theorem g9_stays_46 {a1 a2 a3 t0 : Int} {M : am_M} {Q : Option am_V → am_M → Prop} (k : Q (some (vi t0)) M) : am_AtN m9_stays 46 [some (vr 86), some (vi a1), some (vi a2), some (vi a3)] [vi t0] KS M Q := by
  exact s_ireturn (show decode (am_cc m9_stays) 46 = .ok (.ireturn, 1) by decide +kernel) rfl k
theorem g9_witness_0 {a1 a2 a3 : Int} {M : am_M} {Q : Option am_V → am_M → Prop} (k : am_CallN m9_noSentence [vi a1] KS (am_up M 86 0 0) (fun r M' => am_AtN m9_witness 9 [some (vr 86), some (vi a1), some (vi a2), some (vi a3)] (r.toList ++ []) KS M' Q)) : am_AtN m9_witness 0 [some (vr 86), some (vi a1), some (vi a2), some (vi a3)] [] KS M Q := by
  refine s_aload_n (show decode (am_cc m9_witness) 0 = .ok (.aload_n 0, 1) by decide +kernel) rfl ?_
  refine s_iconst (show decode (am_cc m9_witness) 1 = .ok (.iconst 0, 1) by decide +kernel) ⟨by decide, by decide⟩ ?_
  refine s_putf (k := 0) (x := 0) (ty0 := tyX9) (show decode (am_cc m9_witness) 2 = .ok (.putfield 95, 3) by decide +kernel) kd86 (by decide) rfl jnX9 tyX9_ok nmX9 (by decide) lf_RX9_95 rfl (Or.inl ⟨rfl, rfl, rfl⟩) ?_
  refine s_iload_n (show decode (am_cc m9_witness) 5 = .ok (.iload_n 1, 1) by decide +kernel) rfl ?_
  exact n_callS (as := [vi a1]) (stk := []) (show decode (am_cc m9_witness) 6 = .ok (.invokestatic 122, 3) by decide +kernel) lk_RX9_122 (by decide) (Nat.le_of_ble_eq_true rfl) ⟨rfl, rfl⟩ k
theorem g9_witness_9 {a1 a2 a3 t0 : Int} {M : am_M} {Q : Option am_V → am_M → Prop} (k1 : ¬ t0 = 0 → am_AtN m9_witness 27 [some (vr 86), some (vi a1), some (vi a2), some (vi a3)] [] KS M Q) (k2 : t0 = 0 → am_AtN m9_witness 12 [some (vr 86), some (vi a1), some (vi a2), some (vi a3)] [] KS M Q) : am_AtN m9_witness 9 [some (vr 86), some (vi a1), some (vi a2), some (vi a3)] [vi t0] KS M Q := by
  exact s_if_ne (tgt := 27) (show decode (am_cc m9_witness) 9 = .ok (.ifCond .ne 18, 3) by decide +kernel) (by decide) k1 k2
theorem g9_witness_12 {a1 a2 a3 : Int} {M : am_M} {Q : Option am_V → am_M → Prop} (k : am_CallN m9_noProgram [vi a2] KS M (fun r M' => am_AtN m9_witness 16 [some (vr 86), some (vi a1), some (vi a2), some (vi a3)] (r.toList ++ []) KS M' Q)) : am_AtN m9_witness 12 [some (vr 86), some (vi a1), some (vi a2), some (vi a3)] [] KS M Q := by
  refine s_iload_n (show decode (am_cc m9_witness) 12 = .ok (.iload_n 2, 1) by decide +kernel) rfl ?_
  exact n_callS (as := [vi a2]) (stk := []) (show decode (am_cc m9_witness) 13 = .ok (.invokestatic 144, 3) by decide +kernel) lk_RX9_144 (by decide) (Nat.le_of_ble_eq_true rfl) ⟨rfl, rfl⟩ k
theorem g9_witness_16 {a1 a2 a3 t0 : Int} {M : am_M} {Q : Option am_V → am_M → Prop} (k1 : ¬ t0 = 0 → am_AtN m9_witness 27 [some (vr 86), some (vi a1), some (vi a2), some (vi a3)] [] KS M Q) (k2 : t0 = 0 → am_AtN m9_witness 19 [some (vr 86), some (vi a1), some (vi a2), some (vi a3)] [] KS M Q) : am_AtN m9_witness 16 [some (vr 86), some (vi a1), some (vi a2), some (vi a3)] [vi t0] KS M Q := by
  exact s_if_ne (tgt := 27) (show decode (am_cc m9_witness) 16 = .ok (.ifCond .ne 11, 3) by decide +kernel) (by decide) k1 k2
theorem g9_witness_19 {a1 a2 a3 : Int} {M : am_M} {Q : Option am_V → am_M → Prop} (k : am_CallN m9_noLetter [vr 86, vi a3] KS M (fun r M' => am_AtN m9_witness 24 [some (vr 86), some (vi a1), some (vi a2), some (vi a3)] (r.toList ++ []) KS M' Q)) : am_AtN m9_witness 19 [some (vr 86), some (vi a1), some (vi a2), some (vi a3)] [] KS M Q := by
  refine s_aload_n (show decode (am_cc m9_witness) 19 = .ok (.aload_n 0, 1) by decide +kernel) rfl ?_
  refine s_iload_n (show decode (am_cc m9_witness) 20 = .ok (.iload_n 3, 1) by decide +kernel) rfl ?_
  exact n_callV (as := [vi a3]) (stk := []) (show decode (am_cc m9_witness) 21 = .ok (.invokevirtual 129, 3) by decide +kernel) lk_RX9_129 kd86 (by decide) rfl rfl (by decide) (Nat.le_of_ble_eq_true rfl) ⟨rfl, rfl⟩ k
theorem g9_witness_24 {a1 a2 a3 t0 : Int} {M : am_M} {Q : Option am_V → am_M → Prop} (k1 : t0 = 0 → am_AtN m9_witness 31 [some (vr 86), some (vi a1), some (vi a2), some (vi a3)] [] KS M Q) (k2 : ¬ (t0 = 0) → am_AtN m9_witness 27 [some (vr 86), some (vi a1), some (vi a2), some (vi a3)] [] KS M Q) : am_AtN m9_witness 24 [some (vr 86), some (vi a1), some (vi a2), some (vi a3)] [vi t0] KS M Q := by
  exact s_if_eq (tgt := 31) (show decode (am_cc m9_witness) 24 = .ok (.ifCond .eq 7, 3) by decide +kernel) (by decide) k1 k2
theorem g9_witness_27 {a1 a2 a3 : Int} {M : am_M} {Q : Option am_V → am_M → Prop} (k : am_AtN m9_witness 38 [some (vr 86), some (vi a1), some (vi a2), some (vi a3)] [vi (-1)] KS M Q) : am_AtN m9_witness 27 [some (vr 86), some (vi a1), some (vi a2), some (vi a3)] [] KS M Q := by
  refine s_iconst (show decode (am_cc m9_witness) 27 = .ok (.iconst (-1), 1) by decide +kernel) ⟨by decide, by decide⟩ ?_
  refine s_goto (tgt := 38) (show decode (am_cc m9_witness) 28 = .ok (.goto 10, 3) by decide +kernel) (by decide) ?_
  exact k
theorem g9_witness_31 {a1 a2 a3 : Int} {M : am_M} {Q : Option am_V → am_M → Prop} (k : am_CallN m9_unlike [vr 86, vi a1, vi a2, vi a3] KS M (fun r M' => am_AtN m9_witness 38 [some (vr 86), some (vi a1), some (vi a2), some (vi a3)] (r.toList ++ []) KS M' Q)) : am_AtN m9_witness 31 [some (vr 86), some (vi a1), some (vi a2), some (vi a3)] [] KS M Q := by
  refine s_aload_n (show decode (am_cc m9_witness) 31 = .ok (.aload_n 0, 1) by decide +kernel) rfl ?_
  refine s_iload_n (show decode (am_cc m9_witness) 32 = .ok (.iload_n 1, 1) by decide +kernel) rfl ?_
  refine s_iload_n (show decode (am_cc m9_witness) 33 = .ok (.iload_n 2, 1) by decide +kernel) rfl ?_
  refine s_iload_n (show decode (am_cc m9_witness) 34 = .ok (.iload_n 3, 1) by decide +kernel) rfl ?_
  exact n_callV (as := [vi a1, vi a2, vi a3]) (stk := []) (show decode (am_cc m9_witness) 35 = .ok (.invokevirtual 200, 3) by decide +kernel) lk_RX9_200 kd86 (by decide) rfl rfl (by decide) (Nat.le_of_ble_eq_true rfl) ⟨rfl, rfl⟩ k
theorem g9_witness_38 {a1 a2 a3 t0 : Int} {M : am_M} {Q : Option am_V → am_M → Prop} (k : Q (some (vi t0)) M) : am_AtN m9_witness 38 [some (vr 86), some (vi a1), some (vi a2), some (vi a3)] [vi t0] KS M Q := by
  exact s_ireturn (show decode (am_cc m9_witness) 38 = .ok (.ireturn, 1) by decide +kernel) rfl k
theorem g9_pair_0 {a1 a2 a3 a4 a5 : Int} {M : am_M} {Q : Option am_V → am_M → Prop} (h1 : -2147483648 ≤ 24 * a3 ∧ 24 * a3 ≤ 2147483647) (h2 : 0 ≤ a1) (h3 : -2147483648 ≤ 4 * (a1 / 36) ∧ 4 * (a1 / 36) ≤ 2147483647) (h4 : -2147483648 ≤ (24 * a3) + (4 * (a1 / 36)) ∧ (24 * a3) + (4 * (a1 / 36)) ≤ 2147483647) (h5 : -2147483648 ≤ ((24 * a3) + (4 * (a1 / 36))) + a2 ∧ ((24 * a3) + (4 * (a1 / 36))) + a2 ≤ 2147483647) (h6 : 0 ≤ ((24 * a3) + (4 * (a1 / 36))) + a2) (h7 : ((24 * a3) + (4 * (a1 / 36))) + a2 < 192) (h8 : -2147483648 ≤ 36 * (M 87 (((24 * a3) + (4 * (a1 / 36))) + a2)) ∧ 36 * (M 87 (((24 * a3) + (4 * (a1 / 36))) + a2)) ≤ 2147483647) (h9 : -2147483648 ≤ 24 * a4 ∧ 24 * a4 ≤ 2147483647) (h10 : 0 ≤ a1) (h11 : 0 ≤ a1 / 6) (h12 : -2147483648 ≤ 4 * ((a1 / 6) % 6) ∧ 4 * ((a1 / 6) % 6) ≤ 2147483647) (h13 : -2147483648 ≤ (24 * a4) + (4 * ((a1 / 6) % 6)) ∧ (24 * a4) + (4 * ((a1 / 6) % 6)) ≤ 2147483647) (h14 : -2147483648 ≤ ((24 * a4) + (4 * ((a1 / 6) % 6))) + a2 ∧ ((24 * a4) + (4 * ((a1 / 6) % 6))) + a2 ≤ 2147483647) (h15 : 0 ≤ ((24 * a4) + (4 * ((a1 / 6) % 6))) + a2) (h16 : ((24 * a4) + (4 * ((a1 / 6) % 6))) + a2 < 96) (h17 : -2147483648 ≤ 6 * (M 92 (((24 * a4) + (4 * ((a1 / 6) % 6))) + a2)) ∧ 6 * (M 92 (((24 * a4) + (4 * ((a1 / 6) % 6))) + a2)) ≤ 2147483647) (h18 : -2147483648 ≤ (36 * (M 87 (((24 * a3) + (4 * (a1 / 36))) + a2))) + (6 * (M 92 (((24 * a4) + (4 * ((a1 / 6) % 6))) + a2))) ∧ (36 * (M 87 (((24 * a3) + (4 * (a1 / 36))) + a2))) + (6 * (M 92 (((24 * a4) + (4 * ((a1 / 6) % 6))) + a2))) ≤ 2147483647) (h19 : -2147483648 ≤ 24 * a5 ∧ 24 * a5 ≤ 2147483647) (h20 : 0 ≤ a1) (h21 : -2147483648 ≤ 4 * (a1 % 6) ∧ 4 * (a1 % 6) ≤ 2147483647) (h22 : -2147483648 ≤ (24 * a5) + (4 * (a1 % 6)) ∧ (24 * a5) + (4 * (a1 % 6)) ≤ 2147483647) (h23 : -2147483648 ≤ ((24 * a5) + (4 * (a1 % 6))) + a2 ∧ ((24 * a5) + (4 * (a1 % 6))) + a2 ≤ 2147483647) (h24 : 0 ≤ ((24 * a5) + (4 * (a1 % 6))) + a2) (h25 : ((24 * a5) + (4 * (a1 % 6))) + a2 < 96) (h26 : -2147483648 ≤ ((36 * (M 87 (((24 * a3) + (4 * (a1 / 36))) + a2))) + (6 * (M 92 (((24 * a4) + (4 * ((a1 / 6) % 6))) + a2)))) + (M 92 (((24 * a5) + (4 * (a1 % 6))) + a2)) ∧ ((36 * (M 87 (((24 * a3) + (4 * (a1 / 36))) + a2))) + (6 * (M 92 (((24 * a4) + (4 * ((a1 / 6) % 6))) + a2)))) + (M 92 (((24 * a5) + (4 * (a1 % 6))) + a2)) ≤ 2147483647) (k : Q (some (vi (((36 * (M 87 (((24 * a3) + (4 * (a1 / 36))) + a2))) + (6 * (M 92 (((24 * a4) + (4 * ((a1 / 6) % 6))) + a2)))) + (M 92 (((24 * a5) + (4 * (a1 % 6))) + a2))))) M) : am_AtN m9_pair 0 [some (vr 86), some (vi a1), some (vi a2), some (vi a3), some (vi a4), some (vi a5), none] [] KS M Q := by
  refine s_aload_n (show decode (am_cc m9_pair) 0 = .ok (.aload_n 0, 1) by decide +kernel) rfl ?_
  refine s_getf (k := 2) (v := vr 87) (show decode (am_cc m9_pair) 1 = .ok (.getfield 7, 3) by decide +kernel) kd86 (by decide) rfl jnX9 (by decide) lf_RX9_7 rfl ?_
  refine s_bipush (show decode (am_cc m9_pair) 4 = .ok (.bipush 24, 2) by decide +kernel) ⟨by decide, by decide⟩ (by decide) ?_
  refine s_iload_n (show decode (am_cc m9_pair) 6 = .ok (.iload_n 3, 1) by decide +kernel) rfl ?_
  refine s_imul (show decode (am_cc m9_pair) 7 = .ok (.imul, 1) by decide +kernel) h1 ?_
  refine s_iconst (show decode (am_cc m9_pair) 8 = .ok (.iconst 4, 1) by decide +kernel) ⟨by decide, by decide⟩ ?_
  refine s_iload_n (show decode (am_cc m9_pair) 9 = .ok (.iload_n 1, 1) by decide +kernel) rfl ?_
  refine s_bipush (show decode (am_cc m9_pair) 10 = .ok (.bipush 36, 2) by decide +kernel) ⟨by decide, by decide⟩ (by decide) ?_
  refine s_idiv (show decode (am_cc m9_pair) 12 = .ok (.idiv, 1) by decide +kernel) h2 (by decide) ?_
  refine s_imul (show decode (am_cc m9_pair) 13 = .ok (.imul, 1) by decide +kernel) h3 ?_
  refine s_iadd (show decode (am_cc m9_pair) 14 = .ok (.iadd, 1) by decide +kernel) h4 ?_
  refine s_iload_n (show decode (am_cc m9_pair) 15 = .ok (.iload_n 2, 1) by decide +kernel) rfl ?_
  refine s_iadd (show decode (am_cc m9_pair) 16 = .ok (.iadd, 1) by decide +kernel) h5 ?_
  refine s_iaload (show decode (am_cc m9_pair) 17 = .ok (.iaload, 1) by decide +kernel) kd87 h6 h7 ?_
  refine s_istore (show decode (am_cc m9_pair) 18 = .ok (.istore 6, 2) by decide +kernel) (by decide) ?_
  refine s_bipush (show decode (am_cc m9_pair) 20 = .ok (.bipush 36, 2) by decide +kernel) ⟨by decide, by decide⟩ (by decide) ?_
  refine s_iload (show decode (am_cc m9_pair) 22 = .ok (.iload 6, 2) by decide +kernel) rfl ?_
  refine s_imul (show decode (am_cc m9_pair) 24 = .ok (.imul, 1) by decide +kernel) h8 ?_
  refine s_bipush (show decode (am_cc m9_pair) 25 = .ok (.bipush 6, 2) by decide +kernel) ⟨by decide, by decide⟩ (by decide) ?_
  refine s_aload_n (show decode (am_cc m9_pair) 27 = .ok (.aload_n 0, 1) by decide +kernel) rfl ?_
  refine s_getf (k := 7) (v := vr 92) (show decode (am_cc m9_pair) 28 = .ok (.getfield 26, 3) by decide +kernel) kd86 (by decide) rfl jnX9 (by decide) lf_RX9_26 rfl ?_
  refine s_bipush (show decode (am_cc m9_pair) 31 = .ok (.bipush 24, 2) by decide +kernel) ⟨by decide, by decide⟩ (by decide) ?_
  refine s_iload (show decode (am_cc m9_pair) 33 = .ok (.iload 4, 2) by decide +kernel) rfl ?_
  refine s_imul (show decode (am_cc m9_pair) 35 = .ok (.imul, 1) by decide +kernel) h9 ?_
  refine s_iconst (show decode (am_cc m9_pair) 36 = .ok (.iconst 4, 1) by decide +kernel) ⟨by decide, by decide⟩ ?_
  refine s_iload_n (show decode (am_cc m9_pair) 37 = .ok (.iload_n 1, 1) by decide +kernel) rfl ?_
  refine s_bipush (show decode (am_cc m9_pair) 38 = .ok (.bipush 6, 2) by decide +kernel) ⟨by decide, by decide⟩ (by decide) ?_
  refine s_idiv (show decode (am_cc m9_pair) 40 = .ok (.idiv, 1) by decide +kernel) h10 (by decide) ?_
  refine s_bipush (show decode (am_cc m9_pair) 41 = .ok (.bipush 6, 2) by decide +kernel) ⟨by decide, by decide⟩ (by decide) ?_
  refine s_irem (show decode (am_cc m9_pair) 43 = .ok (.irem, 1) by decide +kernel) h11 (by decide) ?_
  refine s_imul (show decode (am_cc m9_pair) 44 = .ok (.imul, 1) by decide +kernel) h12 ?_
  refine s_iadd (show decode (am_cc m9_pair) 45 = .ok (.iadd, 1) by decide +kernel) h13 ?_
  refine s_iload_n (show decode (am_cc m9_pair) 46 = .ok (.iload_n 2, 1) by decide +kernel) rfl ?_
  refine s_iadd (show decode (am_cc m9_pair) 47 = .ok (.iadd, 1) by decide +kernel) h14 ?_
  refine s_iaload (show decode (am_cc m9_pair) 48 = .ok (.iaload, 1) by decide +kernel) kd92 h15 h16 ?_
  refine s_imul (show decode (am_cc m9_pair) 49 = .ok (.imul, 1) by decide +kernel) h17 ?_
  refine s_iadd (show decode (am_cc m9_pair) 50 = .ok (.iadd, 1) by decide +kernel) h18 ?_
  refine s_aload_n (show decode (am_cc m9_pair) 51 = .ok (.aload_n 0, 1) by decide +kernel) rfl ?_
  refine s_getf (k := 7) (v := vr 92) (show decode (am_cc m9_pair) 52 = .ok (.getfield 26, 3) by decide +kernel) kd86 (by decide) rfl jnX9 (by decide) lf_RX9_26 rfl ?_
  refine s_bipush (show decode (am_cc m9_pair) 55 = .ok (.bipush 24, 2) by decide +kernel) ⟨by decide, by decide⟩ (by decide) ?_
  refine s_iload (show decode (am_cc m9_pair) 57 = .ok (.iload 5, 2) by decide +kernel) rfl ?_
  refine s_imul (show decode (am_cc m9_pair) 59 = .ok (.imul, 1) by decide +kernel) h19 ?_
  refine s_iconst (show decode (am_cc m9_pair) 60 = .ok (.iconst 4, 1) by decide +kernel) ⟨by decide, by decide⟩ ?_
  refine s_iload_n (show decode (am_cc m9_pair) 61 = .ok (.iload_n 1, 1) by decide +kernel) rfl ?_
  refine s_bipush (show decode (am_cc m9_pair) 62 = .ok (.bipush 6, 2) by decide +kernel) ⟨by decide, by decide⟩ (by decide) ?_
  refine s_irem (show decode (am_cc m9_pair) 64 = .ok (.irem, 1) by decide +kernel) h20 (by decide) ?_
  refine s_imul (show decode (am_cc m9_pair) 65 = .ok (.imul, 1) by decide +kernel) h21 ?_
  refine s_iadd (show decode (am_cc m9_pair) 66 = .ok (.iadd, 1) by decide +kernel) h22 ?_
  refine s_iload_n (show decode (am_cc m9_pair) 67 = .ok (.iload_n 2, 1) by decide +kernel) rfl ?_
  refine s_iadd (show decode (am_cc m9_pair) 68 = .ok (.iadd, 1) by decide +kernel) h23 ?_
  refine s_iaload (show decode (am_cc m9_pair) 69 = .ok (.iaload, 1) by decide +kernel) kd92 h24 h25 ?_
  refine s_iadd (show decode (am_cc m9_pair) 70 = .ok (.iadd, 1) by decide +kernel) h26 ?_
  exact s_ireturn (show decode (am_cc m9_pair) 71 = .ok (.ireturn, 1) by decide +kernel) rfl k
theorem g9_writeBoth_0 {a1 a2 a3 a4 : Int} {M : am_M} {Q : Option am_V → am_M → Prop} (h1 : -2147483648 ≤ 6 * a2 ∧ 6 * a2 ≤ 2147483647) (h2 : 0 ≤ a1) (h3 : -2147483648 ≤ (6 * a2) + (a1 / 36) ∧ (6 * a2) + (a1 / 36) ≤ 2147483647) (h4 : 0 ≤ (6 * a2) + (a1 / 36)) (h5 : (6 * a2) + (a1 / 36) < 48) (k1 : M 88 ((6 * a2) + (a1 / 36)) = 0 → am_AtN m9_writeBoth 61 [some (vr 86), some (vi a1), some (vi a2), some (vi a3), some (vi a4)] [] KS M Q) (k2 : ¬ (M 88 ((6 * a2) + (a1 / 36)) = 0) → am_AtN m9_writeBoth 17 [some (vr 86), some (vi a1), some (vi a2), some (vi a3), some (vi a4)] [] KS M Q) : am_AtN m9_writeBoth 0 [some (vr 86), some (vi a1), some (vi a2), some (vi a3), some (vi a4)] [] KS M Q := by
  refine s_aload_n (show decode (am_cc m9_writeBoth) 0 = .ok (.aload_n 0, 1) by decide +kernel) rfl ?_
  refine s_getf (k := 3) (v := vr 88) (show decode (am_cc m9_writeBoth) 1 = .ok (.getfield 13, 3) by decide +kernel) kd86 (by decide) rfl jnX9 (by decide) lf_RX9_13 rfl ?_
  refine s_bipush (show decode (am_cc m9_writeBoth) 4 = .ok (.bipush 6, 2) by decide +kernel) ⟨by decide, by decide⟩ (by decide) ?_
  refine s_iload_n (show decode (am_cc m9_writeBoth) 6 = .ok (.iload_n 2, 1) by decide +kernel) rfl ?_
  refine s_imul (show decode (am_cc m9_writeBoth) 7 = .ok (.imul, 1) by decide +kernel) h1 ?_
  refine s_iload_n (show decode (am_cc m9_writeBoth) 8 = .ok (.iload_n 1, 1) by decide +kernel) rfl ?_
  refine s_bipush (show decode (am_cc m9_writeBoth) 9 = .ok (.bipush 36, 2) by decide +kernel) ⟨by decide, by decide⟩ (by decide) ?_
  refine s_idiv (show decode (am_cc m9_writeBoth) 11 = .ok (.idiv, 1) by decide +kernel) h2 (by decide) ?_
  refine s_iadd (show decode (am_cc m9_writeBoth) 12 = .ok (.iadd, 1) by decide +kernel) h3 ?_
  refine s_baload (show decode (am_cc m9_writeBoth) 13 = .ok (.baload, 1) by decide +kernel) kd88 h4 h5 ?_
  exact s_if_eq (tgt := 61) (show decode (am_cc m9_writeBoth) 14 = .ok (.ifCond .eq 47, 3) by decide +kernel) (by decide) k1 k2
theorem g9_writeBoth_17 {a1 a2 a3 a4 : Int} {M : am_M} {Q : Option am_V → am_M → Prop} (h1 : -2147483648 ≤ 6 * a3 ∧ 6 * a3 ≤ 2147483647) (h2 : 0 ≤ a1) (h3 : 0 ≤ a1 / 6) (h4 : -2147483648 ≤ (6 * a3) + ((a1 / 6) % 6) ∧ (6 * a3) + ((a1 / 6) % 6) ≤ 2147483647) (h5 : 0 ≤ (6 * a3) + ((a1 / 6) % 6)) (h6 : (6 * a3) + ((a1 / 6) % 6) < 24) (k1 : M 94 ((6 * a3) + ((a1 / 6) % 6)) = -1 → am_AtN m9_writeBoth 61 [some (vr 86), some (vi a1), some (vi a2), some (vi a3), some (vi a4)] [] KS M Q) (k2 : ¬ (M 94 ((6 * a3) + ((a1 / 6) % 6)) = -1) → am_AtN m9_writeBoth 38 [some (vr 86), some (vi a1), some (vi a2), some (vi a3), some (vi a4)] [] KS M Q) : am_AtN m9_writeBoth 17 [some (vr 86), some (vi a1), some (vi a2), some (vi a3), some (vi a4)] [] KS M Q := by
  refine s_aload_n (show decode (am_cc m9_writeBoth) 17 = .ok (.aload_n 0, 1) by decide +kernel) rfl ?_
  refine s_getf (k := 9) (v := vr 94) (show decode (am_cc m9_writeBoth) 18 = .ok (.getfield 32, 3) by decide +kernel) kd86 (by decide) rfl jnX9 (by decide) lf_RX9_32 rfl ?_
  refine s_bipush (show decode (am_cc m9_writeBoth) 21 = .ok (.bipush 6, 2) by decide +kernel) ⟨by decide, by decide⟩ (by decide) ?_
  refine s_iload_n (show decode (am_cc m9_writeBoth) 23 = .ok (.iload_n 3, 1) by decide +kernel) rfl ?_
  refine s_imul (show decode (am_cc m9_writeBoth) 24 = .ok (.imul, 1) by decide +kernel) h1 ?_
  refine s_iload_n (show decode (am_cc m9_writeBoth) 25 = .ok (.iload_n 1, 1) by decide +kernel) rfl ?_
  refine s_bipush (show decode (am_cc m9_writeBoth) 26 = .ok (.bipush 6, 2) by decide +kernel) ⟨by decide, by decide⟩ (by decide) ?_
  refine s_idiv (show decode (am_cc m9_writeBoth) 28 = .ok (.idiv, 1) by decide +kernel) h2 (by decide) ?_
  refine s_bipush (show decode (am_cc m9_writeBoth) 29 = .ok (.bipush 6, 2) by decide +kernel) ⟨by decide, by decide⟩ (by decide) ?_
  refine s_irem (show decode (am_cc m9_writeBoth) 31 = .ok (.irem, 1) by decide +kernel) h3 (by decide) ?_
  refine s_iadd (show decode (am_cc m9_writeBoth) 32 = .ok (.iadd, 1) by decide +kernel) h4 ?_
  refine s_iaload (show decode (am_cc m9_writeBoth) 33 = .ok (.iaload, 1) by decide +kernel) kd94 h5 h6 ?_
  refine s_iconst (show decode (am_cc m9_writeBoth) 34 = .ok (.iconst (-1), 1) by decide +kernel) ⟨by decide, by decide⟩ ?_
  exact s_icmp_eq (tgt := 61) (show decode (am_cc m9_writeBoth) 35 = .ok (.if_icmp .eq 26, 3) by decide +kernel) (by decide) k1 k2
theorem g9_writeBoth_38 {a1 a2 a3 a4 : Int} {M : am_M} {Q : Option am_V → am_M → Prop} (h1 : -2147483648 ≤ 6 * a4 ∧ 6 * a4 ≤ 2147483647) (h2 : 0 ≤ a1) (h3 : -2147483648 ≤ (6 * a4) + (a1 % 6) ∧ (6 * a4) + (a1 % 6) ≤ 2147483647) (h4 : 0 ≤ (6 * a4) + (a1 % 6)) (h5 : (6 * a4) + (a1 % 6) < 24) (k1 : M 94 ((6 * a4) + (a1 % 6)) = -1 → am_AtN m9_writeBoth 61 [some (vr 86), some (vi a1), some (vi a2), some (vi a3), some (vi a4)] [] KS M Q) (k2 : ¬ (M 94 ((6 * a4) + (a1 % 6)) = -1) → am_AtN m9_writeBoth 57 [some (vr 86), some (vi a1), some (vi a2), some (vi a3), some (vi a4)] [] KS M Q) : am_AtN m9_writeBoth 38 [some (vr 86), some (vi a1), some (vi a2), some (vi a3), some (vi a4)] [] KS M Q := by
  refine s_aload_n (show decode (am_cc m9_writeBoth) 38 = .ok (.aload_n 0, 1) by decide +kernel) rfl ?_
  refine s_getf (k := 9) (v := vr 94) (show decode (am_cc m9_writeBoth) 39 = .ok (.getfield 32, 3) by decide +kernel) kd86 (by decide) rfl jnX9 (by decide) lf_RX9_32 rfl ?_
  refine s_bipush (show decode (am_cc m9_writeBoth) 42 = .ok (.bipush 6, 2) by decide +kernel) ⟨by decide, by decide⟩ (by decide) ?_
  refine s_iload (show decode (am_cc m9_writeBoth) 44 = .ok (.iload 4, 2) by decide +kernel) rfl ?_
  refine s_imul (show decode (am_cc m9_writeBoth) 46 = .ok (.imul, 1) by decide +kernel) h1 ?_
  refine s_iload_n (show decode (am_cc m9_writeBoth) 47 = .ok (.iload_n 1, 1) by decide +kernel) rfl ?_
  refine s_bipush (show decode (am_cc m9_writeBoth) 48 = .ok (.bipush 6, 2) by decide +kernel) ⟨by decide, by decide⟩ (by decide) ?_
  refine s_irem (show decode (am_cc m9_writeBoth) 50 = .ok (.irem, 1) by decide +kernel) h2 (by decide) ?_
  refine s_iadd (show decode (am_cc m9_writeBoth) 51 = .ok (.iadd, 1) by decide +kernel) h3 ?_
  refine s_iaload (show decode (am_cc m9_writeBoth) 52 = .ok (.iaload, 1) by decide +kernel) kd94 h4 h5 ?_
  refine s_iconst (show decode (am_cc m9_writeBoth) 53 = .ok (.iconst (-1), 1) by decide +kernel) ⟨by decide, by decide⟩ ?_
  exact s_icmp_eq (tgt := 61) (show decode (am_cc m9_writeBoth) 54 = .ok (.if_icmp .eq 7, 3) by decide +kernel) (by decide) k1 k2
theorem g9_writeBoth_57 {a1 a2 a3 a4 : Int} {M : am_M} {Q : Option am_V → am_M → Prop} (k : am_AtN m9_writeBoth 62 [some (vr 86), some (vi a1), some (vi a2), some (vi a3), some (vi a4)] [vi 1] KS M Q) : am_AtN m9_writeBoth 57 [some (vr 86), some (vi a1), some (vi a2), some (vi a3), some (vi a4)] [] KS M Q := by
  refine s_iconst (show decode (am_cc m9_writeBoth) 57 = .ok (.iconst 1, 1) by decide +kernel) ⟨by decide, by decide⟩ ?_
  refine s_goto (tgt := 62) (show decode (am_cc m9_writeBoth) 58 = .ok (.goto 4, 3) by decide +kernel) (by decide) ?_
  exact k
theorem g9_writeBoth_61 {a1 a2 a3 a4 : Int} {M : am_M} {Q : Option am_V → am_M → Prop} (k : am_AtN m9_writeBoth 62 [some (vr 86), some (vi a1), some (vi a2), some (vi a3), some (vi a4)] [vi 0] KS M Q) : am_AtN m9_writeBoth 61 [some (vr 86), some (vi a1), some (vi a2), some (vi a3), some (vi a4)] [] KS M Q := by
  refine s_iconst (show decode (am_cc m9_writeBoth) 61 = .ok (.iconst 0, 1) by decide +kernel) ⟨by decide, by decide⟩ ?_
  exact k
theorem g9_writeBoth_62 {a1 a2 a3 a4 t0 : Int} {M : am_M} {Q : Option am_V → am_M → Prop} (h1 : t0 = 0 ∨ t0 = 1) (k : Q (some (vi t0)) M) : am_AtN m9_writeBoth 62 [some (vr 86), some (vi a1), some (vi a2), some (vi a3), some (vi a4)] [vi t0] KS M Q := by
  exact s_zreturn (show decode (am_cc m9_writeBoth) 62 = .ok (.ireturn, 1) by decide +kernel) rfl h1 k
theorem g9_put_0 {a1 a2 a3 : Int} {M : am_M} {Q : Option am_V → am_M → Prop} (k : am_AtN m9_put 13 [some (vr 86), some (vi a1), some (vi a2), some (vi a3), some (vi 0), none] [] KS (am_up (am_up M 86 27 0) 86 28 0) Q) : am_AtN m9_put 0 [some (vr 86), some (vi a1), some (vi a2), some (vi a3), none, none] [] KS M Q := by
  refine s_aload_n (show decode (am_cc m9_put) 0 = .ok (.aload_n 0, 1) by decide +kernel) rfl ?_
  refine s_iconst (show decode (am_cc m9_put) 1 = .ok (.iconst 0, 1) by decide +kernel) ⟨by decide, by decide⟩ ?_
  refine s_putf (k := 27) (x := 0) (ty0 := tyX9) (show decode (am_cc m9_put) 2 = .ok (.putfield 204, 3) by decide +kernel) kd86 (by decide) rfl jnX9 tyX9_ok nmX9 (by decide) lf_RX9_204 rfl (Or.inl ⟨rfl, rfl, rfl⟩) ?_
  refine s_aload_n (show decode (am_cc m9_put) 5 = .ok (.aload_n 0, 1) by decide +kernel) rfl ?_
  refine s_iconst (show decode (am_cc m9_put) 6 = .ok (.iconst 0, 1) by decide +kernel) ⟨by decide, by decide⟩ ?_
  refine s_putf (k := 28) (x := 0) (ty0 := tyX9) (show decode (am_cc m9_put) 7 = .ok (.putfield 207, 3) by decide +kernel) kd86 (by decide) rfl jnX9 tyX9_ok nmX9 (by decide) lf_RX9_207 rfl (Or.inl ⟨rfl, rfl, rfl⟩) ?_
  refine s_iconst (show decode (am_cc m9_put) 10 = .ok (.iconst 0, 1) by decide +kernel) ⟨by decide, by decide⟩ ?_
  refine s_istore (show decode (am_cc m9_put) 11 = .ok (.istore 4, 2) by decide +kernel) (by decide) ?_
  exact k
theorem g9_put_13 {a1 a2 a3 a4 : Int} {M : am_M} {Q : Option am_V → am_M → Prop} (h1 : 0 ≤ a1) (h2 : a1 < 216) (k1 : M 103 a1 ≤ a4 → am_AtN m9_put 99 [some (vr 86), some (vi a1), some (vi a2), some (vi a3), some (vi a4), none] [] KS M Q) (k2 : ¬ (M 103 a1 ≤ a4) → am_AtN m9_put 24 [some (vr 86), some (vi a1), some (vi a2), some (vi a3), some (vi a4), none] [] KS M Q) : am_AtN m9_put 13 [some (vr 86), some (vi a1), some (vi a2), some (vi a3), some (vi a4), none] [] KS M Q := by
  refine s_iload (show decode (am_cc m9_put) 13 = .ok (.iload 4, 2) by decide +kernel) rfl ?_
  refine s_aload_n (show decode (am_cc m9_put) 15 = .ok (.aload_n 0, 1) by decide +kernel) rfl ?_
  refine s_getf (k := 22) (v := vr 103) (show decode (am_cc m9_put) 16 = .ok (.getfield 60, 3) by decide +kernel) kd86 (by decide) rfl jnX9 (by decide) lf_RX9_60 rfl ?_
  refine s_iload_n (show decode (am_cc m9_put) 19 = .ok (.iload_n 1, 1) by decide +kernel) rfl ?_
  refine s_iaload (show decode (am_cc m9_put) 20 = .ok (.iaload, 1) by decide +kernel) kd103 h1 h2 ?_
  exact s_icmp_ge (tgt := 99) (show decode (am_cc m9_put) 21 = .ok (.if_icmp .ge 78, 3) by decide +kernel) (by decide) k1 k2
theorem g9_put_24 {a1 a2 a3 a4 : Int} {M : am_M} {Q : Option am_V → am_M → Prop} (h1 : -2147483648 ≤ 440 * a1 ∧ 440 * a1 ≤ 2147483647) (h2 : -2147483648 ≤ (440 * a1) + a4 ∧ (440 * a1) + a4 ≤ 2147483647) (h3 : 0 ≤ (440 * a1) + a4) (h4 : (440 * a1) + a4 < 95040) (h5 : 0 ≤ a1) (h6 : a1 < 216) (k1 : M 104 a1 = 0 → am_AtN m9_put 72 [some (vr 86), some (vi a1), some (vi a2), some (vi a3), some (vi a4), some (vi (M 102 ((440 * a1) + a4)))] [] KS M Q) (k2 : ¬ (M 104 a1 = 0) → am_AtN m9_put 48 [some (vr 86), some (vi a1), some (vi a2), some (vi a3), some (vi a4), some (vi (M 102 ((440 * a1) + a4)))] [] KS M Q) : am_AtN m9_put 24 [some (vr 86), some (vi a1), some (vi a2), some (vi a3), some (vi a4), none] [] KS M Q := by
  refine s_aload_n (show decode (am_cc m9_put) 24 = .ok (.aload_n 0, 1) by decide +kernel) rfl ?_
  refine s_getf (k := 21) (v := vr 102) (show decode (am_cc m9_put) 25 = .ok (.getfield 57, 3) by decide +kernel) kd86 (by decide) rfl jnX9 (by decide) lf_RX9_57 rfl ?_
  refine s_sipush (show decode (am_cc m9_put) 28 = .ok (.sipush 440, 3) by decide +kernel) ⟨by decide, by decide⟩ (by decide) ?_
  refine s_iload_n (show decode (am_cc m9_put) 31 = .ok (.iload_n 1, 1) by decide +kernel) rfl ?_
  refine s_imul (show decode (am_cc m9_put) 32 = .ok (.imul, 1) by decide +kernel) h1 ?_
  refine s_iload (show decode (am_cc m9_put) 33 = .ok (.iload 4, 2) by decide +kernel) rfl ?_
  refine s_iadd (show decode (am_cc m9_put) 35 = .ok (.iadd, 1) by decide +kernel) h2 ?_
  refine s_iaload (show decode (am_cc m9_put) 36 = .ok (.iaload, 1) by decide +kernel) kd102 h3 h4 ?_
  refine s_istore (show decode (am_cc m9_put) 37 = .ok (.istore 5, 2) by decide +kernel) (by decide) ?_
  refine s_aload_n (show decode (am_cc m9_put) 39 = .ok (.aload_n 0, 1) by decide +kernel) rfl ?_
  refine s_getf (k := 23) (v := vr 104) (show decode (am_cc m9_put) 40 = .ok (.getfield 63, 3) by decide +kernel) kd86 (by decide) rfl jnX9 (by decide) lf_RX9_63 rfl ?_
  refine s_iload_n (show decode (am_cc m9_put) 43 = .ok (.iload_n 1, 1) by decide +kernel) rfl ?_
  refine s_baload (show decode (am_cc m9_put) 44 = .ok (.baload, 1) by decide +kernel) kd104 h5 h6 ?_
  exact s_if_eq (tgt := 72) (show decode (am_cc m9_put) 45 = .ok (.ifCond .eq 27, 3) by decide +kernel) (by decide) k1 k2
theorem g9_put_48 {a1 a2 a3 a4 a5 : Int} {M : am_M} {Q : Option am_V → am_M → Prop} (h1 : 0 ≤ M 86 27) (h2 : M 86 27 < 450) (h3 : -2147483648 ≤ ((am_up M 106 (M 86 27) a5) 86 27) + 1 ∧ ((am_up M 106 (M 86 27) a5) 86 27) + 1 ≤ 2147483647) (k : am_AtN m9_put 93 [some (vr 86), some (vi a1), some (vi a2), some (vi a3), some (vi a4), some (vi a5)] [] KS (am_up (am_up M 106 (M 86 27) a5) 86 27 (((am_up M 106 (M 86 27) a5) 86 27) + 1)) Q) : am_AtN m9_put 48 [some (vr 86), some (vi a1), some (vi a2), some (vi a3), some (vi a4), some (vi a5)] [] KS M Q := by
  refine s_aload_n (show decode (am_cc m9_put) 48 = .ok (.aload_n 0, 1) by decide +kernel) rfl ?_
  refine s_getf (k := 25) (v := vr 106) (show decode (am_cc m9_put) 49 = .ok (.getfield 69, 3) by decide +kernel) kd86 (by decide) rfl jnX9 (by decide) lf_RX9_69 rfl ?_
  refine s_aload_n (show decode (am_cc m9_put) 52 = .ok (.aload_n 0, 1) by decide +kernel) rfl ?_
  refine s_getf (k := 27) (v := vi (M 86 27)) (show decode (am_cc m9_put) 53 = .ok (.getfield 204, 3) by decide +kernel) kd86 (by decide) rfl jnX9 (by decide) lf_RX9_204 rfl ?_
  refine s_iload (show decode (am_cc m9_put) 56 = .ok (.iload 5, 2) by decide +kernel) rfl ?_
  refine s_iastore (show decode (am_cc m9_put) 58 = .ok (.iastore, 1) by decide +kernel) kd106 h1 h2 ?_
  refine s_aload_n (show decode (am_cc m9_put) 59 = .ok (.aload_n 0, 1) by decide +kernel) rfl ?_
  refine s_dupr (show decode (am_cc m9_put) 60 = .ok (.dup, 1) by decide +kernel) ?_
  refine s_getf (k := 27) (v := vi ((am_up M 106 (M 86 27) a5) 86 27)) (show decode (am_cc m9_put) 61 = .ok (.getfield 204, 3) by decide +kernel) kd86 (by decide) rfl jnX9 (by decide) lf_RX9_204 rfl ?_
  refine s_iconst (show decode (am_cc m9_put) 64 = .ok (.iconst 1, 1) by decide +kernel) ⟨by decide, by decide⟩ ?_
  refine s_iadd (show decode (am_cc m9_put) 65 = .ok (.iadd, 1) by decide +kernel) h3 ?_
  refine s_putf (k := 27) (x := ((am_up M 106 (M 86 27) a5) 86 27) + 1) (ty0 := tyX9) (show decode (am_cc m9_put) 66 = .ok (.putfield 204, 3) by decide +kernel) kd86 (by decide) rfl jnX9 tyX9_ok nmX9 (by decide) lf_RX9_204 rfl (Or.inl ⟨rfl, rfl, rfl⟩) ?_
  refine s_goto (tgt := 93) (show decode (am_cc m9_put) 69 = .ok (.goto 24, 3) by decide +kernel) (by decide) ?_
  exact k
theorem g9_put_72 {a1 a2 a3 a4 a5 : Int} {M : am_M} {Q : Option am_V → am_M → Prop} (h1 : 0 ≤ M 86 28) (h2 : M 86 28 < 450) (h3 : -2147483648 ≤ ((am_up M 107 (M 86 28) a5) 86 28) + 1 ∧ ((am_up M 107 (M 86 28) a5) 86 28) + 1 ≤ 2147483647) (k : am_AtN m9_put 93 [some (vr 86), some (vi a1), some (vi a2), some (vi a3), some (vi a4), some (vi a5)] [] KS (am_up (am_up M 107 (M 86 28) a5) 86 28 (((am_up M 107 (M 86 28) a5) 86 28) + 1)) Q) : am_AtN m9_put 72 [some (vr 86), some (vi a1), some (vi a2), some (vi a3), some (vi a4), some (vi a5)] [] KS M Q := by
  refine s_aload_n (show decode (am_cc m9_put) 72 = .ok (.aload_n 0, 1) by decide +kernel) rfl ?_
  refine s_getf (k := 26) (v := vr 107) (show decode (am_cc m9_put) 73 = .ok (.getfield 72, 3) by decide +kernel) kd86 (by decide) rfl jnX9 (by decide) lf_RX9_72 rfl ?_
  refine s_aload_n (show decode (am_cc m9_put) 76 = .ok (.aload_n 0, 1) by decide +kernel) rfl ?_
  refine s_getf (k := 28) (v := vi (M 86 28)) (show decode (am_cc m9_put) 77 = .ok (.getfield 207, 3) by decide +kernel) kd86 (by decide) rfl jnX9 (by decide) lf_RX9_207 rfl ?_
  refine s_iload (show decode (am_cc m9_put) 80 = .ok (.iload 5, 2) by decide +kernel) rfl ?_
  refine s_iastore (show decode (am_cc m9_put) 82 = .ok (.iastore, 1) by decide +kernel) kd107 h1 h2 ?_
  refine s_aload_n (show decode (am_cc m9_put) 83 = .ok (.aload_n 0, 1) by decide +kernel) rfl ?_
  refine s_dupr (show decode (am_cc m9_put) 84 = .ok (.dup, 1) by decide +kernel) ?_
  refine s_getf (k := 28) (v := vi ((am_up M 107 (M 86 28) a5) 86 28)) (show decode (am_cc m9_put) 85 = .ok (.getfield 207, 3) by decide +kernel) kd86 (by decide) rfl jnX9 (by decide) lf_RX9_207 rfl ?_
  refine s_iconst (show decode (am_cc m9_put) 88 = .ok (.iconst 1, 1) by decide +kernel) ⟨by decide, by decide⟩ ?_
  refine s_iadd (show decode (am_cc m9_put) 89 = .ok (.iadd, 1) by decide +kernel) h3 ?_
  refine s_putf (k := 28) (x := ((am_up M 107 (M 86 28) a5) 86 28) + 1) (ty0 := tyX9) (show decode (am_cc m9_put) 90 = .ok (.putfield 207, 3) by decide +kernel) kd86 (by decide) rfl jnX9 tyX9_ok nmX9 (by decide) lf_RX9_207 rfl (Or.inl ⟨rfl, rfl, rfl⟩) ?_
  exact k
theorem g9_put_93 {a1 a2 a3 a4 a5 : Int} {M : am_M} {Q : Option am_V → am_M → Prop} (h1 : -2147483648 ≤ a4 + 1 ∧ a4 + 1 ≤ 2147483647) (k : am_AtN m9_put 13 [some (vr 86), some (vi a1), some (vi a2), some (vi a3), some (vi (a4 + 1)), none] [] KS M Q) : am_AtN m9_put 93 [some (vr 86), some (vi a1), some (vi a2), some (vi a3), some (vi a4), some (vi a5)] [] KS M Q := by
  refine s_iinc (show decode (am_cc m9_put) 93 = .ok (.iinc 4 1, 3) by decide +kernel) rfl (by decide) h1 ?_
  refine s_goto (tgt := 13) (show decode (am_cc m9_put) 96 = .ok (.goto (-83), 3) by decide +kernel) (by decide) ?_
  refine am_fg 5 ?_
  exact k
theorem g9_put_99 {a1 a2 a3 a4 : Int} {M : am_M} {Q : Option am_V → am_M → Prop} (k : am_AtN m9_put 102 [some (vr 86), some (vi a1), some (vi a2), some (vi a3), some (vi 0), none] [] KS M Q) : am_AtN m9_put 99 [some (vr 86), some (vi a1), some (vi a2), some (vi a3), some (vi a4), none] [] KS M Q := by
  refine s_iconst (show decode (am_cc m9_put) 99 = .ok (.iconst 0, 1) by decide +kernel) ⟨by decide, by decide⟩ ?_
  refine s_istore (show decode (am_cc m9_put) 100 = .ok (.istore 4, 2) by decide +kernel) (by decide) ?_
  exact k
theorem g9_put_102 {a1 a2 a3 a4 : Int} {M : am_M} {Q : Option am_V → am_M → Prop} (k : am_CallN m9_longOf [vi a2] KS M (fun r M' => am_AtN m9_put 108 [some (vr 86), some (vi a1), some (vi a2), some (vi a3), some (vi a4), none] (r.toList ++ [vi a4]) KS M' Q)) : am_AtN m9_put 102 [some (vr 86), some (vi a1), some (vi a2), some (vi a3), some (vi a4), none] [] KS M Q := by
  refine s_iload (show decode (am_cc m9_put) 102 = .ok (.iload 4, 2) by decide +kernel) rfl ?_
  refine s_iload_n (show decode (am_cc m9_put) 104 = .ok (.iload_n 2, 1) by decide +kernel) rfl ?_
  exact n_callS (as := [vi a2]) (stk := [vi a4]) (show decode (am_cc m9_put) 105 = .ok (.invokestatic 152, 3) by decide +kernel) lk_RX9_152 (by decide) (Nat.le_of_ble_eq_true rfl) ⟨rfl, rfl⟩ k
theorem g9_put_108 {a1 a2 a3 a4 t0 t1 : Int} {M : am_M} {Q : Option am_V → am_M → Prop} (k1 : t1 ≤ t0 → am_AtN m9_put 142 [some (vr 86), some (vi a1), some (vi a2), some (vi a3), some (vi a4), none] [] KS M Q) (k2 : ¬ (t1 ≤ t0) → am_AtN m9_put 111 [some (vr 86), some (vi a1), some (vi a2), some (vi a3), some (vi a4), none] [] KS M Q) : am_AtN m9_put 108 [some (vr 86), some (vi a1), some (vi a2), some (vi a3), some (vi a4), none] [vi t1, vi t0] KS M Q := by
  exact s_icmp_ge (tgt := 142) (show decode (am_cc m9_put) 108 = .ok (.if_icmp .ge 34, 3) by decide +kernel) (by decide) k1 k2
theorem g9_put_111 {a1 a2 a3 a4 : Int} {M : am_M} {Q : Option am_V → am_M → Prop} (k : am_CallN m9_letterOf [vi a2, vi a4] KS M (fun r M' => am_AtN m9_put 125 [some (vr 86), some (vi a1), some (vi a2), some (vi a3), some (vi a4), none] (r.toList ++ [vi (M 86 27), vr 106]) KS M' Q)) : am_AtN m9_put 111 [some (vr 86), some (vi a1), some (vi a2), some (vi a3), some (vi a4), none] [] KS M Q := by
  refine s_aload_n (show decode (am_cc m9_put) 111 = .ok (.aload_n 0, 1) by decide +kernel) rfl ?_
  refine s_getf (k := 25) (v := vr 106) (show decode (am_cc m9_put) 112 = .ok (.getfield 69, 3) by decide +kernel) kd86 (by decide) rfl jnX9 (by decide) lf_RX9_69 rfl ?_
  refine s_aload_n (show decode (am_cc m9_put) 115 = .ok (.aload_n 0, 1) by decide +kernel) rfl ?_
  refine s_getf (k := 27) (v := vi (M 86 27)) (show decode (am_cc m9_put) 116 = .ok (.getfield 204, 3) by decide +kernel) kd86 (by decide) rfl jnX9 (by decide) lf_RX9_204 rfl ?_
  refine s_iload_n (show decode (am_cc m9_put) 119 = .ok (.iload_n 2, 1) by decide +kernel) rfl ?_
  refine s_iload (show decode (am_cc m9_put) 120 = .ok (.iload 4, 2) by decide +kernel) rfl ?_
  exact n_callS (as := [vi a2, vi a4]) (stk := [vi (M 86 27), vr 106]) (show decode (am_cc m9_put) 122 = .ok (.invokestatic 156, 3) by decide +kernel) lk_RX9_156 (by decide) (Nat.le_of_ble_eq_true rfl) ⟨rfl, rfl⟩ k
theorem g9_put_125 {a1 a2 a3 a4 t0 t1 t2 : Int} {M : am_M} {Q : Option am_V → am_M → Prop} {n0 : Nat} {q0 : List Int} (h1 : am_kd KS t0 = some (11, n0, q0)) (h2 : 0 ≤ t1) (h3 : t1 < (n0 : Int)) (h4 : -2147483648 ≤ ((am_up M t0 t1 t2) 86 27) + 1 ∧ ((am_up M t0 t1 t2) 86 27) + 1 ≤ 2147483647) (h5 : -2147483648 ≤ a4 + 1 ∧ a4 + 1 ≤ 2147483647) (k : am_AtN m9_put 102 [some (vr 86), some (vi a1), some (vi a2), some (vi a3), some (vi (a4 + 1)), none] [] KS (am_up (am_up M t0 t1 t2) 86 27 (((am_up M t0 t1 t2) 86 27) + 1)) Q) : am_AtN m9_put 125 [some (vr 86), some (vi a1), some (vi a2), some (vi a3), some (vi a4), none] [vi t2, vi t1, vr t0] KS M Q := by
  refine s_iastore (show decode (am_cc m9_put) 125 = .ok (.iastore, 1) by decide +kernel) h1 h2 h3 ?_
  refine s_aload_n (show decode (am_cc m9_put) 126 = .ok (.aload_n 0, 1) by decide +kernel) rfl ?_
  refine s_dupr (show decode (am_cc m9_put) 127 = .ok (.dup, 1) by decide +kernel) ?_
  refine s_getf (k := 27) (v := vi ((am_up M t0 t1 t2) 86 27)) (show decode (am_cc m9_put) 128 = .ok (.getfield 204, 3) by decide +kernel) kd86 (by decide) rfl jnX9 (by decide) lf_RX9_204 rfl ?_
  refine s_iconst (show decode (am_cc m9_put) 131 = .ok (.iconst 1, 1) by decide +kernel) ⟨by decide, by decide⟩ ?_
  refine s_iadd (show decode (am_cc m9_put) 132 = .ok (.iadd, 1) by decide +kernel) h4 ?_
  refine s_putf (k := 27) (x := ((am_up M t0 t1 t2) 86 27) + 1) (ty0 := tyX9) (show decode (am_cc m9_put) 133 = .ok (.putfield 204, 3) by decide +kernel) kd86 (by decide) rfl jnX9 tyX9_ok nmX9 (by decide) lf_RX9_204 rfl (Or.inl ⟨rfl, rfl, rfl⟩) ?_
  refine s_iinc (show decode (am_cc m9_put) 136 = .ok (.iinc 4 1, 3) by decide +kernel) rfl (by decide) h5 ?_
  refine s_goto (tgt := 102) (show decode (am_cc m9_put) 139 = .ok (.goto (-37), 3) by decide +kernel) (by decide) ?_
  exact k
theorem g9_put_142 {a1 a2 a3 a4 : Int} {M : am_M} {Q : Option am_V → am_M → Prop} (k : am_AtN m9_put 145 [some (vr 86), some (vi a1), some (vi a2), some (vi a3), some (vi 0), none] [] KS M Q) : am_AtN m9_put 142 [some (vr 86), some (vi a1), some (vi a2), some (vi a3), some (vi a4), none] [] KS M Q := by
  refine s_iconst (show decode (am_cc m9_put) 142 = .ok (.iconst 0, 1) by decide +kernel) ⟨by decide, by decide⟩ ?_
  refine s_istore (show decode (am_cc m9_put) 143 = .ok (.istore 4, 2) by decide +kernel) (by decide) ?_
  exact k
theorem g9_put_145 {a1 a2 a3 a4 : Int} {M : am_M} {Q : Option am_V → am_M → Prop} (k : am_CallN m9_longOf [vi a3] KS M (fun r M' => am_AtN m9_put 151 [some (vr 86), some (vi a1), some (vi a2), some (vi a3), some (vi a4), none] (r.toList ++ [vi a4]) KS M' Q)) : am_AtN m9_put 145 [some (vr 86), some (vi a1), some (vi a2), some (vi a3), some (vi a4), none] [] KS M Q := by
  refine s_iload (show decode (am_cc m9_put) 145 = .ok (.iload 4, 2) by decide +kernel) rfl ?_
  refine s_iload_n (show decode (am_cc m9_put) 147 = .ok (.iload_n 3, 1) by decide +kernel) rfl ?_
  exact n_callS (as := [vi a3]) (stk := [vi a4]) (show decode (am_cc m9_put) 148 = .ok (.invokestatic 152, 3) by decide +kernel) lk_RX9_152 (by decide) (Nat.le_of_ble_eq_true rfl) ⟨rfl, rfl⟩ k
theorem g9_put_151 {a1 a2 a3 a4 t0 t1 : Int} {M : am_M} {Q : Option am_V → am_M → Prop} (k1 : t1 ≤ t0 → am_AtN m9_put 185 [some (vr 86), some (vi a1), some (vi a2), some (vi a3), some (vi a4), none] [] KS M Q) (k2 : ¬ (t1 ≤ t0) → am_AtN m9_put 154 [some (vr 86), some (vi a1), some (vi a2), some (vi a3), some (vi a4), none] [] KS M Q) : am_AtN m9_put 151 [some (vr 86), some (vi a1), some (vi a2), some (vi a3), some (vi a4), none] [vi t1, vi t0] KS M Q := by
  exact s_icmp_ge (tgt := 185) (show decode (am_cc m9_put) 151 = .ok (.if_icmp .ge 34, 3) by decide +kernel) (by decide) k1 k2
theorem g9_put_154 {a1 a2 a3 a4 : Int} {M : am_M} {Q : Option am_V → am_M → Prop} (k : am_CallN m9_letterOf [vi a3, vi a4] KS M (fun r M' => am_AtN m9_put 168 [some (vr 86), some (vi a1), some (vi a2), some (vi a3), some (vi a4), none] (r.toList ++ [vi (M 86 28), vr 107]) KS M' Q)) : am_AtN m9_put 154 [some (vr 86), some (vi a1), some (vi a2), some (vi a3), some (vi a4), none] [] KS M Q := by
  refine s_aload_n (show decode (am_cc m9_put) 154 = .ok (.aload_n 0, 1) by decide +kernel) rfl ?_
  refine s_getf (k := 26) (v := vr 107) (show decode (am_cc m9_put) 155 = .ok (.getfield 72, 3) by decide +kernel) kd86 (by decide) rfl jnX9 (by decide) lf_RX9_72 rfl ?_
  refine s_aload_n (show decode (am_cc m9_put) 158 = .ok (.aload_n 0, 1) by decide +kernel) rfl ?_
  refine s_getf (k := 28) (v := vi (M 86 28)) (show decode (am_cc m9_put) 159 = .ok (.getfield 207, 3) by decide +kernel) kd86 (by decide) rfl jnX9 (by decide) lf_RX9_207 rfl ?_
  refine s_iload_n (show decode (am_cc m9_put) 162 = .ok (.iload_n 3, 1) by decide +kernel) rfl ?_
  refine s_iload (show decode (am_cc m9_put) 163 = .ok (.iload 4, 2) by decide +kernel) rfl ?_
  exact n_callS (as := [vi a3, vi a4]) (stk := [vi (M 86 28), vr 107]) (show decode (am_cc m9_put) 165 = .ok (.invokestatic 156, 3) by decide +kernel) lk_RX9_156 (by decide) (Nat.le_of_ble_eq_true rfl) ⟨rfl, rfl⟩ k
theorem g9_put_168 {a1 a2 a3 a4 t0 t1 t2 : Int} {M : am_M} {Q : Option am_V → am_M → Prop} {n0 : Nat} {q0 : List Int} (h1 : am_kd KS t0 = some (11, n0, q0)) (h2 : 0 ≤ t1) (h3 : t1 < (n0 : Int)) (h4 : -2147483648 ≤ ((am_up M t0 t1 t2) 86 28) + 1 ∧ ((am_up M t0 t1 t2) 86 28) + 1 ≤ 2147483647) (h5 : -2147483648 ≤ a4 + 1 ∧ a4 + 1 ≤ 2147483647) (k : am_AtN m9_put 145 [some (vr 86), some (vi a1), some (vi a2), some (vi a3), some (vi (a4 + 1)), none] [] KS (am_up (am_up M t0 t1 t2) 86 28 (((am_up M t0 t1 t2) 86 28) + 1)) Q) : am_AtN m9_put 168 [some (vr 86), some (vi a1), some (vi a2), some (vi a3), some (vi a4), none] [vi t2, vi t1, vr t0] KS M Q := by
  refine s_iastore (show decode (am_cc m9_put) 168 = .ok (.iastore, 1) by decide +kernel) h1 h2 h3 ?_
  refine s_aload_n (show decode (am_cc m9_put) 169 = .ok (.aload_n 0, 1) by decide +kernel) rfl ?_
  refine s_dupr (show decode (am_cc m9_put) 170 = .ok (.dup, 1) by decide +kernel) ?_
  refine s_getf (k := 28) (v := vi ((am_up M t0 t1 t2) 86 28)) (show decode (am_cc m9_put) 171 = .ok (.getfield 207, 3) by decide +kernel) kd86 (by decide) rfl jnX9 (by decide) lf_RX9_207 rfl ?_
  refine s_iconst (show decode (am_cc m9_put) 174 = .ok (.iconst 1, 1) by decide +kernel) ⟨by decide, by decide⟩ ?_
  refine s_iadd (show decode (am_cc m9_put) 175 = .ok (.iadd, 1) by decide +kernel) h4 ?_
  refine s_putf (k := 28) (x := ((am_up M t0 t1 t2) 86 28) + 1) (ty0 := tyX9) (show decode (am_cc m9_put) 176 = .ok (.putfield 207, 3) by decide +kernel) kd86 (by decide) rfl jnX9 tyX9_ok nmX9 (by decide) lf_RX9_207 rfl (Or.inl ⟨rfl, rfl, rfl⟩) ?_
  refine s_iinc (show decode (am_cc m9_put) 179 = .ok (.iinc 4 1, 3) by decide +kernel) rfl (by decide) h5 ?_
  refine s_goto (tgt := 145) (show decode (am_cc m9_put) 182 = .ok (.goto (-37), 3) by decide +kernel) (by decide) ?_
  exact k
theorem g9_put_185 {a1 a2 a3 a4 : Int} {M : am_M} {Q : Option am_V → am_M → Prop} (k : Q none M) : am_AtN m9_put 185 [some (vr 86), some (vi a1), some (vi a2), some (vi a3), some (vi a4), none] [] KS M Q := by
  exact s_return (show decode (am_cc m9_put) 185 = .ok (.return_, 1) by decide +kernel) rfl k
theorem g9_begins_0 {M : am_M} {Q : Option am_V → am_M → Prop} (k : am_AtN m9_begins 4 [some (vr 86), some (vi 1), some (vi 0)] [] KS M Q) : am_AtN m9_begins 0 [some (vr 86), none, none] [] KS M Q := by
  refine s_iconst (show decode (am_cc m9_begins) 0 = .ok (.iconst 1, 1) by decide +kernel) ⟨by decide, by decide⟩ ?_
  refine s_istore_n (show decode (am_cc m9_begins) 1 = .ok (.istore_n 1, 1) by decide +kernel) (by decide) ?_
  refine s_iconst (show decode (am_cc m9_begins) 2 = .ok (.iconst 0, 1) by decide +kernel) ⟨by decide, by decide⟩ ?_
  refine s_istore_n (show decode (am_cc m9_begins) 3 = .ok (.istore_n 2, 1) by decide +kernel) (by decide) ?_
  exact k
theorem g9_begins_4 {a1 a2 : Int} {M : am_M} {Q : Option am_V → am_M → Prop} (k1 : M 86 27 ≤ a2 → am_AtN m9_begins 51 [some (vr 86), some (vi a1), some (vi a2)] [] KS M Q) (k2 : ¬ (M 86 27 ≤ a2) → am_AtN m9_begins 12 [some (vr 86), some (vi a1), some (vi a2)] [] KS M Q) : am_AtN m9_begins 4 [some (vr 86), some (vi a1), some (vi a2)] [] KS M Q := by
  refine s_iload_n (show decode (am_cc m9_begins) 4 = .ok (.iload_n 2, 1) by decide +kernel) rfl ?_
  refine s_aload_n (show decode (am_cc m9_begins) 5 = .ok (.aload_n 0, 1) by decide +kernel) rfl ?_
  refine s_getf (k := 27) (v := vi (M 86 27)) (show decode (am_cc m9_begins) 6 = .ok (.getfield 204, 3) by decide +kernel) kd86 (by decide) rfl jnX9 (by decide) lf_RX9_204 rfl ?_
  exact s_icmp_ge (tgt := 51) (show decode (am_cc m9_begins) 9 = .ok (.if_icmp .ge 42, 3) by decide +kernel) (by decide) k1 k2
theorem g9_begins_12 {a1 a2 : Int} {M : am_M} {Q : Option am_V → am_M → Prop} (k1 : M 86 28 ≤ a2 → am_AtN m9_begins 51 [some (vr 86), some (vi a1), some (vi a2)] [] KS M Q) (k2 : ¬ (M 86 28 ≤ a2) → am_AtN m9_begins 20 [some (vr 86), some (vi a1), some (vi a2)] [] KS M Q) : am_AtN m9_begins 12 [some (vr 86), some (vi a1), some (vi a2)] [] KS M Q := by
  refine s_iload_n (show decode (am_cc m9_begins) 12 = .ok (.iload_n 2, 1) by decide +kernel) rfl ?_
  refine s_aload_n (show decode (am_cc m9_begins) 13 = .ok (.aload_n 0, 1) by decide +kernel) rfl ?_
  refine s_getf (k := 28) (v := vi (M 86 28)) (show decode (am_cc m9_begins) 14 = .ok (.getfield 207, 3) by decide +kernel) kd86 (by decide) rfl jnX9 (by decide) lf_RX9_207 rfl ?_
  exact s_icmp_ge (tgt := 51) (show decode (am_cc m9_begins) 17 = .ok (.if_icmp .ge 34, 3) by decide +kernel) (by decide) k1 k2
theorem g9_begins_20 {a1 a2 : Int} {M : am_M} {Q : Option am_V → am_M → Prop} (k1 : a1 = 0 → am_AtN m9_begins 43 [some (vr 86), some (vi a1), some (vi a2)] [] KS M Q) (k2 : ¬ (a1 = 0) → am_AtN m9_begins 24 [some (vr 86), some (vi a1), some (vi a2)] [] KS M Q) : am_AtN m9_begins 20 [some (vr 86), some (vi a1), some (vi a2)] [] KS M Q := by
  refine s_iload_n (show decode (am_cc m9_begins) 20 = .ok (.iload_n 1, 1) by decide +kernel) rfl ?_
  exact s_if_eq (tgt := 43) (show decode (am_cc m9_begins) 21 = .ok (.ifCond .eq 22, 3) by decide +kernel) (by decide) k1 k2
theorem g9_begins_24 {a1 a2 : Int} {M : am_M} {Q : Option am_V → am_M → Prop} (h1 : 0 ≤ a2) (h2 : a2 < 450) (h3 : 0 ≤ a2) (h4 : a2 < 450) (k1 : ¬ M 106 a2 = M 107 a2 → am_AtN m9_begins 43 [some (vr 86), some (vi a1), some (vi a2)] [] KS M Q) (k2 : M 106 a2 = M 107 a2 → am_AtN m9_begins 39 [some (vr 86), some (vi a1), some (vi a2)] [] KS M Q) : am_AtN m9_begins 24 [some (vr 86), some (vi a1), some (vi a2)] [] KS M Q := by
  refine s_aload_n (show decode (am_cc m9_begins) 24 = .ok (.aload_n 0, 1) by decide +kernel) rfl ?_
  refine s_getf (k := 25) (v := vr 106) (show decode (am_cc m9_begins) 25 = .ok (.getfield 69, 3) by decide +kernel) kd86 (by decide) rfl jnX9 (by decide) lf_RX9_69 rfl ?_
  refine s_iload_n (show decode (am_cc m9_begins) 28 = .ok (.iload_n 2, 1) by decide +kernel) rfl ?_
  refine s_iaload (show decode (am_cc m9_begins) 29 = .ok (.iaload, 1) by decide +kernel) kd106 h1 h2 ?_
  refine s_aload_n (show decode (am_cc m9_begins) 30 = .ok (.aload_n 0, 1) by decide +kernel) rfl ?_
  refine s_getf (k := 26) (v := vr 107) (show decode (am_cc m9_begins) 31 = .ok (.getfield 72, 3) by decide +kernel) kd86 (by decide) rfl jnX9 (by decide) lf_RX9_72 rfl ?_
  refine s_iload_n (show decode (am_cc m9_begins) 34 = .ok (.iload_n 2, 1) by decide +kernel) rfl ?_
  refine s_iaload (show decode (am_cc m9_begins) 35 = .ok (.iaload, 1) by decide +kernel) kd107 h3 h4 ?_
  exact s_icmp_ne (tgt := 43) (show decode (am_cc m9_begins) 36 = .ok (.if_icmp .ne 7, 3) by decide +kernel) (by decide) k1 k2
theorem g9_begins_39 {a1 a2 : Int} {M : am_M} {Q : Option am_V → am_M → Prop} (k : am_AtN m9_begins 44 [some (vr 86), some (vi a1), some (vi a2)] [vi 1] KS M Q) : am_AtN m9_begins 39 [some (vr 86), some (vi a1), some (vi a2)] [] KS M Q := by
  refine s_iconst (show decode (am_cc m9_begins) 39 = .ok (.iconst 1, 1) by decide +kernel) ⟨by decide, by decide⟩ ?_
  refine s_goto (tgt := 44) (show decode (am_cc m9_begins) 40 = .ok (.goto 4, 3) by decide +kernel) (by decide) ?_
  exact k
theorem g9_begins_43 {a1 a2 : Int} {M : am_M} {Q : Option am_V → am_M → Prop} (k : am_AtN m9_begins 44 [some (vr 86), some (vi a1), some (vi a2)] [vi 0] KS M Q) : am_AtN m9_begins 43 [some (vr 86), some (vi a1), some (vi a2)] [] KS M Q := by
  refine s_iconst (show decode (am_cc m9_begins) 43 = .ok (.iconst 0, 1) by decide +kernel) ⟨by decide, by decide⟩ ?_
  exact k
theorem g9_begins_44 {a1 a2 t0 : Int} {M : am_M} {Q : Option am_V → am_M → Prop} (h1 : -2147483648 ≤ a2 + 1 ∧ a2 + 1 ≤ 2147483647) (k : am_AtN m9_begins 4 [some (vr 86), some (vi t0), some (vi (a2 + 1))] [] KS M Q) : am_AtN m9_begins 44 [some (vr 86), some (vi a1), some (vi a2)] [vi t0] KS M Q := by
  refine s_istore_n (show decode (am_cc m9_begins) 44 = .ok (.istore_n 1, 1) by decide +kernel) (by decide) ?_
  refine s_iinc (show decode (am_cc m9_begins) 45 = .ok (.iinc 2 1, 3) by decide +kernel) rfl (by decide) h1 ?_
  refine s_goto (tgt := 4) (show decode (am_cc m9_begins) 48 = .ok (.goto (-44), 3) by decide +kernel) (by decide) ?_
  exact k
theorem g9_begins_51 {a1 a2 : Int} {M : am_M} {Q : Option am_V → am_M → Prop} (h1 : a1 = 0 ∨ a1 = 1) (k : Q (some (vi a1)) M) : am_AtN m9_begins 51 [some (vr 86), some (vi a1), some (vi a2)] [] KS M Q := by
  refine s_iload_n (show decode (am_cc m9_begins) 51 = .ok (.iload_n 1, 1) by decide +kernel) rfl ?_
  exact s_zreturn (show decode (am_cc m9_begins) 52 = .ok (.ireturn, 1) by decide +kernel) rfl h1 k
theorem g9_keep_0 {a1 a2 : Int} {M : am_M} {Q : Option am_V → am_M → Prop} (k1 : M 86 28 ≤ M 86 27 → am_AtN m9_keep 18 [some (vr 86), some (vi a1), some (vi a2), none, none, none, none, none, none] [] KS M Q) (k2 : ¬ (M 86 28 ≤ M 86 27) → am_AtN m9_keep 11 [some (vr 86), some (vi a1), some (vi a2), none, none, none, none, none, none] [] KS M Q) : am_AtN m9_keep 0 [some (vr 86), some (vi a1), some (vi a2), none, none, none, none, none, none] [] KS M Q := by
  refine s_aload_n (show decode (am_cc m9_keep) 0 = .ok (.aload_n 0, 1) by decide +kernel) rfl ?_
  refine s_getf (k := 27) (v := vi (M 86 27)) (show decode (am_cc m9_keep) 1 = .ok (.getfield 204, 3) by decide +kernel) kd86 (by decide) rfl jnX9 (by decide) lf_RX9_204 rfl ?_
  refine s_aload_n (show decode (am_cc m9_keep) 4 = .ok (.aload_n 0, 1) by decide +kernel) rfl ?_
  refine s_getf (k := 28) (v := vi (M 86 28)) (show decode (am_cc m9_keep) 5 = .ok (.getfield 207, 3) by decide +kernel) kd86 (by decide) rfl jnX9 (by decide) lf_RX9_207 rfl ?_
  exact s_icmp_ge (tgt := 18) (show decode (am_cc m9_keep) 8 = .ok (.if_icmp .ge 10, 3) by decide +kernel) (by decide) k1 k2
theorem g9_keep_11 {a1 a2 : Int} {M : am_M} {Q : Option am_V → am_M → Prop} (k : am_AtN m9_keep 22 [some (vr 86), some (vi a1), some (vi a2), none, none, none, none, none, none] [vi (M 86 27)] KS M Q) : am_AtN m9_keep 11 [some (vr 86), some (vi a1), some (vi a2), none, none, none, none, none, none] [] KS M Q := by
  refine s_aload_n (show decode (am_cc m9_keep) 11 = .ok (.aload_n 0, 1) by decide +kernel) rfl ?_
  refine s_getf (k := 27) (v := vi (M 86 27)) (show decode (am_cc m9_keep) 12 = .ok (.getfield 204, 3) by decide +kernel) kd86 (by decide) rfl jnX9 (by decide) lf_RX9_204 rfl ?_
  refine s_goto (tgt := 22) (show decode (am_cc m9_keep) 15 = .ok (.goto 7, 3) by decide +kernel) (by decide) ?_
  exact k
theorem g9_keep_18 {a1 a2 : Int} {M : am_M} {Q : Option am_V → am_M → Prop} (k : am_AtN m9_keep 22 [some (vr 86), some (vi a1), some (vi a2), none, none, none, none, none, none] [vi (M 86 28)] KS M Q) : am_AtN m9_keep 18 [some (vr 86), some (vi a1), some (vi a2), none, none, none, none, none, none] [] KS M Q := by
  refine s_aload_n (show decode (am_cc m9_keep) 18 = .ok (.aload_n 0, 1) by decide +kernel) rfl ?_
  refine s_getf (k := 28) (v := vi (M 86 28)) (show decode (am_cc m9_keep) 19 = .ok (.getfield 207, 3) by decide +kernel) kd86 (by decide) rfl jnX9 (by decide) lf_RX9_207 rfl ?_
  exact k
theorem g9_keep_22 {a1 a2 t0 : Int} {M : am_M} {Q : Option am_V → am_M → Prop} (k1 : M 86 27 ≤ M 86 28 → am_AtN m9_keep 38 [some (vr 86), some (vi a1), some (vi a2), some (vi t0), none, none, none, none, none] [] KS M Q) (k2 : ¬ (M 86 27 ≤ M 86 28) → am_AtN m9_keep 34 [some (vr 86), some (vi a1), some (vi a2), some (vi t0), none, none, none, none, none] [] KS M Q) : am_AtN m9_keep 22 [some (vr 86), some (vi a1), some (vi a2), none, none, none, none, none, none] [vi t0] KS M Q := by
  refine s_istore_n (show decode (am_cc m9_keep) 22 = .ok (.istore_n 3, 1) by decide +kernel) (by decide) ?_
  refine s_aload_n (show decode (am_cc m9_keep) 23 = .ok (.aload_n 0, 1) by decide +kernel) rfl ?_
  refine s_getf (k := 27) (v := vi (M 86 27)) (show decode (am_cc m9_keep) 24 = .ok (.getfield 204, 3) by decide +kernel) kd86 (by decide) rfl jnX9 (by decide) lf_RX9_204 rfl ?_
  refine s_aload_n (show decode (am_cc m9_keep) 27 = .ok (.aload_n 0, 1) by decide +kernel) rfl ?_
  refine s_getf (k := 28) (v := vi (M 86 28)) (show decode (am_cc m9_keep) 28 = .ok (.getfield 207, 3) by decide +kernel) kd86 (by decide) rfl jnX9 (by decide) lf_RX9_207 rfl ?_
  exact s_icmp_le (tgt := 38) (show decode (am_cc m9_keep) 31 = .ok (.if_icmp .le 7, 3) by decide +kernel) (by decide) k1 k2
theorem g9_keep_34 {a1 a2 a3 : Int} {M : am_M} {Q : Option am_V → am_M → Prop} (k : am_AtN m9_keep 39 [some (vr 86), some (vi a1), some (vi a2), some (vi a3), none, none, none, none, none] [vi 1] KS M Q) : am_AtN m9_keep 34 [some (vr 86), some (vi a1), some (vi a2), some (vi a3), none, none, none, none, none] [] KS M Q := by
  refine s_iconst (show decode (am_cc m9_keep) 34 = .ok (.iconst 1, 1) by decide +kernel) ⟨by decide, by decide⟩ ?_
  refine s_goto (tgt := 39) (show decode (am_cc m9_keep) 35 = .ok (.goto 4, 3) by decide +kernel) (by decide) ?_
  exact k
theorem g9_keep_38 {a1 a2 a3 : Int} {M : am_M} {Q : Option am_V → am_M → Prop} (k : am_AtN m9_keep 39 [some (vr 86), some (vi a1), some (vi a2), some (vi a3), none, none, none, none, none] [vi 0] KS M Q) : am_AtN m9_keep 38 [some (vr 86), some (vi a1), some (vi a2), some (vi a3), none, none, none, none, none] [] KS M Q := by
  refine s_iconst (show decode (am_cc m9_keep) 38 = .ok (.iconst 0, 1) by decide +kernel) ⟨by decide, by decide⟩ ?_
  exact k
theorem g9_keep_39 {a1 a2 a3 t0 : Int} {M : am_M} {Q : Option am_V → am_M → Prop} (k1 : t0 = 0 → am_AtN m9_keep 53 [some (vr 86), some (vi a1), some (vi a2), some (vi a3), some (vi t0), none, none, none, none] [] KS M Q) (k2 : ¬ (t0 = 0) → am_AtN m9_keep 46 [some (vr 86), some (vi a1), some (vi a2), some (vi a3), some (vi t0), none, none, none, none] [] KS M Q) : am_AtN m9_keep 39 [some (vr 86), some (vi a1), some (vi a2), some (vi a3), none, none, none, none, none] [vi t0] KS M Q := by
  refine s_istore (show decode (am_cc m9_keep) 39 = .ok (.istore 4, 2) by decide +kernel) (by decide) ?_
  refine s_iload (show decode (am_cc m9_keep) 41 = .ok (.iload 4, 2) by decide +kernel) rfl ?_
  exact s_if_eq (tgt := 53) (show decode (am_cc m9_keep) 43 = .ok (.ifCond .eq 10, 3) by decide +kernel) (by decide) k1 k2
theorem g9_keep_46 {a1 a2 a3 a4 : Int} {M : am_M} {Q : Option am_V → am_M → Prop} (k : am_AtN m9_keep 57 [some (vr 86), some (vi a1), some (vi a2), some (vi a3), some (vi a4), none, none, none, none] [vi (M 86 27)] KS M Q) : am_AtN m9_keep 46 [some (vr 86), some (vi a1), some (vi a2), some (vi a3), some (vi a4), none, none, none, none] [] KS M Q := by
  refine s_aload_n (show decode (am_cc m9_keep) 46 = .ok (.aload_n 0, 1) by decide +kernel) rfl ?_
  refine s_getf (k := 27) (v := vi (M 86 27)) (show decode (am_cc m9_keep) 47 = .ok (.getfield 204, 3) by decide +kernel) kd86 (by decide) rfl jnX9 (by decide) lf_RX9_204 rfl ?_
  refine s_goto (tgt := 57) (show decode (am_cc m9_keep) 50 = .ok (.goto 7, 3) by decide +kernel) (by decide) ?_
  exact k
theorem g9_keep_53 {a1 a2 a3 a4 : Int} {M : am_M} {Q : Option am_V → am_M → Prop} (k : am_AtN m9_keep 57 [some (vr 86), some (vi a1), some (vi a2), some (vi a3), some (vi a4), none, none, none, none] [vi (M 86 28)] KS M Q) : am_AtN m9_keep 53 [some (vr 86), some (vi a1), some (vi a2), some (vi a3), some (vi a4), none, none, none, none] [] KS M Q := by
  refine s_aload_n (show decode (am_cc m9_keep) 53 = .ok (.aload_n 0, 1) by decide +kernel) rfl ?_
  refine s_getf (k := 28) (v := vi (M 86 28)) (show decode (am_cc m9_keep) 54 = .ok (.getfield 207, 3) by decide +kernel) kd86 (by decide) rfl jnX9 (by decide) lf_RX9_207 rfl ?_
  exact k
theorem g9_keep_57 {a1 a2 a3 a4 t0 : Int} {M : am_M} {Q : Option am_V → am_M → Prop} (h1 : -2147483648 ≤ t0 - a3 ∧ t0 - a3 ≤ 2147483647) (k1 : a2 = 0 → am_AtN m9_keep 81 [some (vr 86), some (vi a1), some (vi a2), some (vi a3), some (vi a4), some (vi (t0 - a3)), none, none, none] [] KS M Q) (k2 : ¬ (a2 = 0) → am_AtN m9_keep 65 [some (vr 86), some (vi a1), some (vi a2), some (vi a3), some (vi a4), some (vi (t0 - a3)), none, none, none] [] KS M Q) : am_AtN m9_keep 57 [some (vr 86), some (vi a1), some (vi a2), some (vi a3), some (vi a4), none, none, none, none] [vi t0] KS M Q := by
  refine s_iload_n (show decode (am_cc m9_keep) 57 = .ok (.iload_n 3, 1) by decide +kernel) rfl ?_
  refine s_isub (show decode (am_cc m9_keep) 58 = .ok (.isub, 1) by decide +kernel) h1 ?_
  refine s_istore (show decode (am_cc m9_keep) 59 = .ok (.istore 5, 2) by decide +kernel) (by decide) ?_
  refine s_iload_n (show decode (am_cc m9_keep) 61 = .ok (.iload_n 2, 1) by decide +kernel) rfl ?_
  exact s_if_eq (tgt := 81) (show decode (am_cc m9_keep) 62 = .ok (.ifCond .eq 19, 3) by decide +kernel) (by decide) k1 k2
theorem g9_keep_65 {a1 a2 a3 a4 a5 : Int} {M : am_M} {Q : Option am_V → am_M → Prop} (h1 : 0 ≤ a1) (h2 : a1 < 216) (h3 : 0 ≤ a1) (h4 : a1 < 216) (h5 : a4 = 0 ∨ a4 = 1) (k : am_AtN m9_keep 81 [some (vr 86), some (vi a1), some (vi a2), some (vi a3), some (vi a4), some (vi a5), none, none, none] [] KS (am_up (am_up M 103 a1 a5) 104 a1 a4) Q) : am_AtN m9_keep 65 [some (vr 86), some (vi a1), some (vi a2), some (vi a3), some (vi a4), some (vi a5), none, none, none] [] KS M Q := by
  refine s_aload_n (show decode (am_cc m9_keep) 65 = .ok (.aload_n 0, 1) by decide +kernel) rfl ?_
  refine s_getf (k := 22) (v := vr 103) (show decode (am_cc m9_keep) 66 = .ok (.getfield 60, 3) by decide +kernel) kd86 (by decide) rfl jnX9 (by decide) lf_RX9_60 rfl ?_
  refine s_iload_n (show decode (am_cc m9_keep) 69 = .ok (.iload_n 1, 1) by decide +kernel) rfl ?_
  refine s_iload (show decode (am_cc m9_keep) 70 = .ok (.iload 5, 2) by decide +kernel) rfl ?_
  refine s_iastore (show decode (am_cc m9_keep) 72 = .ok (.iastore, 1) by decide +kernel) kd103 h1 h2 ?_
  refine s_aload_n (show decode (am_cc m9_keep) 73 = .ok (.aload_n 0, 1) by decide +kernel) rfl ?_
  refine s_getf (k := 23) (v := vr 104) (show decode (am_cc m9_keep) 74 = .ok (.getfield 63, 3) by decide +kernel) kd86 (by decide) rfl jnX9 (by decide) lf_RX9_63 rfl ?_
  refine s_iload_n (show decode (am_cc m9_keep) 77 = .ok (.iload_n 1, 1) by decide +kernel) rfl ?_
  refine s_iload (show decode (am_cc m9_keep) 78 = .ok (.iload 4, 2) by decide +kernel) rfl ?_
  refine s_bastore (show decode (am_cc m9_keep) 80 = .ok (.bastore, 1) by decide +kernel) kd104 h3 h4 h5 ?_
  exact k
theorem g9_keep_81 {a1 a2 a3 a4 a5 : Int} {M : am_M} {Q : Option am_V → am_M → Prop} (h1 : 0 ≤ a1) (h2 : a1 < 216) (k1 : ¬ M 103 a1 = a5 → am_AtN m9_keep 112 [some (vr 86), some (vi a1), some (vi a2), some (vi a3), some (vi a4), some (vi a5), none, none, none] [] KS M Q) (k2 : M 103 a1 = a5 → am_AtN m9_keep 92 [some (vr 86), some (vi a1), some (vi a2), some (vi a3), some (vi a4), some (vi a5), none, none, none] [] KS M Q) : am_AtN m9_keep 81 [some (vr 86), some (vi a1), some (vi a2), some (vi a3), some (vi a4), some (vi a5), none, none, none] [] KS M Q := by
  refine s_aload_n (show decode (am_cc m9_keep) 81 = .ok (.aload_n 0, 1) by decide +kernel) rfl ?_
  refine s_getf (k := 22) (v := vr 103) (show decode (am_cc m9_keep) 82 = .ok (.getfield 60, 3) by decide +kernel) kd86 (by decide) rfl jnX9 (by decide) lf_RX9_60 rfl ?_
  refine s_iload_n (show decode (am_cc m9_keep) 85 = .ok (.iload_n 1, 1) by decide +kernel) rfl ?_
  refine s_iaload (show decode (am_cc m9_keep) 86 = .ok (.iaload, 1) by decide +kernel) kd103 h1 h2 ?_
  refine s_iload (show decode (am_cc m9_keep) 87 = .ok (.iload 5, 2) by decide +kernel) rfl ?_
  exact s_icmp_ne (tgt := 112) (show decode (am_cc m9_keep) 89 = .ok (.if_icmp .ne 23, 3) by decide +kernel) (by decide) k1 k2
theorem g9_keep_92 {a1 a2 a3 a4 a5 : Int} {M : am_M} {Q : Option am_V → am_M → Prop} (k1 : a5 = 0 → am_AtN m9_keep 108 [some (vr 86), some (vi a1), some (vi a2), some (vi a3), some (vi a4), some (vi a5), none, none, none] [] KS M Q) (k2 : ¬ (a5 = 0) → am_AtN m9_keep 97 [some (vr 86), some (vi a1), some (vi a2), some (vi a3), some (vi a4), some (vi a5), none, none, none] [] KS M Q) : am_AtN m9_keep 92 [some (vr 86), some (vi a1), some (vi a2), some (vi a3), some (vi a4), some (vi a5), none, none, none] [] KS M Q := by
  refine s_iload (show decode (am_cc m9_keep) 92 = .ok (.iload 5, 2) by decide +kernel) rfl ?_
  exact s_if_eq (tgt := 108) (show decode (am_cc m9_keep) 94 = .ok (.ifCond .eq 14, 3) by decide +kernel) (by decide) k1 k2
theorem g9_keep_97 {a1 a2 a3 a4 a5 : Int} {M : am_M} {Q : Option am_V → am_M → Prop} (h1 : 0 ≤ a1) (h2 : a1 < 216) (k1 : ¬ M 104 a1 = a4 → am_AtN m9_keep 112 [some (vr 86), some (vi a1), some (vi a2), some (vi a3), some (vi a4), some (vi a5), none, none, none] [] KS M Q) (k2 : M 104 a1 = a4 → am_AtN m9_keep 108 [some (vr 86), some (vi a1), some (vi a2), some (vi a3), some (vi a4), some (vi a5), none, none, none] [] KS M Q) : am_AtN m9_keep 97 [some (vr 86), some (vi a1), some (vi a2), some (vi a3), some (vi a4), some (vi a5), none, none, none] [] KS M Q := by
  refine s_aload_n (show decode (am_cc m9_keep) 97 = .ok (.aload_n 0, 1) by decide +kernel) rfl ?_
  refine s_getf (k := 23) (v := vr 104) (show decode (am_cc m9_keep) 98 = .ok (.getfield 63, 3) by decide +kernel) kd86 (by decide) rfl jnX9 (by decide) lf_RX9_63 rfl ?_
  refine s_iload_n (show decode (am_cc m9_keep) 101 = .ok (.iload_n 1, 1) by decide +kernel) rfl ?_
  refine s_baload (show decode (am_cc m9_keep) 102 = .ok (.baload, 1) by decide +kernel) kd104 h1 h2 ?_
  refine s_iload (show decode (am_cc m9_keep) 103 = .ok (.iload 4, 2) by decide +kernel) rfl ?_
  exact s_icmp_ne (tgt := 112) (show decode (am_cc m9_keep) 105 = .ok (.if_icmp .ne 7, 3) by decide +kernel) (by decide) k1 k2
theorem g9_keep_108 {a1 a2 a3 a4 a5 : Int} {M : am_M} {Q : Option am_V → am_M → Prop} (k : am_AtN m9_keep 113 [some (vr 86), some (vi a1), some (vi a2), some (vi a3), some (vi a4), some (vi a5), none, none, none] [vi 1] KS M Q) : am_AtN m9_keep 108 [some (vr 86), some (vi a1), some (vi a2), some (vi a3), some (vi a4), some (vi a5), none, none, none] [] KS M Q := by
  refine s_iconst (show decode (am_cc m9_keep) 108 = .ok (.iconst 1, 1) by decide +kernel) ⟨by decide, by decide⟩ ?_
  refine s_goto (tgt := 113) (show decode (am_cc m9_keep) 109 = .ok (.goto 4, 3) by decide +kernel) (by decide) ?_
  exact k
theorem g9_keep_112 {a1 a2 a3 a4 a5 : Int} {M : am_M} {Q : Option am_V → am_M → Prop} (k : am_AtN m9_keep 113 [some (vr 86), some (vi a1), some (vi a2), some (vi a3), some (vi a4), some (vi a5), none, none, none] [vi 0] KS M Q) : am_AtN m9_keep 112 [some (vr 86), some (vi a1), some (vi a2), some (vi a3), some (vi a4), some (vi a5), none, none, none] [] KS M Q := by
  refine s_iconst (show decode (am_cc m9_keep) 112 = .ok (.iconst 0, 1) by decide +kernel) ⟨by decide, by decide⟩ ?_
  exact k
theorem g9_keep_113 {a1 a2 a3 a4 a5 t0 : Int} {M : am_M} {Q : Option am_V → am_M → Prop} (k : am_AtN m9_keep 118 [some (vr 86), some (vi a1), some (vi a2), some (vi a3), some (vi a4), some (vi a5), some (vi t0), some (vi 0), none] [] KS M Q) : am_AtN m9_keep 113 [some (vr 86), some (vi a1), some (vi a2), some (vi a3), some (vi a4), some (vi a5), none, none, none] [vi t0] KS M Q := by
  refine s_istore (show decode (am_cc m9_keep) 113 = .ok (.istore 6, 2) by decide +kernel) (by decide) ?_
  refine s_iconst (show decode (am_cc m9_keep) 115 = .ok (.iconst 0, 1) by decide +kernel) ⟨by decide, by decide⟩ ?_
  refine s_istore (show decode (am_cc m9_keep) 116 = .ok (.istore 7, 2) by decide +kernel) (by decide) ?_
  exact k
theorem g9_keep_118 {a1 a2 a3 a4 a5 a6 a7 : Int} {M : am_M} {Q : Option am_V → am_M → Prop} (k1 : a5 ≤ a7 → am_AtN m9_keep 208 [some (vr 86), some (vi a1), some (vi a2), some (vi a3), some (vi a4), some (vi a5), some (vi a6), some (vi a7), none] [] KS M Q) (k2 : ¬ (a5 ≤ a7) → am_AtN m9_keep 125 [some (vr 86), some (vi a1), some (vi a2), some (vi a3), some (vi a4), some (vi a5), some (vi a6), some (vi a7), none] [] KS M Q) : am_AtN m9_keep 118 [some (vr 86), some (vi a1), some (vi a2), some (vi a3), some (vi a4), some (vi a5), some (vi a6), some (vi a7), none] [] KS M Q := by
  refine s_iload (show decode (am_cc m9_keep) 118 = .ok (.iload 7, 2) by decide +kernel) rfl ?_
  refine s_iload (show decode (am_cc m9_keep) 120 = .ok (.iload 5, 2) by decide +kernel) rfl ?_
  exact s_icmp_ge (tgt := 208) (show decode (am_cc m9_keep) 122 = .ok (.if_icmp .ge 86, 3) by decide +kernel) (by decide) k1 k2
theorem g9_keep_125 {a1 a2 a3 a4 a5 a6 a7 : Int} {M : am_M} {Q : Option am_V → am_M → Prop} (k1 : a6 = 0 → am_AtN m9_keep 208 [some (vr 86), some (vi a1), some (vi a2), some (vi a3), some (vi a4), some (vi a5), some (vi a6), some (vi a7), none] [] KS M Q) (k2 : ¬ (a6 = 0) → am_AtN m9_keep 130 [some (vr 86), some (vi a1), some (vi a2), some (vi a3), some (vi a4), some (vi a5), some (vi a6), some (vi a7), none] [] KS M Q) : am_AtN m9_keep 125 [some (vr 86), some (vi a1), some (vi a2), some (vi a3), some (vi a4), some (vi a5), some (vi a6), some (vi a7), none] [] KS M Q := by
  refine s_iload (show decode (am_cc m9_keep) 125 = .ok (.iload 6, 2) by decide +kernel) rfl ?_
  exact s_if_eq (tgt := 208) (show decode (am_cc m9_keep) 127 = .ok (.ifCond .eq 81, 3) by decide +kernel) (by decide) k1 k2
theorem g9_keep_130 {a1 a2 a3 a4 a5 a6 a7 : Int} {M : am_M} {Q : Option am_V → am_M → Prop} (k1 : a4 = 0 → am_AtN m9_keep 147 [some (vr 86), some (vi a1), some (vi a2), some (vi a3), some (vi a4), some (vi a5), some (vi a6), some (vi a7), none] [] KS M Q) (k2 : ¬ (a4 = 0) → am_AtN m9_keep 135 [some (vr 86), some (vi a1), some (vi a2), some (vi a3), some (vi a4), some (vi a5), some (vi a6), some (vi a7), none] [] KS M Q) : am_AtN m9_keep 130 [some (vr 86), some (vi a1), some (vi a2), some (vi a3), some (vi a4), some (vi a5), some (vi a6), some (vi a7), none] [] KS M Q := by
  refine s_iload (show decode (am_cc m9_keep) 130 = .ok (.iload 4, 2) by decide +kernel) rfl ?_
  exact s_if_eq (tgt := 147) (show decode (am_cc m9_keep) 132 = .ok (.ifCond .eq 15, 3) by decide +kernel) (by decide) k1 k2
theorem g9_keep_135 {a1 a2 a3 a4 a5 a6 a7 : Int} {M : am_M} {Q : Option am_V → am_M → Prop} (h1 : -2147483648 ≤ a3 + a7 ∧ a3 + a7 ≤ 2147483647) (h2 : 0 ≤ a3 + a7) (h3 : a3 + a7 < 450) (k : am_AtN m9_keep 156 [some (vr 86), some (vi a1), some (vi a2), some (vi a3), some (vi a4), some (vi a5), some (vi a6), some (vi a7), none] [vi (M 106 (a3 + a7))] KS M Q) : am_AtN m9_keep 135 [some (vr 86), some (vi a1), some (vi a2), some (vi a3), some (vi a4), some (vi a5), some (vi a6), some (vi a7), none] [] KS M Q := by
  refine s_aload_n (show decode (am_cc m9_keep) 135 = .ok (.aload_n 0, 1) by decide +kernel) rfl ?_
  refine s_getf (k := 25) (v := vr 106) (show decode (am_cc m9_keep) 136 = .ok (.getfield 69, 3) by decide +kernel) kd86 (by decide) rfl jnX9 (by decide) lf_RX9_69 rfl ?_
  refine s_iload_n (show decode (am_cc m9_keep) 139 = .ok (.iload_n 3, 1) by decide +kernel) rfl ?_
  refine s_iload (show decode (am_cc m9_keep) 140 = .ok (.iload 7, 2) by decide +kernel) rfl ?_
  refine s_iadd (show decode (am_cc m9_keep) 142 = .ok (.iadd, 1) by decide +kernel) h1 ?_
  refine s_iaload (show decode (am_cc m9_keep) 143 = .ok (.iaload, 1) by decide +kernel) kd106 h2 h3 ?_
  refine s_goto (tgt := 156) (show decode (am_cc m9_keep) 144 = .ok (.goto 12, 3) by decide +kernel) (by decide) ?_
  exact k
theorem g9_keep_147 {a1 a2 a3 a4 a5 a6 a7 : Int} {M : am_M} {Q : Option am_V → am_M → Prop} (h1 : -2147483648 ≤ a3 + a7 ∧ a3 + a7 ≤ 2147483647) (h2 : 0 ≤ a3 + a7) (h3 : a3 + a7 < 450) (k : am_AtN m9_keep 156 [some (vr 86), some (vi a1), some (vi a2), some (vi a3), some (vi a4), some (vi a5), some (vi a6), some (vi a7), none] [vi (M 107 (a3 + a7))] KS M Q) : am_AtN m9_keep 147 [some (vr 86), some (vi a1), some (vi a2), some (vi a3), some (vi a4), some (vi a5), some (vi a6), some (vi a7), none] [] KS M Q := by
  refine s_aload_n (show decode (am_cc m9_keep) 147 = .ok (.aload_n 0, 1) by decide +kernel) rfl ?_
  refine s_getf (k := 26) (v := vr 107) (show decode (am_cc m9_keep) 148 = .ok (.getfield 72, 3) by decide +kernel) kd86 (by decide) rfl jnX9 (by decide) lf_RX9_72 rfl ?_
  refine s_iload_n (show decode (am_cc m9_keep) 151 = .ok (.iload_n 3, 1) by decide +kernel) rfl ?_
  refine s_iload (show decode (am_cc m9_keep) 152 = .ok (.iload 7, 2) by decide +kernel) rfl ?_
  refine s_iadd (show decode (am_cc m9_keep) 154 = .ok (.iadd, 1) by decide +kernel) h1 ?_
  refine s_iaload (show decode (am_cc m9_keep) 155 = .ok (.iaload, 1) by decide +kernel) kd107 h2 h3 ?_
  exact k
theorem g9_keep_156 {a1 a2 a3 a4 a5 a6 a7 t0 : Int} {M : am_M} {Q : Option am_V → am_M → Prop} (k1 : a2 = 0 → am_AtN m9_keep 177 [some (vr 86), some (vi a1), some (vi a2), some (vi a3), some (vi a4), some (vi a5), some (vi a6), some (vi a7), some (vi t0)] [] KS M Q) (k2 : ¬ (a2 = 0) → am_AtN m9_keep 162 [some (vr 86), some (vi a1), some (vi a2), some (vi a3), some (vi a4), some (vi a5), some (vi a6), some (vi a7), some (vi t0)] [] KS M Q) : am_AtN m9_keep 156 [some (vr 86), some (vi a1), some (vi a2), some (vi a3), some (vi a4), some (vi a5), some (vi a6), some (vi a7), none] [vi t0] KS M Q := by
  refine s_istore (show decode (am_cc m9_keep) 156 = .ok (.istore 8, 2) by decide +kernel) (by decide) ?_
  refine s_iload_n (show decode (am_cc m9_keep) 158 = .ok (.iload_n 2, 1) by decide +kernel) rfl ?_
  exact s_if_eq (tgt := 177) (show decode (am_cc m9_keep) 159 = .ok (.ifCond .eq 18, 3) by decide +kernel) (by decide) k1 k2
theorem g9_keep_162 {a1 a2 a3 a4 a5 a6 a7 a8 : Int} {M : am_M} {Q : Option am_V → am_M → Prop} (h1 : -2147483648 ≤ 440 * a1 ∧ 440 * a1 ≤ 2147483647) (h2 : -2147483648 ≤ (440 * a1) + a7 ∧ (440 * a1) + a7 ≤ 2147483647) (h3 : 0 ≤ (440 * a1) + a7) (h4 : (440 * a1) + a7 < 95040) (k : am_AtN m9_keep 177 [some (vr 86), some (vi a1), some (vi a2), some (vi a3), some (vi a4), some (vi a5), some (vi a6), some (vi a7), some (vi a8)] [] KS (am_up M 102 ((440 * a1) + a7) a8) Q) : am_AtN m9_keep 162 [some (vr 86), some (vi a1), some (vi a2), some (vi a3), some (vi a4), some (vi a5), some (vi a6), some (vi a7), some (vi a8)] [] KS M Q := by
  refine s_aload_n (show decode (am_cc m9_keep) 162 = .ok (.aload_n 0, 1) by decide +kernel) rfl ?_
  refine s_getf (k := 21) (v := vr 102) (show decode (am_cc m9_keep) 163 = .ok (.getfield 57, 3) by decide +kernel) kd86 (by decide) rfl jnX9 (by decide) lf_RX9_57 rfl ?_
  refine s_sipush (show decode (am_cc m9_keep) 166 = .ok (.sipush 440, 3) by decide +kernel) ⟨by decide, by decide⟩ (by decide) ?_
  refine s_iload_n (show decode (am_cc m9_keep) 169 = .ok (.iload_n 1, 1) by decide +kernel) rfl ?_
  refine s_imul (show decode (am_cc m9_keep) 170 = .ok (.imul, 1) by decide +kernel) h1 ?_
  refine s_iload (show decode (am_cc m9_keep) 171 = .ok (.iload 7, 2) by decide +kernel) rfl ?_
  refine s_iadd (show decode (am_cc m9_keep) 173 = .ok (.iadd, 1) by decide +kernel) h2 ?_
  refine s_iload (show decode (am_cc m9_keep) 174 = .ok (.iload 8, 2) by decide +kernel) rfl ?_
  refine s_iastore (show decode (am_cc m9_keep) 176 = .ok (.iastore, 1) by decide +kernel) kd102 h3 h4 ?_
  exact k
theorem g9_keep_177 {a1 a2 a3 a4 a5 a6 a7 a8 : Int} {M : am_M} {Q : Option am_V → am_M → Prop} (h1 : -2147483648 ≤ 440 * a1 ∧ 440 * a1 ≤ 2147483647) (h2 : -2147483648 ≤ (440 * a1) + a7 ∧ (440 * a1) + a7 ≤ 2147483647) (h3 : 0 ≤ (440 * a1) + a7) (h4 : (440 * a1) + a7 < 95040) (k1 : ¬ M 102 ((440 * a1) + a7) = a8 → am_AtN m9_keep 199 [some (vr 86), some (vi a1), some (vi a2), some (vi a3), some (vi a4), some (vi a5), some (vi a6), some (vi a7), some (vi a8)] [] KS M Q) (k2 : M 102 ((440 * a1) + a7) = a8 → am_AtN m9_keep 195 [some (vr 86), some (vi a1), some (vi a2), some (vi a3), some (vi a4), some (vi a5), some (vi a6), some (vi a7), some (vi a8)] [] KS M Q) : am_AtN m9_keep 177 [some (vr 86), some (vi a1), some (vi a2), some (vi a3), some (vi a4), some (vi a5), some (vi a6), some (vi a7), some (vi a8)] [] KS M Q := by
  refine s_aload_n (show decode (am_cc m9_keep) 177 = .ok (.aload_n 0, 1) by decide +kernel) rfl ?_
  refine s_getf (k := 21) (v := vr 102) (show decode (am_cc m9_keep) 178 = .ok (.getfield 57, 3) by decide +kernel) kd86 (by decide) rfl jnX9 (by decide) lf_RX9_57 rfl ?_
  refine s_sipush (show decode (am_cc m9_keep) 181 = .ok (.sipush 440, 3) by decide +kernel) ⟨by decide, by decide⟩ (by decide) ?_
  refine s_iload_n (show decode (am_cc m9_keep) 184 = .ok (.iload_n 1, 1) by decide +kernel) rfl ?_
  refine s_imul (show decode (am_cc m9_keep) 185 = .ok (.imul, 1) by decide +kernel) h1 ?_
  refine s_iload (show decode (am_cc m9_keep) 186 = .ok (.iload 7, 2) by decide +kernel) rfl ?_
  refine s_iadd (show decode (am_cc m9_keep) 188 = .ok (.iadd, 1) by decide +kernel) h2 ?_
  refine s_iaload (show decode (am_cc m9_keep) 189 = .ok (.iaload, 1) by decide +kernel) kd102 h3 h4 ?_
  refine s_iload (show decode (am_cc m9_keep) 190 = .ok (.iload 8, 2) by decide +kernel) rfl ?_
  exact s_icmp_ne (tgt := 199) (show decode (am_cc m9_keep) 192 = .ok (.if_icmp .ne 7, 3) by decide +kernel) (by decide) k1 k2
theorem g9_keep_195 {a1 a2 a3 a4 a5 a6 a7 a8 : Int} {M : am_M} {Q : Option am_V → am_M → Prop} (k : am_AtN m9_keep 200 [some (vr 86), some (vi a1), some (vi a2), some (vi a3), some (vi a4), some (vi a5), some (vi a6), some (vi a7), some (vi a8)] [vi 1] KS M Q) : am_AtN m9_keep 195 [some (vr 86), some (vi a1), some (vi a2), some (vi a3), some (vi a4), some (vi a5), some (vi a6), some (vi a7), some (vi a8)] [] KS M Q := by
  refine s_iconst (show decode (am_cc m9_keep) 195 = .ok (.iconst 1, 1) by decide +kernel) ⟨by decide, by decide⟩ ?_
  refine s_goto (tgt := 200) (show decode (am_cc m9_keep) 196 = .ok (.goto 4, 3) by decide +kernel) (by decide) ?_
  exact k
theorem g9_keep_199 {a1 a2 a3 a4 a5 a6 a7 a8 : Int} {M : am_M} {Q : Option am_V → am_M → Prop} (k : am_AtN m9_keep 200 [some (vr 86), some (vi a1), some (vi a2), some (vi a3), some (vi a4), some (vi a5), some (vi a6), some (vi a7), some (vi a8)] [vi 0] KS M Q) : am_AtN m9_keep 199 [some (vr 86), some (vi a1), some (vi a2), some (vi a3), some (vi a4), some (vi a5), some (vi a6), some (vi a7), some (vi a8)] [] KS M Q := by
  refine s_iconst (show decode (am_cc m9_keep) 199 = .ok (.iconst 0, 1) by decide +kernel) ⟨by decide, by decide⟩ ?_
  exact k
theorem g9_keep_200 {a1 a2 a3 a4 a5 a6 a7 a8 t0 : Int} {M : am_M} {Q : Option am_V → am_M → Prop} (h1 : -2147483648 ≤ a7 + 1 ∧ a7 + 1 ≤ 2147483647) (k : am_AtN m9_keep 118 [some (vr 86), some (vi a1), some (vi a2), some (vi a3), some (vi a4), some (vi a5), some (vi t0), some (vi (a7 + 1)), none] [] KS M Q) : am_AtN m9_keep 200 [some (vr 86), some (vi a1), some (vi a2), some (vi a3), some (vi a4), some (vi a5), some (vi a6), some (vi a7), some (vi a8)] [vi t0] KS M Q := by
  refine s_istore (show decode (am_cc m9_keep) 200 = .ok (.istore 6, 2) by decide +kernel) (by decide) ?_
  refine s_iinc (show decode (am_cc m9_keep) 202 = .ok (.iinc 7 1, 3) by decide +kernel) rfl (by decide) h1 ?_
  refine s_goto (tgt := 118) (show decode (am_cc m9_keep) 205 = .ok (.goto (-87), 3) by decide +kernel) (by decide) ?_
  refine am_fg 8 ?_
  exact k
theorem g9_keep_208 {a1 a2 a3 a4 a5 a6 a7 : Int} {M : am_M} {Q : Option am_V → am_M → Prop} (h1 : a6 = 0 ∨ a6 = 1) (k : Q (some (vi a6)) M) : am_AtN m9_keep 208 [some (vr 86), some (vi a1), some (vi a2), some (vi a3), some (vi a4), some (vi a5), some (vi a6), some (vi a7), none] [] KS M Q := by
  refine s_iload (show decode (am_cc m9_keep) 208 = .ok (.iload 6, 2) by decide +kernel) rfl ?_
  exact s_zreturn (show decode (am_cc m9_keep) 210 = .ok (.ireturn, 1) by decide +kernel) rfl h1 k
theorem g9_agrees_0 {a1 a2 a3 : Int} {M : am_M} {Q : Option am_V → am_M → Prop} (k : am_AtN m9_agrees 3 [some (vr 86), some (vi a1), some (vi a2), some (vi a3), some (vi 0), none, none, none, none, none, none, none] [] KS M Q) : am_AtN m9_agrees 0 [some (vr 86), some (vi a1), some (vi a2), some (vi a3), none, none, none, none, none, none, none, none] [] KS M Q := by
  refine s_iconst (show decode (am_cc m9_agrees) 0 = .ok (.iconst 0, 1) by decide +kernel) ⟨by decide, by decide⟩ ?_
  refine s_istore (show decode (am_cc m9_agrees) 1 = .ok (.istore 4, 2) by decide +kernel) (by decide) ?_
  exact k
theorem g9_agrees_3 {a1 a2 a3 a4 : Int} {M : am_M} {Q : Option am_V → am_M → Prop} (k1 : 216 ≤ a4 → am_AtN m9_agrees 41 [some (vr 86), some (vi a1), some (vi a2), some (vi a3), some (vi a4), none, none, none, none, none, none, none] [] KS M Q) (k2 : ¬ (216 ≤ a4) → am_AtN m9_agrees 11 [some (vr 86), some (vi a1), some (vi a2), some (vi a3), some (vi a4), none, none, none, none, none, none, none] [] KS M Q) : am_AtN m9_agrees 3 [some (vr 86), some (vi a1), some (vi a2), some (vi a3), some (vi a4), none, none, none, none, none, none, none] [] KS M Q := by
  refine s_iload (show decode (am_cc m9_agrees) 3 = .ok (.iload 4, 2) by decide +kernel) rfl ?_
  refine s_sipush (show decode (am_cc m9_agrees) 5 = .ok (.sipush 216, 3) by decide +kernel) ⟨by decide, by decide⟩ (by decide) ?_
  exact s_icmp_ge (tgt := 41) (show decode (am_cc m9_agrees) 8 = .ok (.if_icmp .ge 33, 3) by decide +kernel) (by decide) k1 k2
theorem g9_agrees_11 {a1 a2 a3 a4 : Int} {M : am_M} {Q : Option am_V → am_M → Prop} (h1 : 0 ≤ a4) (h2 : a4 < 1296) (k : am_CallN m9_writeBoth [vr 86, vi a4, vi a1, vi a2, vi a3] KS (am_up M 98 a4 0) (fun r M' => am_AtN m9_agrees 34 [some (vr 86), some (vi a1), some (vi a2), some (vi a3), some (vi a4), none, none, none, none, none, none, none] (r.toList ++ [vi a4, vr 105]) KS M' Q)) : am_AtN m9_agrees 11 [some (vr 86), some (vi a1), some (vi a2), some (vi a3), some (vi a4), none, none, none, none, none, none, none] [] KS M Q := by
  refine s_aload_n (show decode (am_cc m9_agrees) 11 = .ok (.aload_n 0, 1) by decide +kernel) rfl ?_
  refine s_getf (k := 13) (v := vr 98) (show decode (am_cc m9_agrees) 12 = .ok (.getfield 44, 3) by decide +kernel) kd86 (by decide) rfl jnX9 (by decide) lf_RX9_44 rfl ?_
  refine s_iload (show decode (am_cc m9_agrees) 15 = .ok (.iload 4, 2) by decide +kernel) rfl ?_
  refine s_iconst (show decode (am_cc m9_agrees) 17 = .ok (.iconst 0, 1) by decide +kernel) ⟨by decide, by decide⟩ ?_
  refine s_bastore (show decode (am_cc m9_agrees) 18 = .ok (.bastore, 1) by decide +kernel) kd98 h1 h2 (by decide) ?_
  refine s_aload_n (show decode (am_cc m9_agrees) 19 = .ok (.aload_n 0, 1) by decide +kernel) rfl ?_
  refine s_getf (k := 24) (v := vr 105) (show decode (am_cc m9_agrees) 20 = .ok (.getfield 66, 3) by decide +kernel) kd86 (by decide) rfl jnX9 (by decide) lf_RX9_66 rfl ?_
  refine s_iload (show decode (am_cc m9_agrees) 23 = .ok (.iload 4, 2) by decide +kernel) rfl ?_
  refine s_aload_n (show decode (am_cc m9_agrees) 25 = .ok (.aload_n 0, 1) by decide +kernel) rfl ?_
  refine s_iload (show decode (am_cc m9_agrees) 26 = .ok (.iload 4, 2) by decide +kernel) rfl ?_
  refine s_iload_n (show decode (am_cc m9_agrees) 28 = .ok (.iload_n 1, 1) by decide +kernel) rfl ?_
  refine s_iload_n (show decode (am_cc m9_agrees) 29 = .ok (.iload_n 2, 1) by decide +kernel) rfl ?_
  refine s_iload_n (show decode (am_cc m9_agrees) 30 = .ok (.iload_n 3, 1) by decide +kernel) rfl ?_
  exact n_callV (as := [vi a4, vi a1, vi a2, vi a3]) (stk := [vi a4, vr 105]) (show decode (am_cc m9_agrees) 31 = .ok (.invokevirtual 210, 3) by decide +kernel) lk_RX9_210 kd86 (by decide) rfl rfl (by decide) (Nat.le_of_ble_eq_true rfl) ⟨rfl, rfl⟩ k
theorem g9_agrees_34 {a1 a2 a3 a4 t0 t1 t2 : Int} {M : am_M} {Q : Option am_V → am_M → Prop} {n0 : Nat} {q0 : List Int} (h1 : am_kd KS t0 = some (12, n0, q0)) (h2 : 0 ≤ t1) (h3 : t1 < (n0 : Int)) (h4 : t2 = 0 ∨ t2 = 1) (h5 : -2147483648 ≤ a4 + 1 ∧ a4 + 1 ≤ 2147483647) (k : am_AtN m9_agrees 3 [some (vr 86), some (vi a1), some (vi a2), some (vi a3), some (vi (a4 + 1)), none, none, none, none, none, none, none] [] KS (am_up M t0 t1 t2) Q) : am_AtN m9_agrees 34 [some (vr 86), some (vi a1), some (vi a2), some (vi a3), some (vi a4), none, none, none, none, none, none, none] [vi t2, vi t1, vr t0] KS M Q := by
  refine s_bastore (show decode (am_cc m9_agrees) 34 = .ok (.bastore, 1) by decide +kernel) h1 h2 h3 h4 ?_
  refine s_iinc (show decode (am_cc m9_agrees) 35 = .ok (.iinc 4 1, 3) by decide +kernel) rfl (by decide) h5 ?_
  refine s_goto (tgt := 3) (show decode (am_cc m9_agrees) 38 = .ok (.goto (-35), 3) by decide +kernel) (by decide) ?_
  exact k
theorem g9_agrees_41 {a1 a2 a3 a4 : Int} {M : am_M} {Q : Option am_V → am_M → Prop} (k : am_AtN m9_agrees 44 [some (vr 86), some (vi a1), some (vi a2), some (vi a3), some (vi 1), none, none, none, none, none, none, none] [] KS M Q) : am_AtN m9_agrees 41 [some (vr 86), some (vi a1), some (vi a2), some (vi a3), some (vi a4), none, none, none, none, none, none, none] [] KS M Q := by
  refine s_iconst (show decode (am_cc m9_agrees) 41 = .ok (.iconst 1, 1) by decide +kernel) ⟨by decide, by decide⟩ ?_
  refine s_istore (show decode (am_cc m9_agrees) 42 = .ok (.istore 4, 2) by decide +kernel) (by decide) ?_
  exact k
theorem g9_agrees_44 {a1 a2 a3 a4 : Int} {M : am_M} {Q : Option am_V → am_M → Prop} (k1 : a4 = 0 → am_AtN m9_agrees 145 [some (vr 86), some (vi a1), some (vi a2), some (vi a3), some (vi a4), none, none, none, none, none, none, none] [] KS M Q) (k2 : ¬ (a4 = 0) → am_AtN m9_agrees 49 [some (vr 86), some (vi a1), some (vi a2), some (vi a3), some (vi a4), none, none, none, none, none, none, none] [] KS M Q) : am_AtN m9_agrees 44 [some (vr 86), some (vi a1), some (vi a2), some (vi a3), some (vi a4), none, none, none, none, none, none, none] [] KS M Q := by
  refine s_iload (show decode (am_cc m9_agrees) 44 = .ok (.iload 4, 2) by decide +kernel) rfl ?_
  exact s_if_eq (tgt := 145) (show decode (am_cc m9_agrees) 46 = .ok (.ifCond .eq 99, 3) by decide +kernel) (by decide) k1 k2
theorem g9_agrees_49 {a1 a2 a3 a4 : Int} {M : am_M} {Q : Option am_V → am_M → Prop} (k : am_AtN m9_agrees 55 [some (vr 86), some (vi a1), some (vi a2), some (vi a3), some (vi 0), some (vi 0), none, none, none, none, none, none] [] KS M Q) : am_AtN m9_agrees 49 [some (vr 86), some (vi a1), some (vi a2), some (vi a3), some (vi a4), none, none, none, none, none, none, none] [] KS M Q := by
  refine s_iconst (show decode (am_cc m9_agrees) 49 = .ok (.iconst 0, 1) by decide +kernel) ⟨by decide, by decide⟩ ?_
  refine s_istore (show decode (am_cc m9_agrees) 50 = .ok (.istore 4, 2) by decide +kernel) (by decide) ?_
  refine s_iconst (show decode (am_cc m9_agrees) 52 = .ok (.iconst 0, 1) by decide +kernel) ⟨by decide, by decide⟩ ?_
  refine s_istore (show decode (am_cc m9_agrees) 53 = .ok (.istore 5, 2) by decide +kernel) (by decide) ?_
  exact k
theorem g9_agrees_55 {a1 a2 a3 a4 a5 : Int} {M : am_M} {Q : Option am_V → am_M → Prop} (k1 : 216 ≤ a5 → am_AtN m9_agrees 142 [some (vr 86), some (vi a1), some (vi a2), some (vi a3), some (vi a4), some (vi a5), none, none, none, none, none, none] [] KS M Q) (k2 : ¬ (216 ≤ a5) → am_AtN m9_agrees 63 [some (vr 86), some (vi a1), some (vi a2), some (vi a3), some (vi a4), some (vi a5), none, none, none, none, none, none] [] KS M Q) : am_AtN m9_agrees 55 [some (vr 86), some (vi a1), some (vi a2), some (vi a3), some (vi a4), some (vi a5), none, none, none, none, none, none] [] KS M Q := by
  refine s_iload (show decode (am_cc m9_agrees) 55 = .ok (.iload 5, 2) by decide +kernel) rfl ?_
  refine s_sipush (show decode (am_cc m9_agrees) 57 = .ok (.sipush 216, 3) by decide +kernel) ⟨by decide, by decide⟩ (by decide) ?_
  exact s_icmp_ge (tgt := 142) (show decode (am_cc m9_agrees) 60 = .ok (.if_icmp .ge 82, 3) by decide +kernel) (by decide) k1 k2
theorem g9_agrees_63 {a1 a2 a3 a4 a5 : Int} {M : am_M} {Q : Option am_V → am_M → Prop} (k : am_AtN m9_agrees 66 [some (vr 86), some (vi a1), some (vi a2), some (vi a3), some (vi a4), some (vi a5), some (vi 0), none, none, none, none, none] [] KS M Q) : am_AtN m9_agrees 63 [some (vr 86), some (vi a1), some (vi a2), some (vi a3), some (vi a4), some (vi a5), none, none, none, none, none, none] [] KS M Q := by
  refine s_iconst (show decode (am_cc m9_agrees) 63 = .ok (.iconst 0, 1) by decide +kernel) ⟨by decide, by decide⟩ ?_
  refine s_istore (show decode (am_cc m9_agrees) 64 = .ok (.istore 6, 2) by decide +kernel) (by decide) ?_
  exact k
theorem g9_agrees_66 {a1 a2 a3 a4 a5 a6 : Int} {M : am_M} {Q : Option am_V → am_M → Prop} (k1 : M 86 1 ≤ a6 → am_AtN m9_agrees 136 [some (vr 86), some (vi a1), some (vi a2), some (vi a3), some (vi a4), some (vi a5), some (vi a6), none, none, none, none, none] [] KS M Q) (k2 : ¬ (M 86 1 ≤ a6) → am_AtN m9_agrees 75 [some (vr 86), some (vi a1), some (vi a2), some (vi a3), some (vi a4), some (vi a5), some (vi a6), none, none, none, none, none] [] KS M Q) : am_AtN m9_agrees 66 [some (vr 86), some (vi a1), some (vi a2), some (vi a3), some (vi a4), some (vi a5), some (vi a6), none, none, none, none, none] [] KS M Q := by
  refine s_iload (show decode (am_cc m9_agrees) 66 = .ok (.iload 6, 2) by decide +kernel) rfl ?_
  refine s_aload_n (show decode (am_cc m9_agrees) 68 = .ok (.aload_n 0, 1) by decide +kernel) rfl ?_
  refine s_getf (k := 1) (v := vi (M 86 1)) (show decode (am_cc m9_agrees) 69 = .ok (.getfield 99, 3) by decide +kernel) kd86 (by decide) rfl jnX9 (by decide) lf_RX9_99 rfl ?_
  exact s_icmp_ge (tgt := 136) (show decode (am_cc m9_agrees) 72 = .ok (.if_icmp .ge 64, 3) by decide +kernel) (by decide) k1 k2
theorem g9_agrees_75 {a1 a2 a3 a4 a5 a6 : Int} {M : am_M} {Q : Option am_V → am_M → Prop} (h1 : 0 ≤ a5) (h2 : a5 < 216) (k1 : ¬ M 105 a5 = 0 → am_AtN m9_agrees 136 [some (vr 86), some (vi a1), some (vi a2), some (vi a3), some (vi a4), some (vi a5), some (vi a6), none, none, none, none, none] [] KS M Q) (k2 : M 105 a5 = 0 → am_AtN m9_agrees 85 [some (vr 86), some (vi a1), some (vi a2), some (vi a3), some (vi a4), some (vi a5), some (vi a6), none, none, none, none, none] [] KS M Q) : am_AtN m9_agrees 75 [some (vr 86), some (vi a1), some (vi a2), some (vi a3), some (vi a4), some (vi a5), some (vi a6), none, none, none, none, none] [] KS M Q := by
  refine s_aload_n (show decode (am_cc m9_agrees) 75 = .ok (.aload_n 0, 1) by decide +kernel) rfl ?_
  refine s_getf (k := 24) (v := vr 105) (show decode (am_cc m9_agrees) 76 = .ok (.getfield 66, 3) by decide +kernel) kd86 (by decide) rfl jnX9 (by decide) lf_RX9_66 rfl ?_
  refine s_iload (show decode (am_cc m9_agrees) 79 = .ok (.iload 5, 2) by decide +kernel) rfl ?_
  refine s_baload (show decode (am_cc m9_agrees) 81 = .ok (.baload, 1) by decide +kernel) kd105 h1 h2 ?_
  exact s_if_ne (tgt := 136) (show decode (am_cc m9_agrees) 82 = .ok (.ifCond .ne 54, 3) by decide +kernel) (by decide) k1 k2
theorem g9_agrees_85 {a1 a2 a3 a4 a5 a6 : Int} {M : am_M} {Q : Option am_V → am_M → Prop} (k : am_CallN m9_pair [vr 86, vi a5, vi a6, vi a1, vi a2, vi a3] KS M (fun r M' => am_AtN m9_agrees 106 [some (vr 86), some (vi a1), some (vi a2), some (vi a3), some (vi a4), some (vi a5), some (vi a6), none, none, none, none, none] (r.toList ++ [vr 105, vi a5, vr 105]) KS M' Q)) : am_AtN m9_agrees 85 [some (vr 86), some (vi a1), some (vi a2), some (vi a3), some (vi a4), some (vi a5), some (vi a6), none, none, none, none, none] [] KS M Q := by
  refine s_aload_n (show decode (am_cc m9_agrees) 85 = .ok (.aload_n 0, 1) by decide +kernel) rfl ?_
  refine s_getf (k := 24) (v := vr 105) (show decode (am_cc m9_agrees) 86 = .ok (.getfield 66, 3) by decide +kernel) kd86 (by decide) rfl jnX9 (by decide) lf_RX9_66 rfl ?_
  refine s_iload (show decode (am_cc m9_agrees) 89 = .ok (.iload 5, 2) by decide +kernel) rfl ?_
  refine s_aload_n (show decode (am_cc m9_agrees) 91 = .ok (.aload_n 0, 1) by decide +kernel) rfl ?_
  refine s_getf (k := 24) (v := vr 105) (show decode (am_cc m9_agrees) 92 = .ok (.getfield 66, 3) by decide +kernel) kd86 (by decide) rfl jnX9 (by decide) lf_RX9_66 rfl ?_
  refine s_aload_n (show decode (am_cc m9_agrees) 95 = .ok (.aload_n 0, 1) by decide +kernel) rfl ?_
  refine s_iload (show decode (am_cc m9_agrees) 96 = .ok (.iload 5, 2) by decide +kernel) rfl ?_
  refine s_iload (show decode (am_cc m9_agrees) 98 = .ok (.iload 6, 2) by decide +kernel) rfl ?_
  refine s_iload_n (show decode (am_cc m9_agrees) 100 = .ok (.iload_n 1, 1) by decide +kernel) rfl ?_
  refine s_iload_n (show decode (am_cc m9_agrees) 101 = .ok (.iload_n 2, 1) by decide +kernel) rfl ?_
  refine s_iload_n (show decode (am_cc m9_agrees) 102 = .ok (.iload_n 3, 1) by decide +kernel) rfl ?_
  exact n_callV (as := [vi a5, vi a6, vi a1, vi a2, vi a3]) (stk := [vr 105, vi a5, vr 105]) (show decode (am_cc m9_agrees) 103 = .ok (.invokevirtual 213, 3) by decide +kernel) lk_RX9_213 kd86 (by decide) rfl rfl (by decide) (Nat.le_of_ble_eq_true rfl) ⟨rfl, rfl⟩ k
theorem g9_agrees_106 {a1 a2 a3 a4 a5 a6 t0 t1 t2 t3 : Int} {M : am_M} {Q : Option am_V → am_M → Prop} {n0 : Nat} {q0 : List Int} {n1 : Nat} {q1 : List Int} (h1 : am_kd KS t2 = some (12, n0, q0)) (h2 : 0 ≤ t3) (h3 : t3 < (n0 : Int)) (h4 : am_kd KS t0 = some (12, n1, q1)) (h5 : 0 ≤ t1) (h6 : t1 < (n1 : Int)) (h7 : M t2 t3 = 0 ∨ M t2 t3 = 1) (k1 : ¬ a4 = 0 → am_AtN m9_agrees 123 [some (vr 86), some (vi a1), some (vi a2), some (vi a3), some (vi a4), some (vi a5), some (vi a6), none, none, none, none, none] [] KS (am_up M t0 t1 (M t2 t3)) Q) (k2 : a4 = 0 → am_AtN m9_agrees 113 [some (vr 86), some (vi a1), some (vi a2), some (vi a3), some (vi a4), some (vi a5), some (vi a6), none, none, none, none, none] [] KS (am_up M t0 t1 (M t2 t3)) Q) : am_AtN m9_agrees 106 [some (vr 86), some (vi a1), some (vi a2), some (vi a3), some (vi a4), some (vi a5), some (vi a6), none, none, none, none, none] [vi t3, vr t2, vi t1, vr t0] KS M Q := by
  refine s_baload (show decode (am_cc m9_agrees) 106 = .ok (.baload, 1) by decide +kernel) h1 h2 h3 ?_
  refine s_bastore (show decode (am_cc m9_agrees) 107 = .ok (.bastore, 1) by decide +kernel) h4 h5 h6 h7 ?_
  refine s_iload (show decode (am_cc m9_agrees) 108 = .ok (.iload 4, 2) by decide +kernel) rfl ?_
  exact s_if_ne (tgt := 123) (show decode (am_cc m9_agrees) 110 = .ok (.ifCond .ne 13, 3) by decide +kernel) (by decide) k1 k2
theorem g9_agrees_113 {a1 a2 a3 a4 a5 a6 : Int} {M : am_M} {Q : Option am_V → am_M → Prop} (h1 : 0 ≤ a5) (h2 : a5 < 216) (k1 : M 105 a5 = 0 → am_AtN m9_agrees 127 [some (vr 86), some (vi a1), some (vi a2), some (vi a3), some (vi a4), some (vi a5), some (vi a6), none, none, none, none, none] [] KS M Q) (k2 : ¬ (M 105 a5 = 0) → am_AtN m9_agrees 123 [some (vr 86), some (vi a1), some (vi a2), some (vi a3), some (vi a4), some (vi a5), some (vi a6), none, none, none, none, none] [] KS M Q) : am_AtN m9_agrees 113 [some (vr 86), some (vi a1), some (vi a2), some (vi a3), some (vi a4), some (vi a5), some (vi a6), none, none, none, none, none] [] KS M Q := by
  refine s_aload_n (show decode (am_cc m9_agrees) 113 = .ok (.aload_n 0, 1) by decide +kernel) rfl ?_
  refine s_getf (k := 24) (v := vr 105) (show decode (am_cc m9_agrees) 114 = .ok (.getfield 66, 3) by decide +kernel) kd86 (by decide) rfl jnX9 (by decide) lf_RX9_66 rfl ?_
  refine s_iload (show decode (am_cc m9_agrees) 117 = .ok (.iload 5, 2) by decide +kernel) rfl ?_
  refine s_baload (show decode (am_cc m9_agrees) 119 = .ok (.baload, 1) by decide +kernel) kd105 h1 h2 ?_
  exact s_if_eq (tgt := 127) (show decode (am_cc m9_agrees) 120 = .ok (.ifCond .eq 7, 3) by decide +kernel) (by decide) k1 k2
theorem g9_agrees_123 {a1 a2 a3 a4 a5 a6 : Int} {M : am_M} {Q : Option am_V → am_M → Prop} (k : am_AtN m9_agrees 128 [some (vr 86), some (vi a1), some (vi a2), some (vi a3), some (vi a4), some (vi a5), some (vi a6), none, none, none, none, none] [vi 1] KS M Q) : am_AtN m9_agrees 123 [some (vr 86), some (vi a1), some (vi a2), some (vi a3), some (vi a4), some (vi a5), some (vi a6), none, none, none, none, none] [] KS M Q := by
  refine s_iconst (show decode (am_cc m9_agrees) 123 = .ok (.iconst 1, 1) by decide +kernel) ⟨by decide, by decide⟩ ?_
  refine s_goto (tgt := 128) (show decode (am_cc m9_agrees) 124 = .ok (.goto 4, 3) by decide +kernel) (by decide) ?_
  exact k
theorem g9_agrees_127 {a1 a2 a3 a4 a5 a6 : Int} {M : am_M} {Q : Option am_V → am_M → Prop} (k : am_AtN m9_agrees 128 [some (vr 86), some (vi a1), some (vi a2), some (vi a3), some (vi a4), some (vi a5), some (vi a6), none, none, none, none, none] [vi 0] KS M Q) : am_AtN m9_agrees 127 [some (vr 86), some (vi a1), some (vi a2), some (vi a3), some (vi a4), some (vi a5), some (vi a6), none, none, none, none, none] [] KS M Q := by
  refine s_iconst (show decode (am_cc m9_agrees) 127 = .ok (.iconst 0, 1) by decide +kernel) ⟨by decide, by decide⟩ ?_
  exact k
theorem g9_agrees_128 {a1 a2 a3 a4 a5 a6 t0 : Int} {M : am_M} {Q : Option am_V → am_M → Prop} (h1 : -2147483648 ≤ a6 + 1 ∧ a6 + 1 ≤ 2147483647) (k : am_AtN m9_agrees 66 [some (vr 86), some (vi a1), some (vi a2), some (vi a3), some (vi t0), some (vi a5), some (vi (a6 + 1)), none, none, none, none, none] [] KS M Q) : am_AtN m9_agrees 128 [some (vr 86), some (vi a1), some (vi a2), some (vi a3), some (vi a4), some (vi a5), some (vi a6), none, none, none, none, none] [vi t0] KS M Q := by
  refine s_istore (show decode (am_cc m9_agrees) 128 = .ok (.istore 4, 2) by decide +kernel) (by decide) ?_
  refine s_iinc (show decode (am_cc m9_agrees) 130 = .ok (.iinc 6 1, 3) by decide +kernel) rfl (by decide) h1 ?_
  refine s_goto (tgt := 66) (show decode (am_cc m9_agrees) 133 = .ok (.goto (-67), 3) by decide +kernel) (by decide) ?_
  exact k
theorem g9_agrees_136 {a1 a2 a3 a4 a5 a6 : Int} {M : am_M} {Q : Option am_V → am_M → Prop} (h1 : -2147483648 ≤ a5 + 1 ∧ a5 + 1 ≤ 2147483647) (k : am_AtN m9_agrees 55 [some (vr 86), some (vi a1), some (vi a2), some (vi a3), some (vi a4), some (vi (a5 + 1)), none, none, none, none, none, none] [] KS M Q) : am_AtN m9_agrees 136 [some (vr 86), some (vi a1), some (vi a2), some (vi a3), some (vi a4), some (vi a5), some (vi a6), none, none, none, none, none] [] KS M Q := by
  refine s_iinc (show decode (am_cc m9_agrees) 136 = .ok (.iinc 5 1, 3) by decide +kernel) rfl (by decide) h1 ?_
  refine s_goto (tgt := 55) (show decode (am_cc m9_agrees) 139 = .ok (.goto (-84), 3) by decide +kernel) (by decide) ?_
  refine am_fg 6 ?_
  exact k
theorem g9_agrees_142 {a1 a2 a3 a4 a5 : Int} {M : am_M} {Q : Option am_V → am_M → Prop} (k : am_AtN m9_agrees 44 [some (vr 86), some (vi a1), some (vi a2), some (vi a3), some (vi a4), none, none, none, none, none, none, none] [] KS M Q) : am_AtN m9_agrees 142 [some (vr 86), some (vi a1), some (vi a2), some (vi a3), some (vi a4), some (vi a5), none, none, none, none, none, none] [] KS M Q := by
  refine s_goto (tgt := 44) (show decode (am_cc m9_agrees) 142 = .ok (.goto (-98), 3) by decide +kernel) (by decide) ?_
  refine am_fg 5 ?_
  exact k
theorem g9_agrees_145 {a1 a2 a3 a4 : Int} {M : am_M} {Q : Option am_V → am_M → Prop} (k : am_AtN m9_agrees 174 [some (vr 86), some (vi a1), some (vi a2), some (vi a3), some (vi a4), some (vi 0), none, none, none, none, none, none] [] KS (am_up (am_up (am_up (am_up M 98 0 1) 95 0 0) 103 0 0) 86 15 1) Q) : am_AtN m9_agrees 145 [some (vr 86), some (vi a1), some (vi a2), some (vi a3), some (vi a4), none, none, none, none, none, none, none] [] KS M Q := by
  refine s_aload_n (show decode (am_cc m9_agrees) 145 = .ok (.aload_n 0, 1) by decide +kernel) rfl ?_
  refine s_getf (k := 13) (v := vr 98) (show decode (am_cc m9_agrees) 146 = .ok (.getfield 44, 3) by decide +kernel) kd86 (by decide) rfl jnX9 (by decide) lf_RX9_44 rfl ?_
  refine s_iconst (show decode (am_cc m9_agrees) 149 = .ok (.iconst 0, 1) by decide +kernel) ⟨by decide, by decide⟩ ?_
  refine s_iconst (show decode (am_cc m9_agrees) 150 = .ok (.iconst 1, 1) by decide +kernel) ⟨by decide, by decide⟩ ?_
  refine s_bastore (show decode (am_cc m9_agrees) 151 = .ok (.bastore, 1) by decide +kernel) kd98 (by decide) (by decide) (by decide) ?_
  refine s_aload_n (show decode (am_cc m9_agrees) 152 = .ok (.aload_n 0, 1) by decide +kernel) rfl ?_
  refine s_getf (k := 10) (v := vr 95) (show decode (am_cc m9_agrees) 153 = .ok (.getfield 35, 3) by decide +kernel) kd86 (by decide) rfl jnX9 (by decide) lf_RX9_35 rfl ?_
  refine s_iconst (show decode (am_cc m9_agrees) 156 = .ok (.iconst 0, 1) by decide +kernel) ⟨by decide, by decide⟩ ?_
  refine s_iconst (show decode (am_cc m9_agrees) 157 = .ok (.iconst 0, 1) by decide +kernel) ⟨by decide, by decide⟩ ?_
  refine s_iastore (show decode (am_cc m9_agrees) 158 = .ok (.iastore, 1) by decide +kernel) kd95 (by decide) (by decide) ?_
  refine s_aload_n (show decode (am_cc m9_agrees) 159 = .ok (.aload_n 0, 1) by decide +kernel) rfl ?_
  refine s_getf (k := 22) (v := vr 103) (show decode (am_cc m9_agrees) 160 = .ok (.getfield 60, 3) by decide +kernel) kd86 (by decide) rfl jnX9 (by decide) lf_RX9_60 rfl ?_
  refine s_iconst (show decode (am_cc m9_agrees) 163 = .ok (.iconst 0, 1) by decide +kernel) ⟨by decide, by decide⟩ ?_
  refine s_iconst (show decode (am_cc m9_agrees) 164 = .ok (.iconst 0, 1) by decide +kernel) ⟨by decide, by decide⟩ ?_
  refine s_iastore (show decode (am_cc m9_agrees) 165 = .ok (.iastore, 1) by decide +kernel) kd103 (by decide) (by decide) ?_
  refine s_aload_n (show decode (am_cc m9_agrees) 166 = .ok (.aload_n 0, 1) by decide +kernel) rfl ?_
  refine s_iconst (show decode (am_cc m9_agrees) 167 = .ok (.iconst 1, 1) by decide +kernel) ⟨by decide, by decide⟩ ?_
  refine s_putf (k := 15) (x := 1) (ty0 := tyX9) (show decode (am_cc m9_agrees) 168 = .ok (.putfield 174, 3) by decide +kernel) kd86 (by decide) rfl jnX9 tyX9_ok nmX9 (by decide) lf_RX9_174 rfl (Or.inl ⟨rfl, rfl, rfl⟩) ?_
  refine s_iconst (show decode (am_cc m9_agrees) 171 = .ok (.iconst 0, 1) by decide +kernel) ⟨by decide, by decide⟩ ?_
  refine s_istore (show decode (am_cc m9_agrees) 172 = .ok (.istore 5, 2) by decide +kernel) (by decide) ?_
  exact k
theorem g9_agrees_174 {a1 a2 a3 a4 a5 : Int} {M : am_M} {Q : Option am_V → am_M → Prop} (k1 : M 86 15 ≤ a5 → am_AtN m9_agrees 483 [some (vr 86), some (vi a1), some (vi a2), some (vi a3), some (vi a4), some (vi a5), none, none, none, none, none, none] [] KS M Q) (k2 : ¬ (M 86 15 ≤ a5) → am_AtN m9_agrees 183 [some (vr 86), some (vi a1), some (vi a2), some (vi a3), some (vi a4), some (vi a5), none, none, none, none, none, none] [] KS M Q) : am_AtN m9_agrees 174 [some (vr 86), some (vi a1), some (vi a2), some (vi a3), some (vi a4), some (vi a5), none, none, none, none, none, none] [] KS M Q := by
  refine s_iload (show decode (am_cc m9_agrees) 174 = .ok (.iload 5, 2) by decide +kernel) rfl ?_
  refine s_aload_n (show decode (am_cc m9_agrees) 176 = .ok (.aload_n 0, 1) by decide +kernel) rfl ?_
  refine s_getf (k := 15) (v := vi (M 86 15)) (show decode (am_cc m9_agrees) 177 = .ok (.getfield 174, 3) by decide +kernel) kd86 (by decide) rfl jnX9 (by decide) lf_RX9_174 rfl ?_
  exact s_icmp_ge (tgt := 483) (show decode (am_cc m9_agrees) 180 = .ok (.if_icmp .ge 303, 3) by decide +kernel) (by decide) k1 k2
theorem g9_agrees_183 {a1 a2 a3 a4 a5 : Int} {M : am_M} {Q : Option am_V → am_M → Prop} (h1 : 0 ≤ a5) (h2 : a5 < 1296) (h3 : -2147483648 ≤ 6 * a2 ∧ 6 * a2 ≤ 2147483647) (h4 : 0 ≤ M 95 a5) (h5 : 0 ≤ (M 95 a5) / 6) (h6 : -2147483648 ≤ (6 * a2) + (((M 95 a5) / 6) % 6) ∧ (6 * a2) + (((M 95 a5) / 6) % 6) ≤ 2147483647) (h7 : 0 ≤ (6 * a2) + (((M 95 a5) / 6) % 6)) (h8 : (6 * a2) + (((M 95 a5) / 6) % 6) < 24) (h9 : -2147483648 ≤ 6 * a3 ∧ 6 * a3 ≤ 2147483647) (h10 : 0 ≤ M 95 a5) (h11 : -2147483648 ≤ (6 * a3) + ((M 95 a5) % 6) ∧ (6 * a3) + ((M 95 a5) % 6) ≤ 2147483647) (h12 : 0 ≤ (6 * a3) + ((M 95 a5) % 6)) (h13 : (6 * a3) + ((M 95 a5) % 6) < 24) (h14 : -2147483648 ≤ 6 * a1 ∧ 6 * a1 ≤ 2147483647) (h15 : 0 ≤ M 95 a5) (h16 : -2147483648 ≤ (6 * a1) + ((M 95 a5) / 36) ∧ (6 * a1) + ((M 95 a5) / 36) ≤ 2147483647) (h17 : 0 ≤ (6 * a1) + ((M 95 a5) / 36)) (h18 : (6 * a1) + ((M 95 a5) / 36) < 48) (k1 : M 88 ((6 * a1) + ((M 95 a5) / 36)) = 0 → am_AtN m9_agrees 274 [some (vr 86), some (vi a1), some (vi a2), some (vi a3), some (vi a4), some (vi a5), some (vi (M 95 a5)), some (vi (M 94 ((6 * a2) + (((M 95 a5) / 6) % 6)))), some (vi (M 94 ((6 * a3) + ((M 95 a5) % 6)))), none, none, none] [] KS M Q) (k2 : ¬ (M 88 ((6 * a1) + ((M 95 a5) / 36)) = 0) → am_AtN m9_agrees 247 [some (vr 86), some (vi a1), some (vi a2), some (vi a3), some (vi a4), some (vi a5), some (vi (M 95 a5)), some (vi (M 94 ((6 * a2) + (((M 95 a5) / 6) % 6)))), some (vi (M 94 ((6 * a3) + ((M 95 a5) % 6)))), none, none, none] [] KS M Q) : am_AtN m9_agrees 183 [some (vr 86), some (vi a1), some (vi a2), some (vi a3), some (vi a4), some (vi a5), none, none, none, none, none, none] [] KS M Q := by
  refine s_aload_n (show decode (am_cc m9_agrees) 183 = .ok (.aload_n 0, 1) by decide +kernel) rfl ?_
  refine s_getf (k := 10) (v := vr 95) (show decode (am_cc m9_agrees) 184 = .ok (.getfield 35, 3) by decide +kernel) kd86 (by decide) rfl jnX9 (by decide) lf_RX9_35 rfl ?_
  refine s_iload (show decode (am_cc m9_agrees) 187 = .ok (.iload 5, 2) by decide +kernel) rfl ?_
  refine s_iaload (show decode (am_cc m9_agrees) 189 = .ok (.iaload, 1) by decide +kernel) kd95 h1 h2 ?_
  refine s_istore (show decode (am_cc m9_agrees) 190 = .ok (.istore 6, 2) by decide +kernel) (by decide) ?_
  refine s_aload_n (show decode (am_cc m9_agrees) 192 = .ok (.aload_n 0, 1) by decide +kernel) rfl ?_
  refine s_getf (k := 9) (v := vr 94) (show decode (am_cc m9_agrees) 193 = .ok (.getfield 32, 3) by decide +kernel) kd86 (by decide) rfl jnX9 (by decide) lf_RX9_32 rfl ?_
  refine s_bipush (show decode (am_cc m9_agrees) 196 = .ok (.bipush 6, 2) by decide +kernel) ⟨by decide, by decide⟩ (by decide) ?_
  refine s_iload_n (show decode (am_cc m9_agrees) 198 = .ok (.iload_n 2, 1) by decide +kernel) rfl ?_
  refine s_imul (show decode (am_cc m9_agrees) 199 = .ok (.imul, 1) by decide +kernel) h3 ?_
  refine s_iload (show decode (am_cc m9_agrees) 200 = .ok (.iload 6, 2) by decide +kernel) rfl ?_
  refine s_bipush (show decode (am_cc m9_agrees) 202 = .ok (.bipush 6, 2) by decide +kernel) ⟨by decide, by decide⟩ (by decide) ?_
  refine s_idiv (show decode (am_cc m9_agrees) 204 = .ok (.idiv, 1) by decide +kernel) h4 (by decide) ?_
  refine s_bipush (show decode (am_cc m9_agrees) 205 = .ok (.bipush 6, 2) by decide +kernel) ⟨by decide, by decide⟩ (by decide) ?_
  refine s_irem (show decode (am_cc m9_agrees) 207 = .ok (.irem, 1) by decide +kernel) h5 (by decide) ?_
  refine s_iadd (show decode (am_cc m9_agrees) 208 = .ok (.iadd, 1) by decide +kernel) h6 ?_
  refine s_iaload (show decode (am_cc m9_agrees) 209 = .ok (.iaload, 1) by decide +kernel) kd94 h7 h8 ?_
  refine s_istore (show decode (am_cc m9_agrees) 210 = .ok (.istore 7, 2) by decide +kernel) (by decide) ?_
  refine s_aload_n (show decode (am_cc m9_agrees) 212 = .ok (.aload_n 0, 1) by decide +kernel) rfl ?_
  refine s_getf (k := 9) (v := vr 94) (show decode (am_cc m9_agrees) 213 = .ok (.getfield 32, 3) by decide +kernel) kd86 (by decide) rfl jnX9 (by decide) lf_RX9_32 rfl ?_
  refine s_bipush (show decode (am_cc m9_agrees) 216 = .ok (.bipush 6, 2) by decide +kernel) ⟨by decide, by decide⟩ (by decide) ?_
  refine s_iload_n (show decode (am_cc m9_agrees) 218 = .ok (.iload_n 3, 1) by decide +kernel) rfl ?_
  refine s_imul (show decode (am_cc m9_agrees) 219 = .ok (.imul, 1) by decide +kernel) h9 ?_
  refine s_iload (show decode (am_cc m9_agrees) 220 = .ok (.iload 6, 2) by decide +kernel) rfl ?_
  refine s_bipush (show decode (am_cc m9_agrees) 222 = .ok (.bipush 6, 2) by decide +kernel) ⟨by decide, by decide⟩ (by decide) ?_
  refine s_irem (show decode (am_cc m9_agrees) 224 = .ok (.irem, 1) by decide +kernel) h10 (by decide) ?_
  refine s_iadd (show decode (am_cc m9_agrees) 225 = .ok (.iadd, 1) by decide +kernel) h11 ?_
  refine s_iaload (show decode (am_cc m9_agrees) 226 = .ok (.iaload, 1) by decide +kernel) kd94 h12 h13 ?_
  refine s_istore (show decode (am_cc m9_agrees) 227 = .ok (.istore 8, 2) by decide +kernel) (by decide) ?_
  refine s_aload_n (show decode (am_cc m9_agrees) 229 = .ok (.aload_n 0, 1) by decide +kernel) rfl ?_
  refine s_getf (k := 3) (v := vr 88) (show decode (am_cc m9_agrees) 230 = .ok (.getfield 13, 3) by decide +kernel) kd86 (by decide) rfl jnX9 (by decide) lf_RX9_13 rfl ?_
  refine s_bipush (show decode (am_cc m9_agrees) 233 = .ok (.bipush 6, 2) by decide +kernel) ⟨by decide, by decide⟩ (by decide) ?_
  refine s_iload_n (show decode (am_cc m9_agrees) 235 = .ok (.iload_n 1, 1) by decide +kernel) rfl ?_
  refine s_imul (show decode (am_cc m9_agrees) 236 = .ok (.imul, 1) by decide +kernel) h14 ?_
  refine s_iload (show decode (am_cc m9_agrees) 237 = .ok (.iload 6, 2) by decide +kernel) rfl ?_
  refine s_bipush (show decode (am_cc m9_agrees) 239 = .ok (.bipush 36, 2) by decide +kernel) ⟨by decide, by decide⟩ (by decide) ?_
  refine s_idiv (show decode (am_cc m9_agrees) 241 = .ok (.idiv, 1) by decide +kernel) h15 (by decide) ?_
  refine s_iadd (show decode (am_cc m9_agrees) 242 = .ok (.iadd, 1) by decide +kernel) h16 ?_
  refine s_baload (show decode (am_cc m9_agrees) 243 = .ok (.baload, 1) by decide +kernel) kd88 h17 h18 ?_
  exact s_if_eq (tgt := 274) (show decode (am_cc m9_agrees) 244 = .ok (.ifCond .eq 30, 3) by decide +kernel) (by decide) k1 k2
theorem g9_agrees_247 {a1 a2 a3 a4 a5 a6 a7 a8 : Int} {M : am_M} {Q : Option am_V → am_M → Prop} (k1 : ¬ a7 = -1 → am_AtN m9_agrees 257 [some (vr 86), some (vi a1), some (vi a2), some (vi a3), some (vi a4), some (vi a5), some (vi a6), some (vi a7), some (vi a8), none, none, none] [] KS M Q) (k2 : a7 = -1 → am_AtN m9_agrees 253 [some (vr 86), some (vi a1), some (vi a2), some (vi a3), some (vi a4), some (vi a5), some (vi a6), some (vi a7), some (vi a8), none, none, none] [] KS M Q) : am_AtN m9_agrees 247 [some (vr 86), some (vi a1), some (vi a2), some (vi a3), some (vi a4), some (vi a5), some (vi a6), some (vi a7), some (vi a8), none, none, none] [] KS M Q := by
  refine s_iload (show decode (am_cc m9_agrees) 247 = .ok (.iload 7, 2) by decide +kernel) rfl ?_
  refine s_iconst (show decode (am_cc m9_agrees) 249 = .ok (.iconst (-1), 1) by decide +kernel) ⟨by decide, by decide⟩ ?_
  exact s_icmp_ne (tgt := 257) (show decode (am_cc m9_agrees) 250 = .ok (.if_icmp .ne 7, 3) by decide +kernel) (by decide) k1 k2
theorem g9_agrees_253 {a1 a2 a3 a4 a5 a6 a7 a8 : Int} {M : am_M} {Q : Option am_V → am_M → Prop} (k : am_AtN m9_agrees 258 [some (vr 86), some (vi a1), some (vi a2), some (vi a3), some (vi a4), some (vi a5), some (vi a6), some (vi a7), some (vi a8), none, none, none] [vi 1] KS M Q) : am_AtN m9_agrees 253 [some (vr 86), some (vi a1), some (vi a2), some (vi a3), some (vi a4), some (vi a5), some (vi a6), some (vi a7), some (vi a8), none, none, none] [] KS M Q := by
  refine s_iconst (show decode (am_cc m9_agrees) 253 = .ok (.iconst 1, 1) by decide +kernel) ⟨by decide, by decide⟩ ?_
  refine s_goto (tgt := 258) (show decode (am_cc m9_agrees) 254 = .ok (.goto 4, 3) by decide +kernel) (by decide) ?_
  exact k
theorem g9_agrees_257 {a1 a2 a3 a4 a5 a6 a7 a8 : Int} {M : am_M} {Q : Option am_V → am_M → Prop} (k : am_AtN m9_agrees 258 [some (vr 86), some (vi a1), some (vi a2), some (vi a3), some (vi a4), some (vi a5), some (vi a6), some (vi a7), some (vi a8), none, none, none] [vi 0] KS M Q) : am_AtN m9_agrees 257 [some (vr 86), some (vi a1), some (vi a2), some (vi a3), some (vi a4), some (vi a5), some (vi a6), some (vi a7), some (vi a8), none, none, none] [] KS M Q := by
  refine s_iconst (show decode (am_cc m9_agrees) 257 = .ok (.iconst 0, 1) by decide +kernel) ⟨by decide, by decide⟩ ?_
  exact k
theorem g9_agrees_258 {a1 a2 a3 a4 a5 a6 a7 a8 t0 : Int} {M : am_M} {Q : Option am_V → am_M → Prop} (k1 : ¬ a8 = -1 → am_AtN m9_agrees 268 [some (vr 86), some (vi a1), some (vi a2), some (vi a3), some (vi a4), some (vi a5), some (vi a6), some (vi a7), some (vi a8), none, none, none] [vi t0] KS M Q) (k2 : a8 = -1 → am_AtN m9_agrees 264 [some (vr 86), some (vi a1), some (vi a2), some (vi a3), some (vi a4), some (vi a5), some (vi a6), some (vi a7), some (vi a8), none, none, none] [vi t0] KS M Q) : am_AtN m9_agrees 258 [some (vr 86), some (vi a1), some (vi a2), some (vi a3), some (vi a4), some (vi a5), some (vi a6), some (vi a7), some (vi a8), none, none, none] [vi t0] KS M Q := by
  refine s_iload (show decode (am_cc m9_agrees) 258 = .ok (.iload 8, 2) by decide +kernel) rfl ?_
  refine s_iconst (show decode (am_cc m9_agrees) 260 = .ok (.iconst (-1), 1) by decide +kernel) ⟨by decide, by decide⟩ ?_
  exact s_icmp_ne (tgt := 268) (show decode (am_cc m9_agrees) 261 = .ok (.if_icmp .ne 7, 3) by decide +kernel) (by decide) k1 k2
theorem g9_agrees_264 {a1 a2 a3 a4 a5 a6 a7 a8 t0 : Int} {M : am_M} {Q : Option am_V → am_M → Prop} (k : am_AtN m9_agrees 269 [some (vr 86), some (vi a1), some (vi a2), some (vi a3), some (vi a4), some (vi a5), some (vi a6), some (vi a7), some (vi a8), none, none, none] [vi 1, vi t0] KS M Q) : am_AtN m9_agrees 264 [some (vr 86), some (vi a1), some (vi a2), some (vi a3), some (vi a4), some (vi a5), some (vi a6), some (vi a7), some (vi a8), none, none, none] [vi t0] KS M Q := by
  refine s_iconst (show decode (am_cc m9_agrees) 264 = .ok (.iconst 1, 1) by decide +kernel) ⟨by decide, by decide⟩ ?_
  refine s_goto (tgt := 269) (show decode (am_cc m9_agrees) 265 = .ok (.goto 4, 3) by decide +kernel) (by decide) ?_
  exact k
theorem g9_agrees_268 {a1 a2 a3 a4 a5 a6 a7 a8 t0 : Int} {M : am_M} {Q : Option am_V → am_M → Prop} (k : am_AtN m9_agrees 269 [some (vr 86), some (vi a1), some (vi a2), some (vi a3), some (vi a4), some (vi a5), some (vi a6), some (vi a7), some (vi a8), none, none, none] [vi 0, vi t0] KS M Q) : am_AtN m9_agrees 268 [some (vr 86), some (vi a1), some (vi a2), some (vi a3), some (vi a4), some (vi a5), some (vi a6), some (vi a7), some (vi a8), none, none, none] [vi t0] KS M Q := by
  refine s_iconst (show decode (am_cc m9_agrees) 268 = .ok (.iconst 0, 1) by decide +kernel) ⟨by decide, by decide⟩ ?_
  exact k
theorem g9_agrees_269 {a1 a2 a3 a4 a5 a6 a7 a8 t0 t1 : Int} {M : am_M} {Q : Option am_V → am_M → Prop} (k1 : t0 = t1 → am_AtN m9_agrees 274 [some (vr 86), some (vi a1), some (vi a2), some (vi a3), some (vi a4), some (vi a5), some (vi a6), some (vi a7), some (vi a8), none, none, none] [] KS M Q) (k2 : ¬ (t0 = t1) → am_AtN m9_agrees 272 [some (vr 86), some (vi a1), some (vi a2), some (vi a3), some (vi a4), some (vi a5), some (vi a6), some (vi a7), some (vi a8), none, none, none] [] KS M Q) : am_AtN m9_agrees 269 [some (vr 86), some (vi a1), some (vi a2), some (vi a3), some (vi a4), some (vi a5), some (vi a6), some (vi a7), some (vi a8), none, none, none] [vi t1, vi t0] KS M Q := by
  exact s_icmp_eq (tgt := 274) (show decode (am_cc m9_agrees) 269 = .ok (.if_icmp .eq 5, 3) by decide +kernel) (by decide) k1 k2
theorem g9_agrees_272 {a1 a2 a3 a4 a5 a6 a7 a8 : Int} {M : am_M} {Q : Option am_V → am_M → Prop} (k : Q (some (vi 0)) M) : am_AtN m9_agrees 272 [some (vr 86), some (vi a1), some (vi a2), some (vi a3), some (vi a4), some (vi a5), some (vi a6), some (vi a7), some (vi a8), none, none, none] [] KS M Q := by
  refine s_iconst (show decode (am_cc m9_agrees) 272 = .ok (.iconst 0, 1) by decide +kernel) ⟨by decide, by decide⟩ ?_
  exact s_zreturn (show decode (am_cc m9_agrees) 273 = .ok (.ireturn, 1) by decide +kernel) rfl (by decide) k
theorem g9_agrees_274 {a1 a2 a3 a4 a5 a6 a7 a8 : Int} {M : am_M} {Q : Option am_V → am_M → Prop} (k : am_CallN m9_writeBoth [vr 86, vi a6, vi a1, vi a2, vi a3] KS M (fun r M' => am_AtN m9_agrees 283 [some (vr 86), some (vi a1), some (vi a2), some (vi a3), some (vi a4), some (vi a5), some (vi a6), some (vi a7), some (vi a8), none, none, none] (r.toList ++ []) KS M' Q)) : am_AtN m9_agrees 274 [some (vr 86), some (vi a1), some (vi a2), some (vi a3), some (vi a4), some (vi a5), some (vi a6), some (vi a7), some (vi a8), none, none, none] [] KS M Q := by
  refine s_aload_n (show decode (am_cc m9_agrees) 274 = .ok (.aload_n 0, 1) by decide +kernel) rfl ?_
  refine s_iload (show decode (am_cc m9_agrees) 275 = .ok (.iload 6, 2) by decide +kernel) rfl ?_
  refine s_iload_n (show decode (am_cc m9_agrees) 277 = .ok (.iload_n 1, 1) by decide +kernel) rfl ?_
  refine s_iload_n (show decode (am_cc m9_agrees) 278 = .ok (.iload_n 2, 1) by decide +kernel) rfl ?_
  refine s_iload_n (show decode (am_cc m9_agrees) 279 = .ok (.iload_n 3, 1) by decide +kernel) rfl ?_
  exact n_callV (as := [vi a6, vi a1, vi a2, vi a3]) (stk := []) (show decode (am_cc m9_agrees) 280 = .ok (.invokevirtual 210, 3) by decide +kernel) lk_RX9_210 kd86 (by decide) rfl rfl (by decide) (Nat.le_of_ble_eq_true rfl) ⟨rfl, rfl⟩ k
theorem g9_agrees_283 {a1 a2 a3 a4 a5 a6 a7 a8 t0 : Int} {M : am_M} {Q : Option am_V → am_M → Prop} (k1 : t0 = 0 → am_AtN m9_agrees 316 [some (vr 86), some (vi a1), some (vi a2), some (vi a3), some (vi a4), some (vi a5), some (vi a6), some (vi a7), some (vi a8), none, none, none] [] KS M Q) (k2 : ¬ (t0 = 0) → am_AtN m9_agrees 286 [some (vr 86), some (vi a1), some (vi a2), some (vi a3), some (vi a4), some (vi a5), some (vi a6), some (vi a7), some (vi a8), none, none, none] [] KS M Q) : am_AtN m9_agrees 283 [some (vr 86), some (vi a1), some (vi a2), some (vi a3), some (vi a4), some (vi a5), some (vi a6), some (vi a7), some (vi a8), none, none, none] [vi t0] KS M Q := by
  exact s_if_eq (tgt := 316) (show decode (am_cc m9_agrees) 283 = .ok (.ifCond .eq 33, 3) by decide +kernel) (by decide) k1 k2
theorem g9_agrees_286 {a1 a2 a3 a4 a5 a6 a7 a8 : Int} {M : am_M} {Q : Option am_V → am_M → Prop} (k : am_CallN m9_put [vr 86, vi a6, vi a7, vi a8] KS M (fun r M' => am_AtN m9_agrees 296 [some (vr 86), some (vi a1), some (vi a2), some (vi a3), some (vi a4), some (vi a5), some (vi a6), some (vi a7), some (vi a8), none, none, none] (r.toList ++ []) KS M' Q)) : am_AtN m9_agrees 286 [some (vr 86), some (vi a1), some (vi a2), some (vi a3), some (vi a4), some (vi a5), some (vi a6), some (vi a7), some (vi a8), none, none, none] [] KS M Q := by
  refine s_aload_n (show decode (am_cc m9_agrees) 286 = .ok (.aload_n 0, 1) by decide +kernel) rfl ?_
  refine s_iload (show decode (am_cc m9_agrees) 287 = .ok (.iload 6, 2) by decide +kernel) rfl ?_
  refine s_iload (show decode (am_cc m9_agrees) 289 = .ok (.iload 7, 2) by decide +kernel) rfl ?_
  refine s_iload (show decode (am_cc m9_agrees) 291 = .ok (.iload 8, 2) by decide +kernel) rfl ?_
  exact n_callV (as := [vi a6, vi a7, vi a8]) (stk := []) (show decode (am_cc m9_agrees) 293 = .ok (.invokevirtual 217, 3) by decide +kernel) lk_RX9_217 kd86 (by decide) rfl rfl (by decide) (Nat.le_of_ble_eq_true rfl) ⟨rfl, rfl⟩ k
theorem g9_agrees_296 {a1 a2 a3 a4 a5 a6 a7 a8 : Int} {M : am_M} {Q : Option am_V → am_M → Prop} (k1 : ¬ M 86 27 = M 86 28 → am_AtN m9_agrees 314 [some (vr 86), some (vi a1), some (vi a2), some (vi a3), some (vi a4), some (vi a5), some (vi a6), some (vi a7), some (vi a8), none, none, none] [] KS M Q) (k2 : M 86 27 = M 86 28 → am_AtN m9_agrees 307 [some (vr 86), some (vi a1), some (vi a2), some (vi a3), some (vi a4), some (vi a5), some (vi a6), some (vi a7), some (vi a8), none, none, none] [] KS M Q) : am_AtN m9_agrees 296 [some (vr 86), some (vi a1), some (vi a2), some (vi a3), some (vi a4), some (vi a5), some (vi a6), some (vi a7), some (vi a8), none, none, none] [] KS M Q := by
  refine s_aload_n (show decode (am_cc m9_agrees) 296 = .ok (.aload_n 0, 1) by decide +kernel) rfl ?_
  refine s_getf (k := 27) (v := vi (M 86 27)) (show decode (am_cc m9_agrees) 297 = .ok (.getfield 204, 3) by decide +kernel) kd86 (by decide) rfl jnX9 (by decide) lf_RX9_204 rfl ?_
  refine s_aload_n (show decode (am_cc m9_agrees) 300 = .ok (.aload_n 0, 1) by decide +kernel) rfl ?_
  refine s_getf (k := 28) (v := vi (M 86 28)) (show decode (am_cc m9_agrees) 301 = .ok (.getfield 207, 3) by decide +kernel) kd86 (by decide) rfl jnX9 (by decide) lf_RX9_207 rfl ?_
  exact s_icmp_ne (tgt := 314) (show decode (am_cc m9_agrees) 304 = .ok (.if_icmp .ne 10, 3) by decide +kernel) (by decide) k1 k2
theorem g9_agrees_307 {a1 a2 a3 a4 a5 a6 a7 a8 : Int} {M : am_M} {Q : Option am_V → am_M → Prop} (k : am_CallN m9_begins [vr 86] KS M (fun r M' => am_AtN m9_agrees 311 [some (vr 86), some (vi a1), some (vi a2), some (vi a3), some (vi a4), some (vi a5), some (vi a6), some (vi a7), some (vi a8), none, none, none] (r.toList ++ []) KS M' Q)) : am_AtN m9_agrees 307 [some (vr 86), some (vi a1), some (vi a2), some (vi a3), some (vi a4), some (vi a5), some (vi a6), some (vi a7), some (vi a8), none, none, none] [] KS M Q := by
  refine s_aload_n (show decode (am_cc m9_agrees) 307 = .ok (.aload_n 0, 1) by decide +kernel) rfl ?_
  exact n_callV (as := []) (stk := []) (show decode (am_cc m9_agrees) 308 = .ok (.invokevirtual 220, 3) by decide +kernel) lk_RX9_220 kd86 (by decide) rfl rfl (by decide) (Nat.le_of_ble_eq_true rfl) ⟨rfl, rfl⟩ k
theorem g9_agrees_311 {a1 a2 a3 a4 a5 a6 a7 a8 t0 : Int} {M : am_M} {Q : Option am_V → am_M → Prop} (k1 : ¬ t0 = 0 → am_AtN m9_agrees 316 [some (vr 86), some (vi a1), some (vi a2), some (vi a3), some (vi a4), some (vi a5), some (vi a6), some (vi a7), some (vi a8), none, none, none] [] KS M Q) (k2 : t0 = 0 → am_AtN m9_agrees 314 [some (vr 86), some (vi a1), some (vi a2), some (vi a3), some (vi a4), some (vi a5), some (vi a6), some (vi a7), some (vi a8), none, none, none] [] KS M Q) : am_AtN m9_agrees 311 [some (vr 86), some (vi a1), some (vi a2), some (vi a3), some (vi a4), some (vi a5), some (vi a6), some (vi a7), some (vi a8), none, none, none] [vi t0] KS M Q := by
  exact s_if_ne (tgt := 316) (show decode (am_cc m9_agrees) 311 = .ok (.ifCond .ne 5, 3) by decide +kernel) (by decide) k1 k2
theorem g9_agrees_314 {a1 a2 a3 a4 a5 a6 a7 a8 : Int} {M : am_M} {Q : Option am_V → am_M → Prop} (k : Q (some (vi 0)) M) : am_AtN m9_agrees 314 [some (vr 86), some (vi a1), some (vi a2), some (vi a3), some (vi a4), some (vi a5), some (vi a6), some (vi a7), some (vi a8), none, none, none] [] KS M Q := by
  refine s_iconst (show decode (am_cc m9_agrees) 314 = .ok (.iconst 0, 1) by decide +kernel) ⟨by decide, by decide⟩ ?_
  exact s_zreturn (show decode (am_cc m9_agrees) 315 = .ok (.ireturn, 1) by decide +kernel) rfl (by decide) k
theorem g9_agrees_316 {a1 a2 a3 a4 a5 a6 a7 a8 : Int} {M : am_M} {Q : Option am_V → am_M → Prop} (k : am_AtN m9_agrees 319 [some (vr 86), some (vi a1), some (vi a2), some (vi a3), some (vi a4), some (vi a5), some (vi a6), some (vi a7), some (vi a8), some (vi 0), none, none] [] KS M Q) : am_AtN m9_agrees 316 [some (vr 86), some (vi a1), some (vi a2), some (vi a3), some (vi a4), some (vi a5), some (vi a6), some (vi a7), some (vi a8), none, none, none] [] KS M Q := by
  refine s_iconst (show decode (am_cc m9_agrees) 316 = .ok (.iconst 0, 1) by decide +kernel) ⟨by decide, by decide⟩ ?_
  refine s_istore (show decode (am_cc m9_agrees) 317 = .ok (.istore 9, 2) by decide +kernel) (by decide) ?_
  exact k
theorem g9_agrees_319 {a1 a2 a3 a4 a5 a6 a7 a8 a9 : Int} {M : am_M} {Q : Option am_V → am_M → Prop} (k1 : M 86 1 ≤ a9 → am_AtN m9_agrees 477 [some (vr 86), some (vi a1), some (vi a2), some (vi a3), some (vi a4), some (vi a5), some (vi a6), some (vi a7), some (vi a8), some (vi a9), none, none] [] KS M Q) (k2 : ¬ (M 86 1 ≤ a9) → am_AtN m9_agrees 328 [some (vr 86), some (vi a1), some (vi a2), some (vi a3), some (vi a4), some (vi a5), some (vi a6), some (vi a7), some (vi a8), some (vi a9), none, none] [] KS M Q) : am_AtN m9_agrees 319 [some (vr 86), some (vi a1), some (vi a2), some (vi a3), some (vi a4), some (vi a5), some (vi a6), some (vi a7), some (vi a8), some (vi a9), none, none] [] KS M Q := by
  refine s_iload (show decode (am_cc m9_agrees) 319 = .ok (.iload 9, 2) by decide +kernel) rfl ?_
  refine s_aload_n (show decode (am_cc m9_agrees) 321 = .ok (.aload_n 0, 1) by decide +kernel) rfl ?_
  refine s_getf (k := 1) (v := vi (M 86 1)) (show decode (am_cc m9_agrees) 322 = .ok (.getfield 99, 3) by decide +kernel) kd86 (by decide) rfl jnX9 (by decide) lf_RX9_99 rfl ?_
  exact s_icmp_ge (tgt := 477) (show decode (am_cc m9_agrees) 325 = .ok (.if_icmp .ge 152, 3) by decide +kernel) (by decide) k1 k2
theorem g9_agrees_328 {a1 a2 a3 a4 a5 a6 a7 a8 a9 : Int} {M : am_M} {Q : Option am_V → am_M → Prop} (k : am_CallN m9_pair [vr 86, vi a6, vi a9, vi a1, vi a2, vi a3] KS M (fun r M' => am_AtN m9_agrees 339 [some (vr 86), some (vi a1), some (vi a2), some (vi a3), some (vi a4), some (vi a5), some (vi a6), some (vi a7), some (vi a8), some (vi a9), none, none] (r.toList ++ []) KS M' Q)) : am_AtN m9_agrees 328 [some (vr 86), some (vi a1), some (vi a2), some (vi a3), some (vi a4), some (vi a5), some (vi a6), some (vi a7), some (vi a8), some (vi a9), none, none] [] KS M Q := by
  refine s_aload_n (show decode (am_cc m9_agrees) 328 = .ok (.aload_n 0, 1) by decide +kernel) rfl ?_
  refine s_iload (show decode (am_cc m9_agrees) 329 = .ok (.iload 6, 2) by decide +kernel) rfl ?_
  refine s_iload (show decode (am_cc m9_agrees) 331 = .ok (.iload 9, 2) by decide +kernel) rfl ?_
  refine s_iload_n (show decode (am_cc m9_agrees) 333 = .ok (.iload_n 1, 1) by decide +kernel) rfl ?_
  refine s_iload_n (show decode (am_cc m9_agrees) 334 = .ok (.iload_n 2, 1) by decide +kernel) rfl ?_
  refine s_iload_n (show decode (am_cc m9_agrees) 335 = .ok (.iload_n 3, 1) by decide +kernel) rfl ?_
  exact n_callV (as := [vi a6, vi a9, vi a1, vi a2, vi a3]) (stk := []) (show decode (am_cc m9_agrees) 336 = .ok (.invokevirtual 213, 3) by decide +kernel) lk_RX9_213 kd86 (by decide) rfl rfl (by decide) (Nat.le_of_ble_eq_true rfl) ⟨rfl, rfl⟩ k
theorem g9_agrees_339 {a1 a2 a3 a4 a5 a6 a7 a8 a9 t0 : Int} {M : am_M} {Q : Option am_V → am_M → Prop} (h1 : 0 ≤ t0) (h2 : t0 < 1296) (k1 : ¬ M 98 t0 = 0 → am_AtN m9_agrees 355 [some (vr 86), some (vi a1), some (vi a2), some (vi a3), some (vi a4), some (vi a5), some (vi a6), some (vi a7), some (vi a8), some (vi a9), some (vi t0), none] [] KS M Q) (k2 : M 98 t0 = 0 → am_AtN m9_agrees 351 [some (vr 86), some (vi a1), some (vi a2), some (vi a3), some (vi a4), some (vi a5), some (vi a6), some (vi a7), some (vi a8), some (vi a9), some (vi t0), none] [] KS M Q) : am_AtN m9_agrees 339 [some (vr 86), some (vi a1), some (vi a2), some (vi a3), some (vi a4), some (vi a5), some (vi a6), some (vi a7), some (vi a8), some (vi a9), none, none] [vi t0] KS M Q := by
  refine s_istore (show decode (am_cc m9_agrees) 339 = .ok (.istore 10, 2) by decide +kernel) (by decide) ?_
  refine s_aload_n (show decode (am_cc m9_agrees) 341 = .ok (.aload_n 0, 1) by decide +kernel) rfl ?_
  refine s_getf (k := 13) (v := vr 98) (show decode (am_cc m9_agrees) 342 = .ok (.getfield 44, 3) by decide +kernel) kd86 (by decide) rfl jnX9 (by decide) lf_RX9_44 rfl ?_
  refine s_iload (show decode (am_cc m9_agrees) 345 = .ok (.iload 10, 2) by decide +kernel) rfl ?_
  refine s_baload (show decode (am_cc m9_agrees) 347 = .ok (.baload, 1) by decide +kernel) kd98 h1 h2 ?_
  exact s_if_ne (tgt := 355) (show decode (am_cc m9_agrees) 348 = .ok (.ifCond .ne 7, 3) by decide +kernel) (by decide) k1 k2
theorem g9_agrees_351 {a1 a2 a3 a4 a5 a6 a7 a8 a9 a10 : Int} {M : am_M} {Q : Option am_V → am_M → Prop} (k : am_AtN m9_agrees 356 [some (vr 86), some (vi a1), some (vi a2), some (vi a3), some (vi a4), some (vi a5), some (vi a6), some (vi a7), some (vi a8), some (vi a9), some (vi a10), none] [vi 1] KS M Q) : am_AtN m9_agrees 351 [some (vr 86), some (vi a1), some (vi a2), some (vi a3), some (vi a4), some (vi a5), some (vi a6), some (vi a7), some (vi a8), some (vi a9), some (vi a10), none] [] KS M Q := by
  refine s_iconst (show decode (am_cc m9_agrees) 351 = .ok (.iconst 1, 1) by decide +kernel) ⟨by decide, by decide⟩ ?_
  refine s_goto (tgt := 356) (show decode (am_cc m9_agrees) 352 = .ok (.goto 4, 3) by decide +kernel) (by decide) ?_
  exact k
theorem g9_agrees_355 {a1 a2 a3 a4 a5 a6 a7 a8 a9 a10 : Int} {M : am_M} {Q : Option am_V → am_M → Prop} (k : am_AtN m9_agrees 356 [some (vr 86), some (vi a1), some (vi a2), some (vi a3), some (vi a4), some (vi a5), some (vi a6), some (vi a7), some (vi a8), some (vi a9), some (vi a10), none] [vi 0] KS M Q) : am_AtN m9_agrees 355 [some (vr 86), some (vi a1), some (vi a2), some (vi a3), some (vi a4), some (vi a5), some (vi a6), some (vi a7), some (vi a8), some (vi a9), some (vi a10), none] [] KS M Q := by
  refine s_iconst (show decode (am_cc m9_agrees) 355 = .ok (.iconst 0, 1) by decide +kernel) ⟨by decide, by decide⟩ ?_
  exact k
theorem g9_agrees_356 {a1 a2 a3 a4 a5 a6 a7 a8 a9 a10 t0 : Int} {M : am_M} {Q : Option am_V → am_M → Prop} (k1 : t0 = 0 → am_AtN m9_agrees 392 [some (vr 86), some (vi a1), some (vi a2), some (vi a3), some (vi a4), some (vi a5), some (vi a6), some (vi a7), some (vi a8), some (vi a9), some (vi a10), some (vi t0)] [] KS M Q) (k2 : ¬ (t0 = 0) → am_AtN m9_agrees 363 [some (vr 86), some (vi a1), some (vi a2), some (vi a3), some (vi a4), some (vi a5), some (vi a6), some (vi a7), some (vi a8), some (vi a9), some (vi a10), some (vi t0)] [] KS M Q) : am_AtN m9_agrees 356 [some (vr 86), some (vi a1), some (vi a2), some (vi a3), some (vi a4), some (vi a5), some (vi a6), some (vi a7), some (vi a8), some (vi a9), some (vi a10), none] [vi t0] KS M Q := by
  refine s_istore (show decode (am_cc m9_agrees) 356 = .ok (.istore 11, 2) by decide +kernel) (by decide) ?_
  refine s_iload (show decode (am_cc m9_agrees) 358 = .ok (.iload 11, 2) by decide +kernel) rfl ?_
  exact s_if_eq (tgt := 392) (show decode (am_cc m9_agrees) 360 = .ok (.ifCond .eq 32, 3) by decide +kernel) (by decide) k1 k2
theorem g9_agrees_363 {a1 a2 a3 a4 a5 a6 a7 a8 a9 a10 a11 : Int} {M : am_M} {Q : Option am_V → am_M → Prop} (h1 : 0 ≤ a10) (h2 : a10 < 1296) (h3 : 0 ≤ (am_up M 98 a10 1) 86 15) (h4 : (am_up M 98 a10 1) 86 15 < 1296) (h5 : -2147483648 ≤ ((am_up (am_up M 98 a10 1) 95 ((am_up M 98 a10 1) 86 15) a10) 86 15) + 1 ∧ ((am_up (am_up M 98 a10 1) 95 ((am_up M 98 a10 1) 86 15) a10) 86 15) + 1 ≤ 2147483647) (k : am_AtN m9_agrees 392 [some (vr 86), some (vi a1), some (vi a2), some (vi a3), some (vi a4), some (vi a5), some (vi a6), some (vi a7), some (vi a8), some (vi a9), some (vi a10), some (vi a11)] [] KS (am_up (am_up (am_up M 98 a10 1) 95 ((am_up M 98 a10 1) 86 15) a10) 86 15 (((am_up (am_up M 98 a10 1) 95 ((am_up M 98 a10 1) 86 15) a10) 86 15) + 1)) Q) : am_AtN m9_agrees 363 [some (vr 86), some (vi a1), some (vi a2), some (vi a3), some (vi a4), some (vi a5), some (vi a6), some (vi a7), some (vi a8), some (vi a9), some (vi a10), some (vi a11)] [] KS M Q := by
  refine s_aload_n (show decode (am_cc m9_agrees) 363 = .ok (.aload_n 0, 1) by decide +kernel) rfl ?_
  refine s_getf (k := 13) (v := vr 98) (show decode (am_cc m9_agrees) 364 = .ok (.getfield 44, 3) by decide +kernel) kd86 (by decide) rfl jnX9 (by decide) lf_RX9_44 rfl ?_
  refine s_iload (show decode (am_cc m9_agrees) 367 = .ok (.iload 10, 2) by decide +kernel) rfl ?_
  refine s_iconst (show decode (am_cc m9_agrees) 369 = .ok (.iconst 1, 1) by decide +kernel) ⟨by decide, by decide⟩ ?_
  refine s_bastore (show decode (am_cc m9_agrees) 370 = .ok (.bastore, 1) by decide +kernel) kd98 h1 h2 (by decide) ?_
  refine s_aload_n (show decode (am_cc m9_agrees) 371 = .ok (.aload_n 0, 1) by decide +kernel) rfl ?_
  refine s_getf (k := 10) (v := vr 95) (show decode (am_cc m9_agrees) 372 = .ok (.getfield 35, 3) by decide +kernel) kd86 (by decide) rfl jnX9 (by decide) lf_RX9_35 rfl ?_
  refine s_aload_n (show decode (am_cc m9_agrees) 375 = .ok (.aload_n 0, 1) by decide +kernel) rfl ?_
  refine s_getf (k := 15) (v := vi ((am_up M 98 a10 1) 86 15)) (show decode (am_cc m9_agrees) 376 = .ok (.getfield 174, 3) by decide +kernel) kd86 (by decide) rfl jnX9 (by decide) lf_RX9_174 rfl ?_
  refine s_iload (show decode (am_cc m9_agrees) 379 = .ok (.iload 10, 2) by decide +kernel) rfl ?_
  refine s_iastore (show decode (am_cc m9_agrees) 381 = .ok (.iastore, 1) by decide +kernel) kd95 h3 h4 ?_
  refine s_aload_n (show decode (am_cc m9_agrees) 382 = .ok (.aload_n 0, 1) by decide +kernel) rfl ?_
  refine s_dupr (show decode (am_cc m9_agrees) 383 = .ok (.dup, 1) by decide +kernel) ?_
  refine s_getf (k := 15) (v := vi ((am_up (am_up M 98 a10 1) 95 ((am_up M 98 a10 1) 86 15) a10) 86 15)) (show decode (am_cc m9_agrees) 384 = .ok (.getfield 174, 3) by decide +kernel) kd86 (by decide) rfl jnX9 (by decide) lf_RX9_174 rfl ?_
  refine s_iconst (show decode (am_cc m9_agrees) 387 = .ok (.iconst 1, 1) by decide +kernel) ⟨by decide, by decide⟩ ?_
  refine s_iadd (show decode (am_cc m9_agrees) 388 = .ok (.iadd, 1) by decide +kernel) h5 ?_
  refine s_putf (k := 15) (x := ((am_up (am_up M 98 a10 1) 95 ((am_up M 98 a10 1) 86 15) a10) 86 15) + 1) (ty0 := tyX9) (show decode (am_cc m9_agrees) 389 = .ok (.putfield 174, 3) by decide +kernel) kd86 (by decide) rfl jnX9 tyX9_ok nmX9 (by decide) lf_RX9_174 rfl (Or.inl ⟨rfl, rfl, rfl⟩) ?_
  exact k
theorem g9_agrees_392 {a1 a2 a3 a4 a5 a6 a7 a8 a9 a10 a11 : Int} {M : am_M} {Q : Option am_V → am_M → Prop} (h1 : 0 ≤ a10) (h2 : a10 < 216) (k1 : M 105 a10 = 0 → am_AtN m9_agrees 471 [some (vr 86), some (vi a1), some (vi a2), some (vi a3), some (vi a4), some (vi a5), some (vi a6), some (vi a7), some (vi a8), some (vi a9), some (vi a10), some (vi a11)] [] KS M Q) (k2 : ¬ (M 105 a10 = 0) → am_AtN m9_agrees 402 [some (vr 86), some (vi a1), some (vi a2), some (vi a3), some (vi a4), some (vi a5), some (vi a6), some (vi a7), some (vi a8), some (vi a9), some (vi a10), some (vi a11)] [] KS M Q) : am_AtN m9_agrees 392 [some (vr 86), some (vi a1), some (vi a2), some (vi a3), some (vi a4), some (vi a5), some (vi a6), some (vi a7), some (vi a8), some (vi a9), some (vi a10), some (vi a11)] [] KS M Q := by
  refine s_aload_n (show decode (am_cc m9_agrees) 392 = .ok (.aload_n 0, 1) by decide +kernel) rfl ?_
  refine s_getf (k := 24) (v := vr 105) (show decode (am_cc m9_agrees) 393 = .ok (.getfield 66, 3) by decide +kernel) kd86 (by decide) rfl jnX9 (by decide) lf_RX9_66 rfl ?_
  refine s_iload (show decode (am_cc m9_agrees) 396 = .ok (.iload 10, 2) by decide +kernel) rfl ?_
  refine s_baload (show decode (am_cc m9_agrees) 398 = .ok (.baload, 1) by decide +kernel) kd105 h1 h2 ?_
  exact s_if_eq (tgt := 471) (show decode (am_cc m9_agrees) 399 = .ok (.ifCond .eq 72, 3) by decide +kernel) (by decide) k1 k2
theorem g9_agrees_402 {a1 a2 a3 a4 a5 a6 a7 a8 a9 a10 a11 : Int} {M : am_M} {Q : Option am_V → am_M → Prop} (h1 : -2147483648 ≤ 24 * a2 ∧ 24 * a2 ≤ 2147483647) (h2 : 0 ≤ a6) (h3 : 0 ≤ a6 / 6) (h4 : -2147483648 ≤ 4 * ((a6 / 6) % 6) ∧ 4 * ((a6 / 6) % 6) ≤ 2147483647) (h5 : -2147483648 ≤ (24 * a2) + (4 * ((a6 / 6) % 6)) ∧ (24 * a2) + (4 * ((a6 / 6) % 6)) ≤ 2147483647) (h6 : -2147483648 ≤ ((24 * a2) + (4 * ((a6 / 6) % 6))) + a9 ∧ ((24 * a2) + (4 * ((a6 / 6) % 6))) + a9 ≤ 2147483647) (h7 : 0 ≤ ((24 * a2) + (4 * ((a6 / 6) % 6))) + a9) (h8 : ((24 * a2) + (4 * ((a6 / 6) % 6))) + a9 < 96) (h9 : -2147483648 ≤ 24 * a3 ∧ 24 * a3 ≤ 2147483647) (h10 : 0 ≤ a6) (h11 : -2147483648 ≤ 4 * (a6 % 6) ∧ 4 * (a6 % 6) ≤ 2147483647) (h12 : -2147483648 ≤ (24 * a3) + (4 * (a6 % 6)) ∧ (24 * a3) + (4 * (a6 % 6)) ≤ 2147483647) (h13 : -2147483648 ≤ ((24 * a3) + (4 * (a6 % 6))) + a9 ∧ ((24 * a3) + (4 * (a6 % 6))) + a9 ≤ 2147483647) (h14 : 0 ≤ ((24 * a3) + (4 * (a6 % 6))) + a9) (h15 : ((24 * a3) + (4 * (a6 % 6))) + a9 < 96) (k : am_CallN m9_put [vr 86, vi a6, vi (M 93 (((24 * a2) + (4 * ((a6 / 6) % 6))) + a9)), vi (M 93 (((24 * a3) + (4 * (a6 % 6))) + a9))] KS M (fun r M' => am_AtN m9_agrees 451 [some (vr 86), some (vi a1), some (vi a2), some (vi a3), some (vi a4), some (vi a5), some (vi a6), some (vi a7), some (vi a8), some (vi a9), some (vi a10), some (vi a11)] (r.toList ++ []) KS M' Q)) : am_AtN m9_agrees 402 [some (vr 86), some (vi a1), some (vi a2), some (vi a3), some (vi a4), some (vi a5), some (vi a6), some (vi a7), some (vi a8), some (vi a9), some (vi a10), some (vi a11)] [] KS M Q := by
  refine s_aload_n (show decode (am_cc m9_agrees) 402 = .ok (.aload_n 0, 1) by decide +kernel) rfl ?_
  refine s_iload (show decode (am_cc m9_agrees) 403 = .ok (.iload 6, 2) by decide +kernel) rfl ?_
  refine s_aload_n (show decode (am_cc m9_agrees) 405 = .ok (.aload_n 0, 1) by decide +kernel) rfl ?_
  refine s_getf (k := 8) (v := vr 93) (show decode (am_cc m9_agrees) 406 = .ok (.getfield 29, 3) by decide +kernel) kd86 (by decide) rfl jnX9 (by decide) lf_RX9_29 rfl ?_
  refine s_bipush (show decode (am_cc m9_agrees) 409 = .ok (.bipush 24, 2) by decide +kernel) ⟨by decide, by decide⟩ (by decide) ?_
  refine s_iload_n (show decode (am_cc m9_agrees) 411 = .ok (.iload_n 2, 1) by decide +kernel) rfl ?_
  refine s_imul (show decode (am_cc m9_agrees) 412 = .ok (.imul, 1) by decide +kernel) h1 ?_
  refine s_iconst (show decode (am_cc m9_agrees) 413 = .ok (.iconst 4, 1) by decide +kernel) ⟨by decide, by decide⟩ ?_
  refine s_iload (show decode (am_cc m9_agrees) 414 = .ok (.iload 6, 2) by decide +kernel) rfl ?_
  refine s_bipush (show decode (am_cc m9_agrees) 416 = .ok (.bipush 6, 2) by decide +kernel) ⟨by decide, by decide⟩ (by decide) ?_
  refine s_idiv (show decode (am_cc m9_agrees) 418 = .ok (.idiv, 1) by decide +kernel) h2 (by decide) ?_
  refine s_bipush (show decode (am_cc m9_agrees) 419 = .ok (.bipush 6, 2) by decide +kernel) ⟨by decide, by decide⟩ (by decide) ?_
  refine s_irem (show decode (am_cc m9_agrees) 421 = .ok (.irem, 1) by decide +kernel) h3 (by decide) ?_
  refine s_imul (show decode (am_cc m9_agrees) 422 = .ok (.imul, 1) by decide +kernel) h4 ?_
  refine s_iadd (show decode (am_cc m9_agrees) 423 = .ok (.iadd, 1) by decide +kernel) h5 ?_
  refine s_iload (show decode (am_cc m9_agrees) 424 = .ok (.iload 9, 2) by decide +kernel) rfl ?_
  refine s_iadd (show decode (am_cc m9_agrees) 426 = .ok (.iadd, 1) by decide +kernel) h6 ?_
  refine s_iaload (show decode (am_cc m9_agrees) 427 = .ok (.iaload, 1) by decide +kernel) kd93 h7 h8 ?_
  refine s_aload_n (show decode (am_cc m9_agrees) 428 = .ok (.aload_n 0, 1) by decide +kernel) rfl ?_
  refine s_getf (k := 8) (v := vr 93) (show decode (am_cc m9_agrees) 429 = .ok (.getfield 29, 3) by decide +kernel) kd86 (by decide) rfl jnX9 (by decide) lf_RX9_29 rfl ?_
  refine s_bipush (show decode (am_cc m9_agrees) 432 = .ok (.bipush 24, 2) by decide +kernel) ⟨by decide, by decide⟩ (by decide) ?_
  refine s_iload_n (show decode (am_cc m9_agrees) 434 = .ok (.iload_n 3, 1) by decide +kernel) rfl ?_
  refine s_imul (show decode (am_cc m9_agrees) 435 = .ok (.imul, 1) by decide +kernel) h9 ?_
  refine s_iconst (show decode (am_cc m9_agrees) 436 = .ok (.iconst 4, 1) by decide +kernel) ⟨by decide, by decide⟩ ?_
  refine s_iload (show decode (am_cc m9_agrees) 437 = .ok (.iload 6, 2) by decide +kernel) rfl ?_
  refine s_bipush (show decode (am_cc m9_agrees) 439 = .ok (.bipush 6, 2) by decide +kernel) ⟨by decide, by decide⟩ (by decide) ?_
  refine s_irem (show decode (am_cc m9_agrees) 441 = .ok (.irem, 1) by decide +kernel) h10 (by decide) ?_
  refine s_imul (show decode (am_cc m9_agrees) 442 = .ok (.imul, 1) by decide +kernel) h11 ?_
  refine s_iadd (show decode (am_cc m9_agrees) 443 = .ok (.iadd, 1) by decide +kernel) h12 ?_
  refine s_iload (show decode (am_cc m9_agrees) 444 = .ok (.iload 9, 2) by decide +kernel) rfl ?_
  refine s_iadd (show decode (am_cc m9_agrees) 446 = .ok (.iadd, 1) by decide +kernel) h13 ?_
  refine s_iaload (show decode (am_cc m9_agrees) 447 = .ok (.iaload, 1) by decide +kernel) kd93 h14 h15 ?_
  exact n_callV (as := [vi a6, vi (M 93 (((24 * a2) + (4 * ((a6 / 6) % 6))) + a9)), vi (M 93 (((24 * a3) + (4 * (a6 % 6))) + a9))]) (stk := []) (show decode (am_cc m9_agrees) 448 = .ok (.invokevirtual 217, 3) by decide +kernel) lk_RX9_217 kd86 (by decide) rfl rfl (by decide) (Nat.le_of_ble_eq_true rfl) ⟨rfl, rfl⟩ k
theorem g9_agrees_451 {a1 a2 a3 a4 a5 a6 a7 a8 a9 a10 a11 : Int} {M : am_M} {Q : Option am_V → am_M → Prop} (k : am_CallN m9_begins [vr 86] KS M (fun r M' => am_AtN m9_agrees 455 [some (vr 86), some (vi a1), some (vi a2), some (vi a3), some (vi a4), some (vi a5), some (vi a6), some (vi a7), some (vi a8), some (vi a9), some (vi a10), some (vi a11)] (r.toList ++ []) KS M' Q)) : am_AtN m9_agrees 451 [some (vr 86), some (vi a1), some (vi a2), some (vi a3), some (vi a4), some (vi a5), some (vi a6), some (vi a7), some (vi a8), some (vi a9), some (vi a10), some (vi a11)] [] KS M Q := by
  refine s_aload_n (show decode (am_cc m9_agrees) 451 = .ok (.aload_n 0, 1) by decide +kernel) rfl ?_
  exact n_callV (as := []) (stk := []) (show decode (am_cc m9_agrees) 452 = .ok (.invokevirtual 220, 3) by decide +kernel) lk_RX9_220 kd86 (by decide) rfl rfl (by decide) (Nat.le_of_ble_eq_true rfl) ⟨rfl, rfl⟩ k
theorem g9_agrees_455 {a1 a2 a3 a4 a5 a6 a7 a8 a9 a10 a11 t0 : Int} {M : am_M} {Q : Option am_V → am_M → Prop} (k1 : t0 = 0 → am_AtN m9_agrees 469 [some (vr 86), some (vi a1), some (vi a2), some (vi a3), some (vi a4), some (vi a5), some (vi a6), some (vi a7), some (vi a8), some (vi a9), some (vi a10), some (vi a11)] [] KS M Q) (k2 : ¬ (t0 = 0) → am_AtN m9_agrees 458 [some (vr 86), some (vi a1), some (vi a2), some (vi a3), some (vi a4), some (vi a5), some (vi a6), some (vi a7), some (vi a8), some (vi a9), some (vi a10), some (vi a11)] [] KS M Q) : am_AtN m9_agrees 455 [some (vr 86), some (vi a1), some (vi a2), some (vi a3), some (vi a4), some (vi a5), some (vi a6), some (vi a7), some (vi a8), some (vi a9), some (vi a10), some (vi a11)] [vi t0] KS M Q := by
  exact s_if_eq (tgt := 469) (show decode (am_cc m9_agrees) 455 = .ok (.ifCond .eq 14, 3) by decide +kernel) (by decide) k1 k2
theorem g9_agrees_458 {a1 a2 a3 a4 a5 a6 a7 a8 a9 a10 a11 : Int} {M : am_M} {Q : Option am_V → am_M → Prop} (k : am_CallN m9_keep [vr 86, vi a10, vi a11] KS M (fun r M' => am_AtN m9_agrees 466 [some (vr 86), some (vi a1), some (vi a2), some (vi a3), some (vi a4), some (vi a5), some (vi a6), some (vi a7), some (vi a8), some (vi a9), some (vi a10), some (vi a11)] (r.toList ++ []) KS M' Q)) : am_AtN m9_agrees 458 [some (vr 86), some (vi a1), some (vi a2), some (vi a3), some (vi a4), some (vi a5), some (vi a6), some (vi a7), some (vi a8), some (vi a9), some (vi a10), some (vi a11)] [] KS M Q := by
  refine s_aload_n (show decode (am_cc m9_agrees) 458 = .ok (.aload_n 0, 1) by decide +kernel) rfl ?_
  refine s_iload (show decode (am_cc m9_agrees) 459 = .ok (.iload 10, 2) by decide +kernel) rfl ?_
  refine s_iload (show decode (am_cc m9_agrees) 461 = .ok (.iload 11, 2) by decide +kernel) rfl ?_
  exact n_callV (as := [vi a10, vi a11]) (stk := []) (show decode (am_cc m9_agrees) 463 = .ok (.invokevirtual 224, 3) by decide +kernel) lk_RX9_224 kd86 (by decide) rfl rfl (by decide) (Nat.le_of_ble_eq_true rfl) ⟨rfl, rfl⟩ k
theorem g9_agrees_466 {a1 a2 a3 a4 a5 a6 a7 a8 a9 a10 a11 t0 : Int} {M : am_M} {Q : Option am_V → am_M → Prop} (k1 : ¬ t0 = 0 → am_AtN m9_agrees 471 [some (vr 86), some (vi a1), some (vi a2), some (vi a3), some (vi a4), some (vi a5), some (vi a6), some (vi a7), some (vi a8), some (vi a9), some (vi a10), some (vi a11)] [] KS M Q) (k2 : t0 = 0 → am_AtN m9_agrees 469 [some (vr 86), some (vi a1), some (vi a2), some (vi a3), some (vi a4), some (vi a5), some (vi a6), some (vi a7), some (vi a8), some (vi a9), some (vi a10), some (vi a11)] [] KS M Q) : am_AtN m9_agrees 466 [some (vr 86), some (vi a1), some (vi a2), some (vi a3), some (vi a4), some (vi a5), some (vi a6), some (vi a7), some (vi a8), some (vi a9), some (vi a10), some (vi a11)] [vi t0] KS M Q := by
  exact s_if_ne (tgt := 471) (show decode (am_cc m9_agrees) 466 = .ok (.ifCond .ne 5, 3) by decide +kernel) (by decide) k1 k2
theorem g9_agrees_469 {a1 a2 a3 a4 a5 a6 a7 a8 a9 a10 a11 : Int} {M : am_M} {Q : Option am_V → am_M → Prop} (k : Q (some (vi 0)) M) : am_AtN m9_agrees 469 [some (vr 86), some (vi a1), some (vi a2), some (vi a3), some (vi a4), some (vi a5), some (vi a6), some (vi a7), some (vi a8), some (vi a9), some (vi a10), some (vi a11)] [] KS M Q := by
  refine s_iconst (show decode (am_cc m9_agrees) 469 = .ok (.iconst 0, 1) by decide +kernel) ⟨by decide, by decide⟩ ?_
  exact s_zreturn (show decode (am_cc m9_agrees) 470 = .ok (.ireturn, 1) by decide +kernel) rfl (by decide) k
theorem g9_agrees_471 {a1 a2 a3 a4 a5 a6 a7 a8 a9 a10 a11 : Int} {M : am_M} {Q : Option am_V → am_M → Prop} (h1 : -2147483648 ≤ a9 + 1 ∧ a9 + 1 ≤ 2147483647) (k : am_AtN m9_agrees 319 [some (vr 86), some (vi a1), some (vi a2), some (vi a3), some (vi a4), some (vi a5), some (vi a6), some (vi a7), some (vi a8), some (vi (a9 + 1)), none, none] [] KS M Q) : am_AtN m9_agrees 471 [some (vr 86), some (vi a1), some (vi a2), some (vi a3), some (vi a4), some (vi a5), some (vi a6), some (vi a7), some (vi a8), some (vi a9), some (vi a10), some (vi a11)] [] KS M Q := by
  refine s_iinc (show decode (am_cc m9_agrees) 471 = .ok (.iinc 9 1, 3) by decide +kernel) rfl (by decide) h1 ?_
  refine s_goto (tgt := 319) (show decode (am_cc m9_agrees) 474 = .ok (.goto (-155), 3) by decide +kernel) (by decide) ?_
  refine am_fg 10 ?_
  refine am_fg 11 ?_
  exact k
theorem g9_agrees_477 {a1 a2 a3 a4 a5 a6 a7 a8 a9 : Int} {M : am_M} {Q : Option am_V → am_M → Prop} (h1 : -2147483648 ≤ a5 + 1 ∧ a5 + 1 ≤ 2147483647) (k : am_AtN m9_agrees 174 [some (vr 86), some (vi a1), some (vi a2), some (vi a3), some (vi a4), some (vi (a5 + 1)), none, none, none, none, none, none] [] KS M Q) : am_AtN m9_agrees 477 [some (vr 86), some (vi a1), some (vi a2), some (vi a3), some (vi a4), some (vi a5), some (vi a6), some (vi a7), some (vi a8), some (vi a9), none, none] [] KS M Q := by
  refine s_iinc (show decode (am_cc m9_agrees) 477 = .ok (.iinc 5 1, 3) by decide +kernel) rfl (by decide) h1 ?_
  refine s_goto (tgt := 174) (show decode (am_cc m9_agrees) 480 = .ok (.goto (-306), 3) by decide +kernel) (by decide) ?_
  refine am_fg 6 ?_
  refine am_fg 7 ?_
  refine am_fg 8 ?_
  refine am_fg 9 ?_
  exact k
theorem g9_agrees_483 {a1 a2 a3 a4 a5 : Int} {M : am_M} {Q : Option am_V → am_M → Prop} (k : Q (some (vi 1)) M) : am_AtN m9_agrees 483 [some (vr 86), some (vi a1), some (vi a2), some (vi a3), some (vi a4), some (vi a5), none, none, none, none, none, none] [] KS M Q := by
  refine s_iconst (show decode (am_cc m9_agrees) 483 = .ok (.iconst 1, 1) by decide +kernel) ⟨by decide, by decide⟩ ?_
  exact s_zreturn (show decode (am_cc m9_agrees) 484 = .ok (.ireturn, 1) by decide +kernel) rfl (by decide) k
theorem g9_agree_0 {a1 a2 a3 : Int} {M : am_M} {Q : Option am_V → am_M → Prop} (k : am_CallN m9_noSentence [vi a1] KS (am_up M 86 0 0) (fun r M' => am_AtN m9_agree 9 [some (vr 86), some (vi a1), some (vi a2), some (vi a3)] (r.toList ++ []) KS M' Q)) : am_AtN m9_agree 0 [some (vr 86), some (vi a1), some (vi a2), some (vi a3)] [] KS M Q := by
  refine s_aload_n (show decode (am_cc m9_agree) 0 = .ok (.aload_n 0, 1) by decide +kernel) rfl ?_
  refine s_iconst (show decode (am_cc m9_agree) 1 = .ok (.iconst 0, 1) by decide +kernel) ⟨by decide, by decide⟩ ?_
  refine s_putf (k := 0) (x := 0) (ty0 := tyX9) (show decode (am_cc m9_agree) 2 = .ok (.putfield 95, 3) by decide +kernel) kd86 (by decide) rfl jnX9 tyX9_ok nmX9 (by decide) lf_RX9_95 rfl (Or.inl ⟨rfl, rfl, rfl⟩) ?_
  refine s_iload_n (show decode (am_cc m9_agree) 5 = .ok (.iload_n 1, 1) by decide +kernel) rfl ?_
  exact n_callS (as := [vi a1]) (stk := []) (show decode (am_cc m9_agree) 6 = .ok (.invokestatic 122, 3) by decide +kernel) lk_RX9_122 (by decide) (Nat.le_of_ble_eq_true rfl) ⟨rfl, rfl⟩ k
theorem g9_agree_9 {a1 a2 a3 t0 : Int} {M : am_M} {Q : Option am_V → am_M → Prop} (k1 : ¬ t0 = 0 → am_AtN m9_agree 26 [some (vr 86), some (vi a1), some (vi a2), some (vi a3)] [] KS M Q) (k2 : t0 = 0 → am_AtN m9_agree 12 [some (vr 86), some (vi a1), some (vi a2), some (vi a3)] [] KS M Q) : am_AtN m9_agree 9 [some (vr 86), some (vi a1), some (vi a2), some (vi a3)] [vi t0] KS M Q := by
  exact s_if_ne (tgt := 26) (show decode (am_cc m9_agree) 9 = .ok (.ifCond .ne 17, 3) by decide +kernel) (by decide) k1 k2
theorem g9_agree_12 {a1 a2 a3 : Int} {M : am_M} {Q : Option am_V → am_M → Prop} (k : am_CallN m9_noProgram [vi a2] KS M (fun r M' => am_AtN m9_agree 16 [some (vr 86), some (vi a1), some (vi a2), some (vi a3)] (r.toList ++ []) KS M' Q)) : am_AtN m9_agree 12 [some (vr 86), some (vi a1), some (vi a2), some (vi a3)] [] KS M Q := by
  refine s_iload_n (show decode (am_cc m9_agree) 12 = .ok (.iload_n 2, 1) by decide +kernel) rfl ?_
  exact n_callS (as := [vi a2]) (stk := []) (show decode (am_cc m9_agree) 13 = .ok (.invokestatic 144, 3) by decide +kernel) lk_RX9_144 (by decide) (Nat.le_of_ble_eq_true rfl) ⟨rfl, rfl⟩ k
theorem g9_agree_16 {a1 a2 a3 t0 : Int} {M : am_M} {Q : Option am_V → am_M → Prop} (k1 : ¬ t0 = 0 → am_AtN m9_agree 26 [some (vr 86), some (vi a1), some (vi a2), some (vi a3)] [] KS M Q) (k2 : t0 = 0 → am_AtN m9_agree 19 [some (vr 86), some (vi a1), some (vi a2), some (vi a3)] [] KS M Q) : am_AtN m9_agree 16 [some (vr 86), some (vi a1), some (vi a2), some (vi a3)] [vi t0] KS M Q := by
  exact s_if_ne (tgt := 26) (show decode (am_cc m9_agree) 16 = .ok (.ifCond .ne 10, 3) by decide +kernel) (by decide) k1 k2
theorem g9_agree_19 {a1 a2 a3 : Int} {M : am_M} {Q : Option am_V → am_M → Prop} (k : am_CallN m9_noProgram [vi a3] KS M (fun r M' => am_AtN m9_agree 23 [some (vr 86), some (vi a1), some (vi a2), some (vi a3)] (r.toList ++ []) KS M' Q)) : am_AtN m9_agree 19 [some (vr 86), some (vi a1), some (vi a2), some (vi a3)] [] KS M Q := by
  refine s_iload_n (show decode (am_cc m9_agree) 19 = .ok (.iload_n 3, 1) by decide +kernel) rfl ?_
  exact n_callS (as := [vi a3]) (stk := []) (show decode (am_cc m9_agree) 20 = .ok (.invokestatic 144, 3) by decide +kernel) lk_RX9_144 (by decide) (Nat.le_of_ble_eq_true rfl) ⟨rfl, rfl⟩ k
theorem g9_agree_23 {a1 a2 a3 t0 : Int} {M : am_M} {Q : Option am_V → am_M → Prop} (k1 : t0 = 0 → am_AtN m9_agree 30 [some (vr 86), some (vi a1), some (vi a2), some (vi a3)] [] KS M Q) (k2 : ¬ (t0 = 0) → am_AtN m9_agree 26 [some (vr 86), some (vi a1), some (vi a2), some (vi a3)] [] KS M Q) : am_AtN m9_agree 23 [some (vr 86), some (vi a1), some (vi a2), some (vi a3)] [vi t0] KS M Q := by
  exact s_if_eq (tgt := 30) (show decode (am_cc m9_agree) 23 = .ok (.ifCond .eq 7, 3) by decide +kernel) (by decide) k1 k2
theorem g9_agree_26 {a1 a2 a3 : Int} {M : am_M} {Q : Option am_V → am_M → Prop} (k : am_AtN m9_agree 45 [some (vr 86), some (vi a1), some (vi a2), some (vi a3)] [vi (-1)] KS M Q) : am_AtN m9_agree 26 [some (vr 86), some (vi a1), some (vi a2), some (vi a3)] [] KS M Q := by
  refine s_iconst (show decode (am_cc m9_agree) 26 = .ok (.iconst (-1), 1) by decide +kernel) ⟨by decide, by decide⟩ ?_
  refine s_goto (tgt := 45) (show decode (am_cc m9_agree) 27 = .ok (.goto 18, 3) by decide +kernel) (by decide) ?_
  exact k
theorem g9_agree_30 {a1 a2 a3 : Int} {M : am_M} {Q : Option am_V → am_M → Prop} (k : am_CallN m9_agrees [vr 86, vi a1, vi a2, vi a3] KS M (fun r M' => am_AtN m9_agree 37 [some (vr 86), some (vi a1), some (vi a2), some (vi a3)] (r.toList ++ []) KS M' Q)) : am_AtN m9_agree 30 [some (vr 86), some (vi a1), some (vi a2), some (vi a3)] [] KS M Q := by
  refine s_aload_n (show decode (am_cc m9_agree) 30 = .ok (.aload_n 0, 1) by decide +kernel) rfl ?_
  refine s_iload_n (show decode (am_cc m9_agree) 31 = .ok (.iload_n 1, 1) by decide +kernel) rfl ?_
  refine s_iload_n (show decode (am_cc m9_agree) 32 = .ok (.iload_n 2, 1) by decide +kernel) rfl ?_
  refine s_iload_n (show decode (am_cc m9_agree) 33 = .ok (.iload_n 3, 1) by decide +kernel) rfl ?_
  exact n_callV (as := [vi a1, vi a2, vi a3]) (stk := []) (show decode (am_cc m9_agree) 34 = .ok (.invokevirtual 228, 3) by decide +kernel) lk_RX9_228 kd86 (by decide) rfl rfl (by decide) (Nat.le_of_ble_eq_true rfl) ⟨rfl, rfl⟩ k
theorem g9_agree_37 {a1 a2 a3 t0 : Int} {M : am_M} {Q : Option am_V → am_M → Prop} (k1 : t0 = 0 → am_AtN m9_agree 44 [some (vr 86), some (vi a1), some (vi a2), some (vi a3)] [] KS M Q) (k2 : ¬ (t0 = 0) → am_AtN m9_agree 40 [some (vr 86), some (vi a1), some (vi a2), some (vi a3)] [] KS M Q) : am_AtN m9_agree 37 [some (vr 86), some (vi a1), some (vi a2), some (vi a3)] [vi t0] KS M Q := by
  exact s_if_eq (tgt := 44) (show decode (am_cc m9_agree) 37 = .ok (.ifCond .eq 7, 3) by decide +kernel) (by decide) k1 k2
theorem g9_agree_40 {a1 a2 a3 : Int} {M : am_M} {Q : Option am_V → am_M → Prop} (k : am_AtN m9_agree 45 [some (vr 86), some (vi a1), some (vi a2), some (vi a3)] [vi 1] KS M Q) : am_AtN m9_agree 40 [some (vr 86), some (vi a1), some (vi a2), some (vi a3)] [] KS M Q := by
  refine s_iconst (show decode (am_cc m9_agree) 40 = .ok (.iconst 1, 1) by decide +kernel) ⟨by decide, by decide⟩ ?_
  refine s_goto (tgt := 45) (show decode (am_cc m9_agree) 41 = .ok (.goto 4, 3) by decide +kernel) (by decide) ?_
  exact k
theorem g9_agree_44 {a1 a2 a3 : Int} {M : am_M} {Q : Option am_V → am_M → Prop} (k : am_AtN m9_agree 45 [some (vr 86), some (vi a1), some (vi a2), some (vi a3)] [vi 0] KS M Q) : am_AtN m9_agree 44 [some (vr 86), some (vi a1), some (vi a2), some (vi a3)] [] KS M Q := by
  refine s_iconst (show decode (am_cc m9_agree) 44 = .ok (.iconst 0, 1) by decide +kernel) ⟨by decide, by decide⟩ ?_
  exact k
theorem g9_agree_45 {a1 a2 a3 t0 : Int} {M : am_M} {Q : Option am_V → am_M → Prop} (k : Q (some (vi t0)) M) : am_AtN m9_agree 45 [some (vr 86), some (vi a1), some (vi a2), some (vi a3)] [vi t0] KS M Q := by
  exact s_ireturn (show decode (am_cc m9_agree) 45 = .ok (.ireturn, 1) by decide +kernel) rfl k
theorem g9_part_0 {a1 a2 : Int} {M : am_M} {Q : Option am_V → am_M → Prop} (k : am_AtN m9_part 2 [some (vr 86), some (vi a1), some (vi a2), some (vi 0), none, none, none] [] KS M Q) : am_AtN m9_part 0 [some (vr 86), some (vi a1), some (vi a2), none, none, none, none] [] KS M Q := by
  refine s_iconst (show decode (am_cc m9_part) 0 = .ok (.iconst 0, 1) by decide +kernel) ⟨by decide, by decide⟩ ?_
  refine s_istore_n (show decode (am_cc m9_part) 1 = .ok (.istore_n 3, 1) by decide +kernel) (by decide) ?_
  exact k
theorem g9_part_2 {a1 a2 a3 : Int} {M : am_M} {Q : Option am_V → am_M → Prop} (k1 : 36 ≤ a3 → am_AtN m9_part 21 [some (vr 86), some (vi a1), some (vi a2), some (vi a3), none, none, none] [] KS M Q) (k2 : ¬ (36 ≤ a3) → am_AtN m9_part 8 [some (vr 86), some (vi a1), some (vi a2), some (vi a3), none, none, none] [] KS M Q) : am_AtN m9_part 2 [some (vr 86), some (vi a1), some (vi a2), some (vi a3), none, none, none] [] KS M Q := by
  refine s_iload_n (show decode (am_cc m9_part) 2 = .ok (.iload_n 3, 1) by decide +kernel) rfl ?_
  refine s_bipush (show decode (am_cc m9_part) 3 = .ok (.bipush 36, 2) by decide +kernel) ⟨by decide, by decide⟩ (by decide) ?_
  exact s_icmp_ge (tgt := 21) (show decode (am_cc m9_part) 5 = .ok (.if_icmp .ge 16, 3) by decide +kernel) (by decide) k1 k2
theorem g9_part_8 {a1 a2 a3 : Int} {M : am_M} {Q : Option am_V → am_M → Prop} (h1 : 0 ≤ a3) (h2 : a3 < 1296) (h3 : -2147483648 ≤ a3 + 1 ∧ a3 + 1 ≤ 2147483647) (k : am_AtN m9_part 2 [some (vr 86), some (vi a1), some (vi a2), some (vi (a3 + 1)), none, none, none] [] KS (am_up M 98 a3 0) Q) : am_AtN m9_part 8 [some (vr 86), some (vi a1), some (vi a2), some (vi a3), none, none, none] [] KS M Q := by
  refine s_aload_n (show decode (am_cc m9_part) 8 = .ok (.aload_n 0, 1) by decide +kernel) rfl ?_
  refine s_getf (k := 13) (v := vr 98) (show decode (am_cc m9_part) 9 = .ok (.getfield 44, 3) by decide +kernel) kd86 (by decide) rfl jnX9 (by decide) lf_RX9_44 rfl ?_
  refine s_iload_n (show decode (am_cc m9_part) 12 = .ok (.iload_n 3, 1) by decide +kernel) rfl ?_
  refine s_iconst (show decode (am_cc m9_part) 13 = .ok (.iconst 0, 1) by decide +kernel) ⟨by decide, by decide⟩ ?_
  refine s_bastore (show decode (am_cc m9_part) 14 = .ok (.bastore, 1) by decide +kernel) kd98 h1 h2 (by decide) ?_
  refine s_iinc (show decode (am_cc m9_part) 15 = .ok (.iinc 3 1, 3) by decide +kernel) rfl (by decide) h3 ?_
  refine s_goto (tgt := 2) (show decode (am_cc m9_part) 18 = .ok (.goto (-16), 3) by decide +kernel) (by decide) ?_
  exact k
theorem g9_part_21 {a1 a2 a3 : Int} {M : am_M} {Q : Option am_V → am_M → Prop} (k : am_AtN m9_part 50 [some (vr 86), some (vi a1), some (vi a2), some (vi 0), none, none, none] [] KS (am_up (am_up (am_up (am_up M 98 0 1) 95 0 0) 96 0 (-9)) 86 15 1) Q) : am_AtN m9_part 21 [some (vr 86), some (vi a1), some (vi a2), some (vi a3), none, none, none] [] KS M Q := by
  refine s_aload_n (show decode (am_cc m9_part) 21 = .ok (.aload_n 0, 1) by decide +kernel) rfl ?_
  refine s_getf (k := 13) (v := vr 98) (show decode (am_cc m9_part) 22 = .ok (.getfield 44, 3) by decide +kernel) kd86 (by decide) rfl jnX9 (by decide) lf_RX9_44 rfl ?_
  refine s_iconst (show decode (am_cc m9_part) 25 = .ok (.iconst 0, 1) by decide +kernel) ⟨by decide, by decide⟩ ?_
  refine s_iconst (show decode (am_cc m9_part) 26 = .ok (.iconst 1, 1) by decide +kernel) ⟨by decide, by decide⟩ ?_
  refine s_bastore (show decode (am_cc m9_part) 27 = .ok (.bastore, 1) by decide +kernel) kd98 (by decide) (by decide) (by decide) ?_
  refine s_aload_n (show decode (am_cc m9_part) 28 = .ok (.aload_n 0, 1) by decide +kernel) rfl ?_
  refine s_getf (k := 10) (v := vr 95) (show decode (am_cc m9_part) 29 = .ok (.getfield 35, 3) by decide +kernel) kd86 (by decide) rfl jnX9 (by decide) lf_RX9_35 rfl ?_
  refine s_iconst (show decode (am_cc m9_part) 32 = .ok (.iconst 0, 1) by decide +kernel) ⟨by decide, by decide⟩ ?_
  refine s_iconst (show decode (am_cc m9_part) 33 = .ok (.iconst 0, 1) by decide +kernel) ⟨by decide, by decide⟩ ?_
  refine s_iastore (show decode (am_cc m9_part) 34 = .ok (.iastore, 1) by decide +kernel) kd95 (by decide) (by decide) ?_
  refine s_aload_n (show decode (am_cc m9_part) 35 = .ok (.aload_n 0, 1) by decide +kernel) rfl ?_
  refine s_getf (k := 11) (v := vr 96) (show decode (am_cc m9_part) 36 = .ok (.getfield 38, 3) by decide +kernel) kd86 (by decide) rfl jnX9 (by decide) lf_RX9_38 rfl ?_
  refine s_iconst (show decode (am_cc m9_part) 39 = .ok (.iconst 0, 1) by decide +kernel) ⟨by decide, by decide⟩ ?_
  refine s_bipush (show decode (am_cc m9_part) 40 = .ok (.bipush (-9), 2) by decide +kernel) ⟨by decide, by decide⟩ (by decide) ?_
  refine s_iastore (show decode (am_cc m9_part) 42 = .ok (.iastore, 1) by decide +kernel) kd96 (by decide) (by decide) ?_
  refine s_aload_n (show decode (am_cc m9_part) 43 = .ok (.aload_n 0, 1) by decide +kernel) rfl ?_
  refine s_iconst (show decode (am_cc m9_part) 44 = .ok (.iconst 1, 1) by decide +kernel) ⟨by decide, by decide⟩ ?_
  refine s_putf (k := 15) (x := 1) (ty0 := tyX9) (show decode (am_cc m9_part) 45 = .ok (.putfield 174, 3) by decide +kernel) kd86 (by decide) rfl jnX9 tyX9_ok nmX9 (by decide) lf_RX9_174 rfl (Or.inl ⟨rfl, rfl, rfl⟩) ?_
  refine s_iconst (show decode (am_cc m9_part) 48 = .ok (.iconst 0, 1) by decide +kernel) ⟨by decide, by decide⟩ ?_
  refine s_istore_n (show decode (am_cc m9_part) 49 = .ok (.istore_n 3, 1) by decide +kernel) (by decide) ?_
  exact k
theorem g9_part_50 {a1 a2 a3 : Int} {M : am_M} {Q : Option am_V → am_M → Prop} (k1 : M 86 15 ≤ a3 → am_AtN m9_part 232 [some (vr 86), some (vi a1), some (vi a2), some (vi a3), none, none, none] [] KS M Q) (k2 : ¬ (M 86 15 ≤ a3) → am_AtN m9_part 58 [some (vr 86), some (vi a1), some (vi a2), some (vi a3), none, none, none] [] KS M Q) : am_AtN m9_part 50 [some (vr 86), some (vi a1), some (vi a2), some (vi a3), none, none, none] [] KS M Q := by
  refine s_iload_n (show decode (am_cc m9_part) 50 = .ok (.iload_n 3, 1) by decide +kernel) rfl ?_
  refine s_aload_n (show decode (am_cc m9_part) 51 = .ok (.aload_n 0, 1) by decide +kernel) rfl ?_
  refine s_getf (k := 15) (v := vi (M 86 15)) (show decode (am_cc m9_part) 52 = .ok (.getfield 174, 3) by decide +kernel) kd86 (by decide) rfl jnX9 (by decide) lf_RX9_174 rfl ?_
  exact s_icmp_ge (tgt := 232) (show decode (am_cc m9_part) 55 = .ok (.if_icmp .ge 177, 3) by decide +kernel) (by decide) k1 k2
theorem g9_part_58 {a1 a2 a3 : Int} {M : am_M} {Q : Option am_V → am_M → Prop} (h1 : 0 ≤ a3) (h2 : a3 < 1296) (h3 : -2147483648 ≤ 6 * a1 ∧ 6 * a1 ≤ 2147483647) (h4 : 0 ≤ M 95 a3) (h5 : -2147483648 ≤ (6 * a1) + ((M 95 a3) / 6) ∧ (6 * a1) + ((M 95 a3) / 6) ≤ 2147483647) (h6 : 0 ≤ (6 * a1) + ((M 95 a3) / 6)) (h7 : (6 * a1) + ((M 95 a3) / 6) < 48) (k1 : M 88 ((6 * a1) + ((M 95 a3) / 6)) = 0 → am_AtN m9_part 105 [some (vr 86), some (vi a1), some (vi a2), some (vi a3), some (vi (M 95 a3)), none, none] [] KS M Q) (k2 : ¬ (M 88 ((6 * a1) + ((M 95 a3) / 6)) = 0) → am_AtN m9_part 84 [some (vr 86), some (vi a1), some (vi a2), some (vi a3), some (vi (M 95 a3)), none, none] [] KS M Q) : am_AtN m9_part 58 [some (vr 86), some (vi a1), some (vi a2), some (vi a3), none, none, none] [] KS M Q := by
  refine s_aload_n (show decode (am_cc m9_part) 58 = .ok (.aload_n 0, 1) by decide +kernel) rfl ?_
  refine s_getf (k := 10) (v := vr 95) (show decode (am_cc m9_part) 59 = .ok (.getfield 35, 3) by decide +kernel) kd86 (by decide) rfl jnX9 (by decide) lf_RX9_35 rfl ?_
  refine s_iload_n (show decode (am_cc m9_part) 62 = .ok (.iload_n 3, 1) by decide +kernel) rfl ?_
  refine s_iaload (show decode (am_cc m9_part) 63 = .ok (.iaload, 1) by decide +kernel) kd95 h1 h2 ?_
  refine s_istore (show decode (am_cc m9_part) 64 = .ok (.istore 4, 2) by decide +kernel) (by decide) ?_
  refine s_aload_n (show decode (am_cc m9_part) 66 = .ok (.aload_n 0, 1) by decide +kernel) rfl ?_
  refine s_getf (k := 3) (v := vr 88) (show decode (am_cc m9_part) 67 = .ok (.getfield 13, 3) by decide +kernel) kd86 (by decide) rfl jnX9 (by decide) lf_RX9_13 rfl ?_
  refine s_bipush (show decode (am_cc m9_part) 70 = .ok (.bipush 6, 2) by decide +kernel) ⟨by decide, by decide⟩ (by decide) ?_
  refine s_iload_n (show decode (am_cc m9_part) 72 = .ok (.iload_n 1, 1) by decide +kernel) rfl ?_
  refine s_imul (show decode (am_cc m9_part) 73 = .ok (.imul, 1) by decide +kernel) h3 ?_
  refine s_iload (show decode (am_cc m9_part) 74 = .ok (.iload 4, 2) by decide +kernel) rfl ?_
  refine s_bipush (show decode (am_cc m9_part) 76 = .ok (.bipush 6, 2) by decide +kernel) ⟨by decide, by decide⟩ (by decide) ?_
  refine s_idiv (show decode (am_cc m9_part) 78 = .ok (.idiv, 1) by decide +kernel) h4 (by decide) ?_
  refine s_iadd (show decode (am_cc m9_part) 79 = .ok (.iadd, 1) by decide +kernel) h5 ?_
  refine s_baload (show decode (am_cc m9_part) 80 = .ok (.baload, 1) by decide +kernel) kd88 h6 h7 ?_
  exact s_if_eq (tgt := 105) (show decode (am_cc m9_part) 81 = .ok (.ifCond .eq 24, 3) by decide +kernel) (by decide) k1 k2
theorem g9_part_84 {a1 a2 a3 a4 : Int} {M : am_M} {Q : Option am_V → am_M → Prop} (h1 : -2147483648 ≤ 6 * a2 ∧ 6 * a2 ≤ 2147483647) (h2 : 0 ≤ a4) (h3 : -2147483648 ≤ (6 * a2) + (a4 % 6) ∧ (6 * a2) + (a4 % 6) ≤ 2147483647) (h4 : 0 ≤ (6 * a2) + (a4 % 6)) (h5 : (6 * a2) + (a4 % 6) < 48) (k1 : ¬ M 88 ((6 * a2) + (a4 % 6)) = 0 → am_AtN m9_part 105 [some (vr 86), some (vi a1), some (vi a2), some (vi a3), some (vi a4), none, none] [] KS M Q) (k2 : M 88 ((6 * a2) + (a4 % 6)) = 0 → am_AtN m9_part 102 [some (vr 86), some (vi a1), some (vi a2), some (vi a3), some (vi a4), none, none] [] KS M Q) : am_AtN m9_part 84 [some (vr 86), some (vi a1), some (vi a2), some (vi a3), some (vi a4), none, none] [] KS M Q := by
  refine s_aload_n (show decode (am_cc m9_part) 84 = .ok (.aload_n 0, 1) by decide +kernel) rfl ?_
  refine s_getf (k := 3) (v := vr 88) (show decode (am_cc m9_part) 85 = .ok (.getfield 13, 3) by decide +kernel) kd86 (by decide) rfl jnX9 (by decide) lf_RX9_13 rfl ?_
  refine s_bipush (show decode (am_cc m9_part) 88 = .ok (.bipush 6, 2) by decide +kernel) ⟨by decide, by decide⟩ (by decide) ?_
  refine s_iload_n (show decode (am_cc m9_part) 90 = .ok (.iload_n 2, 1) by decide +kernel) rfl ?_
  refine s_imul (show decode (am_cc m9_part) 91 = .ok (.imul, 1) by decide +kernel) h1 ?_
  refine s_iload (show decode (am_cc m9_part) 92 = .ok (.iload 4, 2) by decide +kernel) rfl ?_
  refine s_bipush (show decode (am_cc m9_part) 94 = .ok (.bipush 6, 2) by decide +kernel) ⟨by decide, by decide⟩ (by decide) ?_
  refine s_irem (show decode (am_cc m9_part) 96 = .ok (.irem, 1) by decide +kernel) h2 (by decide) ?_
  refine s_iadd (show decode (am_cc m9_part) 97 = .ok (.iadd, 1) by decide +kernel) h3 ?_
  refine s_baload (show decode (am_cc m9_part) 98 = .ok (.baload, 1) by decide +kernel) kd88 h4 h5 ?_
  exact s_if_ne (tgt := 105) (show decode (am_cc m9_part) 99 = .ok (.ifCond .ne 6, 3) by decide +kernel) (by decide) k1 k2
theorem g9_part_102 {a1 a2 a3 a4 : Int} {M : am_M} {Q : Option am_V → am_M → Prop} (k : Q (some (vi a4)) M) : am_AtN m9_part 102 [some (vr 86), some (vi a1), some (vi a2), some (vi a3), some (vi a4), none, none] [] KS M Q := by
  refine s_iload (show decode (am_cc m9_part) 102 = .ok (.iload 4, 2) by decide +kernel) rfl ?_
  exact s_ireturn (show decode (am_cc m9_part) 104 = .ok (.ireturn, 1) by decide +kernel) rfl k
theorem g9_part_105 {a1 a2 a3 a4 : Int} {M : am_M} {Q : Option am_V → am_M → Prop} (k : am_AtN m9_part 108 [some (vr 86), some (vi a1), some (vi a2), some (vi a3), some (vi a4), some (vi 0), none] [] KS M Q) : am_AtN m9_part 105 [some (vr 86), some (vi a1), some (vi a2), some (vi a3), some (vi a4), none, none] [] KS M Q := by
  refine s_iconst (show decode (am_cc m9_part) 105 = .ok (.iconst 0, 1) by decide +kernel) ⟨by decide, by decide⟩ ?_
  refine s_istore (show decode (am_cc m9_part) 106 = .ok (.istore 5, 2) by decide +kernel) (by decide) ?_
  exact k
theorem g9_part_108 {a1 a2 a3 a4 a5 : Int} {M : am_M} {Q : Option am_V → am_M → Prop} (k1 : M 86 1 ≤ a5 → am_AtN m9_part 226 [some (vr 86), some (vi a1), some (vi a2), some (vi a3), some (vi a4), some (vi a5), none] [] KS M Q) (k2 : ¬ (M 86 1 ≤ a5) → am_AtN m9_part 117 [some (vr 86), some (vi a1), some (vi a2), some (vi a3), some (vi a4), some (vi a5), none] [] KS M Q) : am_AtN m9_part 108 [some (vr 86), some (vi a1), some (vi a2), some (vi a3), some (vi a4), some (vi a5), none] [] KS M Q := by
  refine s_iload (show decode (am_cc m9_part) 108 = .ok (.iload 5, 2) by decide +kernel) rfl ?_
  refine s_aload_n (show decode (am_cc m9_part) 110 = .ok (.aload_n 0, 1) by decide +kernel) rfl ?_
  refine s_getf (k := 1) (v := vi (M 86 1)) (show decode (am_cc m9_part) 111 = .ok (.getfield 99, 3) by decide +kernel) kd86 (by decide) rfl jnX9 (by decide) lf_RX9_99 rfl ?_
  exact s_icmp_ge (tgt := 226) (show decode (am_cc m9_part) 114 = .ok (.if_icmp .ge 112, 3) by decide +kernel) (by decide) k1 k2
theorem g9_part_117 {a1 a2 a3 a4 a5 : Int} {M : am_M} {Q : Option am_V → am_M → Prop} (h1 : -2147483648 ≤ 24 * a1 ∧ 24 * a1 ≤ 2147483647) (h2 : 0 ≤ a4) (h3 : -2147483648 ≤ 4 * (a4 / 6) ∧ 4 * (a4 / 6) ≤ 2147483647) (h4 : -2147483648 ≤ (24 * a1) + (4 * (a4 / 6)) ∧ (24 * a1) + (4 * (a4 / 6)) ≤ 2147483647) (h5 : -2147483648 ≤ ((24 * a1) + (4 * (a4 / 6))) + a5 ∧ ((24 * a1) + (4 * (a4 / 6))) + a5 ≤ 2147483647) (h6 : 0 ≤ ((24 * a1) + (4 * (a4 / 6))) + a5) (h7 : ((24 * a1) + (4 * (a4 / 6))) + a5 < 192) (h8 : -2147483648 ≤ 6 * (M 87 (((24 * a1) + (4 * (a4 / 6))) + a5)) ∧ 6 * (M 87 (((24 * a1) + (4 * (a4 / 6))) + a5)) ≤ 2147483647) (h9 : -2147483648 ≤ 24 * a2 ∧ 24 * a2 ≤ 2147483647) (h10 : 0 ≤ a4) (h11 : -2147483648 ≤ 4 * (a4 % 6) ∧ 4 * (a4 % 6) ≤ 2147483647) (h12 : -2147483648 ≤ (24 * a2) + (4 * (a4 % 6)) ∧ (24 * a2) + (4 * (a4 % 6)) ≤ 2147483647) (h13 : -2147483648 ≤ ((24 * a2) + (4 * (a4 % 6))) + a5 ∧ ((24 * a2) + (4 * (a4 % 6))) + a5 ≤ 2147483647) (h14 : 0 ≤ ((24 * a2) + (4 * (a4 % 6))) + a5) (h15 : ((24 * a2) + (4 * (a4 % 6))) + a5 < 192) (h16 : -2147483648 ≤ (6 * (M 87 (((24 * a1) + (4 * (a4 / 6))) + a5))) + (M 87 (((24 * a2) + (4 * (a4 % 6))) + a5)) ∧ (6 * (M 87 (((24 * a1) + (4 * (a4 / 6))) + a5))) + (M 87 (((24 * a2) + (4 * (a4 % 6))) + a5)) ≤ 2147483647) (h17 : 0 ≤ (6 * (M 87 (((24 * a1) + (4 * (a4 / 6))) + a5))) + (M 87 (((24 * a2) + (4 * (a4 % 6))) + a5))) (h18 : (6 * (M 87 (((24 * a1) + (4 * (a4 / 6))) + a5))) + (M 87 (((24 * a2) + (4 * (a4 % 6))) + a5)) < 1296) (k1 : ¬ M 98 ((6 * (M 87 (((24 * a1) + (4 * (a4 / 6))) + a5))) + (M 87 (((24 * a2) + (4 * (a4 % 6))) + a5))) = 0 → am_AtN m9_part 220 [some (vr 86), some (vi a1), some (vi a2), some (vi a3), some (vi a4), some (vi a5), some (vi ((6 * (M 87 (((24 * a1) + (4 * (a4 / 6))) + a5))) + (M 87 (((24 * a2) + (4 * (a4 % 6))) + a5))))] [] KS M Q) (k2 : M 98 ((6 * (M 87 (((24 * a1) + (4 * (a4 / 6))) + a5))) + (M 87 (((24 * a2) + (4 * (a4 % 6))) + a5))) = 0 → am_AtN m9_part 173 [some (vr 86), some (vi a1), some (vi a2), some (vi a3), some (vi a4), some (vi a5), some (vi ((6 * (M 87 (((24 * a1) + (4 * (a4 / 6))) + a5))) + (M 87 (((24 * a2) + (4 * (a4 % 6))) + a5))))] [] KS M Q) : am_AtN m9_part 117 [some (vr 86), some (vi a1), some (vi a2), some (vi a3), some (vi a4), some (vi a5), none] [] KS M Q := by
  refine s_bipush (show decode (am_cc m9_part) 117 = .ok (.bipush 6, 2) by decide +kernel) ⟨by decide, by decide⟩ (by decide) ?_
  refine s_aload_n (show decode (am_cc m9_part) 119 = .ok (.aload_n 0, 1) by decide +kernel) rfl ?_
  refine s_getf (k := 2) (v := vr 87) (show decode (am_cc m9_part) 120 = .ok (.getfield 7, 3) by decide +kernel) kd86 (by decide) rfl jnX9 (by decide) lf_RX9_7 rfl ?_
  refine s_bipush (show decode (am_cc m9_part) 123 = .ok (.bipush 24, 2) by decide +kernel) ⟨by decide, by decide⟩ (by decide) ?_
  refine s_iload_n (show decode (am_cc m9_part) 125 = .ok (.iload_n 1, 1) by decide +kernel) rfl ?_
  refine s_imul (show decode (am_cc m9_part) 126 = .ok (.imul, 1) by decide +kernel) h1 ?_
  refine s_iconst (show decode (am_cc m9_part) 127 = .ok (.iconst 4, 1) by decide +kernel) ⟨by decide, by decide⟩ ?_
  refine s_iload (show decode (am_cc m9_part) 128 = .ok (.iload 4, 2) by decide +kernel) rfl ?_
  refine s_bipush (show decode (am_cc m9_part) 130 = .ok (.bipush 6, 2) by decide +kernel) ⟨by decide, by decide⟩ (by decide) ?_
  refine s_idiv (show decode (am_cc m9_part) 132 = .ok (.idiv, 1) by decide +kernel) h2 (by decide) ?_
  refine s_imul (show decode (am_cc m9_part) 133 = .ok (.imul, 1) by decide +kernel) h3 ?_
  refine s_iadd (show decode (am_cc m9_part) 134 = .ok (.iadd, 1) by decide +kernel) h4 ?_
  refine s_iload (show decode (am_cc m9_part) 135 = .ok (.iload 5, 2) by decide +kernel) rfl ?_
  refine s_iadd (show decode (am_cc m9_part) 137 = .ok (.iadd, 1) by decide +kernel) h5 ?_
  refine s_iaload (show decode (am_cc m9_part) 138 = .ok (.iaload, 1) by decide +kernel) kd87 h6 h7 ?_
  refine s_imul (show decode (am_cc m9_part) 139 = .ok (.imul, 1) by decide +kernel) h8 ?_
  refine s_aload_n (show decode (am_cc m9_part) 140 = .ok (.aload_n 0, 1) by decide +kernel) rfl ?_
  refine s_getf (k := 2) (v := vr 87) (show decode (am_cc m9_part) 141 = .ok (.getfield 7, 3) by decide +kernel) kd86 (by decide) rfl jnX9 (by decide) lf_RX9_7 rfl ?_
  refine s_bipush (show decode (am_cc m9_part) 144 = .ok (.bipush 24, 2) by decide +kernel) ⟨by decide, by decide⟩ (by decide) ?_
  refine s_iload_n (show decode (am_cc m9_part) 146 = .ok (.iload_n 2, 1) by decide +kernel) rfl ?_
  refine s_imul (show decode (am_cc m9_part) 147 = .ok (.imul, 1) by decide +kernel) h9 ?_
  refine s_iconst (show decode (am_cc m9_part) 148 = .ok (.iconst 4, 1) by decide +kernel) ⟨by decide, by decide⟩ ?_
  refine s_iload (show decode (am_cc m9_part) 149 = .ok (.iload 4, 2) by decide +kernel) rfl ?_
  refine s_bipush (show decode (am_cc m9_part) 151 = .ok (.bipush 6, 2) by decide +kernel) ⟨by decide, by decide⟩ (by decide) ?_
  refine s_irem (show decode (am_cc m9_part) 153 = .ok (.irem, 1) by decide +kernel) h10 (by decide) ?_
  refine s_imul (show decode (am_cc m9_part) 154 = .ok (.imul, 1) by decide +kernel) h11 ?_
  refine s_iadd (show decode (am_cc m9_part) 155 = .ok (.iadd, 1) by decide +kernel) h12 ?_
  refine s_iload (show decode (am_cc m9_part) 156 = .ok (.iload 5, 2) by decide +kernel) rfl ?_
  refine s_iadd (show decode (am_cc m9_part) 158 = .ok (.iadd, 1) by decide +kernel) h13 ?_
  refine s_iaload (show decode (am_cc m9_part) 159 = .ok (.iaload, 1) by decide +kernel) kd87 h14 h15 ?_
  refine s_iadd (show decode (am_cc m9_part) 160 = .ok (.iadd, 1) by decide +kernel) h16 ?_
  refine s_istore (show decode (am_cc m9_part) 161 = .ok (.istore 6, 2) by decide +kernel) (by decide) ?_
  refine s_aload_n (show decode (am_cc m9_part) 163 = .ok (.aload_n 0, 1) by decide +kernel) rfl ?_
  refine s_getf (k := 13) (v := vr 98) (show decode (am_cc m9_part) 164 = .ok (.getfield 44, 3) by decide +kernel) kd86 (by decide) rfl jnX9 (by decide) lf_RX9_44 rfl ?_
  refine s_iload (show decode (am_cc m9_part) 167 = .ok (.iload 6, 2) by decide +kernel) rfl ?_
  refine s_baload (show decode (am_cc m9_part) 169 = .ok (.baload, 1) by decide +kernel) kd98 h17 h18 ?_
  exact s_if_ne (tgt := 220) (show decode (am_cc m9_part) 170 = .ok (.ifCond .ne 50, 3) by decide +kernel) (by decide) k1 k2
theorem g9_part_173 {a1 a2 a3 a4 a5 a6 : Int} {M : am_M} {Q : Option am_V → am_M → Prop} (h1 : 0 ≤ a6) (h2 : a6 < 1296) (h3 : 0 ≤ a6) (h4 : a6 < 1296) (h5 : 0 ≤ a6) (h6 : a6 < 1296) (h7 : 0 ≤ (am_up (am_up (am_up M 98 a6 1) 96 a6 a4) 97 a6 a5) 86 15) (h8 : (am_up (am_up (am_up M 98 a6 1) 96 a6 a4) 97 a6 a5) 86 15 < 1296) (h9 : -2147483648 ≤ ((am_up (am_up (am_up (am_up M 98 a6 1) 96 a6 a4) 97 a6 a5) 95 ((am_up (am_up (am_up M 98 a6 1) 96 a6 a4) 97 a6 a5) 86 15) a6) 86 15) + 1 ∧ ((am_up (am_up (am_up (am_up M 98 a6 1) 96 a6 a4) 97 a6 a5) 95 ((am_up (am_up (am_up M 98 a6 1) 96 a6 a4) 97 a6 a5) 86 15) a6) 86 15) + 1 ≤ 2147483647) (k : am_AtN m9_part 220 [some (vr 86), some (vi a1), some (vi a2), some (vi a3), some (vi a4), some (vi a5), some (vi a6)] [] KS (am_up (am_up (am_up (am_up (am_up M 98 a6 1) 96 a6 a4) 97 a6 a5) 95 ((am_up (am_up (am_up M 98 a6 1) 96 a6 a4) 97 a6 a5) 86 15) a6) 86 15 (((am_up (am_up (am_up (am_up M 98 a6 1) 96 a6 a4) 97 a6 a5) 95 ((am_up (am_up (am_up M 98 a6 1) 96 a6 a4) 97 a6 a5) 86 15) a6) 86 15) + 1)) Q) : am_AtN m9_part 173 [some (vr 86), some (vi a1), some (vi a2), some (vi a3), some (vi a4), some (vi a5), some (vi a6)] [] KS M Q := by
  refine s_aload_n (show decode (am_cc m9_part) 173 = .ok (.aload_n 0, 1) by decide +kernel) rfl ?_
  refine s_getf (k := 13) (v := vr 98) (show decode (am_cc m9_part) 174 = .ok (.getfield 44, 3) by decide +kernel) kd86 (by decide) rfl jnX9 (by decide) lf_RX9_44 rfl ?_
  refine s_iload (show decode (am_cc m9_part) 177 = .ok (.iload 6, 2) by decide +kernel) rfl ?_
  refine s_iconst (show decode (am_cc m9_part) 179 = .ok (.iconst 1, 1) by decide +kernel) ⟨by decide, by decide⟩ ?_
  refine s_bastore (show decode (am_cc m9_part) 180 = .ok (.bastore, 1) by decide +kernel) kd98 h1 h2 (by decide) ?_
  refine s_aload_n (show decode (am_cc m9_part) 181 = .ok (.aload_n 0, 1) by decide +kernel) rfl ?_
  refine s_getf (k := 11) (v := vr 96) (show decode (am_cc m9_part) 182 = .ok (.getfield 38, 3) by decide +kernel) kd86 (by decide) rfl jnX9 (by decide) lf_RX9_38 rfl ?_
  refine s_iload (show decode (am_cc m9_part) 185 = .ok (.iload 6, 2) by decide +kernel) rfl ?_
  refine s_iload (show decode (am_cc m9_part) 187 = .ok (.iload 4, 2) by decide +kernel) rfl ?_
  refine s_iastore (show decode (am_cc m9_part) 189 = .ok (.iastore, 1) by decide +kernel) kd96 h3 h4 ?_
  refine s_aload_n (show decode (am_cc m9_part) 190 = .ok (.aload_n 0, 1) by decide +kernel) rfl ?_
  refine s_getf (k := 12) (v := vr 97) (show decode (am_cc m9_part) 191 = .ok (.getfield 41, 3) by decide +kernel) kd86 (by decide) rfl jnX9 (by decide) lf_RX9_41 rfl ?_
  refine s_iload (show decode (am_cc m9_part) 194 = .ok (.iload 6, 2) by decide +kernel) rfl ?_
  refine s_iload (show decode (am_cc m9_part) 196 = .ok (.iload 5, 2) by decide +kernel) rfl ?_
  refine s_iastore (show decode (am_cc m9_part) 198 = .ok (.iastore, 1) by decide +kernel) kd97 h5 h6 ?_
  refine s_aload_n (show decode (am_cc m9_part) 199 = .ok (.aload_n 0, 1) by decide +kernel) rfl ?_
  refine s_getf (k := 10) (v := vr 95) (show decode (am_cc m9_part) 200 = .ok (.getfield 35, 3) by decide +kernel) kd86 (by decide) rfl jnX9 (by decide) lf_RX9_35 rfl ?_
  refine s_aload_n (show decode (am_cc m9_part) 203 = .ok (.aload_n 0, 1) by decide +kernel) rfl ?_
  refine s_getf (k := 15) (v := vi ((am_up (am_up (am_up M 98 a6 1) 96 a6 a4) 97 a6 a5) 86 15)) (show decode (am_cc m9_part) 204 = .ok (.getfield 174, 3) by decide +kernel) kd86 (by decide) rfl jnX9 (by decide) lf_RX9_174 rfl ?_
  refine s_iload (show decode (am_cc m9_part) 207 = .ok (.iload 6, 2) by decide +kernel) rfl ?_
  refine s_iastore (show decode (am_cc m9_part) 209 = .ok (.iastore, 1) by decide +kernel) kd95 h7 h8 ?_
  refine s_aload_n (show decode (am_cc m9_part) 210 = .ok (.aload_n 0, 1) by decide +kernel) rfl ?_
  refine s_dupr (show decode (am_cc m9_part) 211 = .ok (.dup, 1) by decide +kernel) ?_
  refine s_getf (k := 15) (v := vi ((am_up (am_up (am_up (am_up M 98 a6 1) 96 a6 a4) 97 a6 a5) 95 ((am_up (am_up (am_up M 98 a6 1) 96 a6 a4) 97 a6 a5) 86 15) a6) 86 15)) (show decode (am_cc m9_part) 212 = .ok (.getfield 174, 3) by decide +kernel) kd86 (by decide) rfl jnX9 (by decide) lf_RX9_174 rfl ?_
  refine s_iconst (show decode (am_cc m9_part) 215 = .ok (.iconst 1, 1) by decide +kernel) ⟨by decide, by decide⟩ ?_
  refine s_iadd (show decode (am_cc m9_part) 216 = .ok (.iadd, 1) by decide +kernel) h9 ?_
  refine s_putf (k := 15) (x := ((am_up (am_up (am_up (am_up M 98 a6 1) 96 a6 a4) 97 a6 a5) 95 ((am_up (am_up (am_up M 98 a6 1) 96 a6 a4) 97 a6 a5) 86 15) a6) 86 15) + 1) (ty0 := tyX9) (show decode (am_cc m9_part) 217 = .ok (.putfield 174, 3) by decide +kernel) kd86 (by decide) rfl jnX9 tyX9_ok nmX9 (by decide) lf_RX9_174 rfl (Or.inl ⟨rfl, rfl, rfl⟩) ?_
  exact k
theorem g9_part_220 {a1 a2 a3 a4 a5 a6 : Int} {M : am_M} {Q : Option am_V → am_M → Prop} (h1 : -2147483648 ≤ a5 + 1 ∧ a5 + 1 ≤ 2147483647) (k : am_AtN m9_part 108 [some (vr 86), some (vi a1), some (vi a2), some (vi a3), some (vi a4), some (vi (a5 + 1)), none] [] KS M Q) : am_AtN m9_part 220 [some (vr 86), some (vi a1), some (vi a2), some (vi a3), some (vi a4), some (vi a5), some (vi a6)] [] KS M Q := by
  refine s_iinc (show decode (am_cc m9_part) 220 = .ok (.iinc 5 1, 3) by decide +kernel) rfl (by decide) h1 ?_
  refine s_goto (tgt := 108) (show decode (am_cc m9_part) 223 = .ok (.goto (-115), 3) by decide +kernel) (by decide) ?_
  refine am_fg 6 ?_
  exact k
theorem g9_part_226 {a1 a2 a3 a4 a5 : Int} {M : am_M} {Q : Option am_V → am_M → Prop} (h1 : -2147483648 ≤ a3 + 1 ∧ a3 + 1 ≤ 2147483647) (k : am_AtN m9_part 50 [some (vr 86), some (vi a1), some (vi a2), some (vi (a3 + 1)), none, none, none] [] KS M Q) : am_AtN m9_part 226 [some (vr 86), some (vi a1), some (vi a2), some (vi a3), some (vi a4), some (vi a5), none] [] KS M Q := by
  refine s_iinc (show decode (am_cc m9_part) 226 = .ok (.iinc 3 1, 3) by decide +kernel) rfl (by decide) h1 ?_
  refine s_goto (tgt := 50) (show decode (am_cc m9_part) 229 = .ok (.goto (-179), 3) by decide +kernel) (by decide) ?_
  refine am_fg 4 ?_
  refine am_fg 5 ?_
  exact k
theorem g9_part_232 {a1 a2 a3 : Int} {M : am_M} {Q : Option am_V → am_M → Prop} (k : Q (some (vi (-9))) M) : am_AtN m9_part 232 [some (vr 86), some (vi a1), some (vi a2), some (vi a3), none, none, none] [] KS M Q := by
  refine s_bipush (show decode (am_cc m9_part) 232 = .ok (.bipush (-9), 2) by decide +kernel) ⟨by decide, by decide⟩ (by decide) ?_
  exact s_ireturn (show decode (am_cc m9_part) 234 = .ok (.ireturn, 1) by decide +kernel) rfl k
theorem g9_follows_0 {a1 a2 : Int} {M : am_M} {Q : Option am_V → am_M → Prop} (k : am_CallN m9_noSentence [vi a1] KS (am_up M 86 0 0) (fun r M' => am_AtN m9_follows 9 [some (vr 86), some (vi a1), some (vi a2)] (r.toList ++ []) KS M' Q)) : am_AtN m9_follows 0 [some (vr 86), some (vi a1), some (vi a2)] [] KS M Q := by
  refine s_aload_n (show decode (am_cc m9_follows) 0 = .ok (.aload_n 0, 1) by decide +kernel) rfl ?_
  refine s_iconst (show decode (am_cc m9_follows) 1 = .ok (.iconst 0, 1) by decide +kernel) ⟨by decide, by decide⟩ ?_
  refine s_putf (k := 0) (x := 0) (ty0 := tyX9) (show decode (am_cc m9_follows) 2 = .ok (.putfield 95, 3) by decide +kernel) kd86 (by decide) rfl jnX9 tyX9_ok nmX9 (by decide) lf_RX9_95 rfl (Or.inl ⟨rfl, rfl, rfl⟩) ?_
  refine s_iload_n (show decode (am_cc m9_follows) 5 = .ok (.iload_n 1, 1) by decide +kernel) rfl ?_
  exact n_callS (as := [vi a1]) (stk := []) (show decode (am_cc m9_follows) 6 = .ok (.invokestatic 122, 3) by decide +kernel) lk_RX9_122 (by decide) (Nat.le_of_ble_eq_true rfl) ⟨rfl, rfl⟩ k
theorem g9_follows_9 {a1 a2 t0 : Int} {M : am_M} {Q : Option am_V → am_M → Prop} (k1 : ¬ t0 = 0 → am_AtN m9_follows 19 [some (vr 86), some (vi a1), some (vi a2)] [] KS M Q) (k2 : t0 = 0 → am_AtN m9_follows 12 [some (vr 86), some (vi a1), some (vi a2)] [] KS M Q) : am_AtN m9_follows 9 [some (vr 86), some (vi a1), some (vi a2)] [vi t0] KS M Q := by
  exact s_if_ne (tgt := 19) (show decode (am_cc m9_follows) 9 = .ok (.ifCond .ne 10, 3) by decide +kernel) (by decide) k1 k2
theorem g9_follows_12 {a1 a2 : Int} {M : am_M} {Q : Option am_V → am_M → Prop} (k : am_CallN m9_noSentence [vi a2] KS M (fun r M' => am_AtN m9_follows 16 [some (vr 86), some (vi a1), some (vi a2)] (r.toList ++ []) KS M' Q)) : am_AtN m9_follows 12 [some (vr 86), some (vi a1), some (vi a2)] [] KS M Q := by
  refine s_iload_n (show decode (am_cc m9_follows) 12 = .ok (.iload_n 2, 1) by decide +kernel) rfl ?_
  exact n_callS (as := [vi a2]) (stk := []) (show decode (am_cc m9_follows) 13 = .ok (.invokestatic 122, 3) by decide +kernel) lk_RX9_122 (by decide) (Nat.le_of_ble_eq_true rfl) ⟨rfl, rfl⟩ k
theorem g9_follows_16 {a1 a2 t0 : Int} {M : am_M} {Q : Option am_V → am_M → Prop} (k1 : t0 = 0 → am_AtN m9_follows 23 [some (vr 86), some (vi a1), some (vi a2)] [] KS M Q) (k2 : ¬ (t0 = 0) → am_AtN m9_follows 19 [some (vr 86), some (vi a1), some (vi a2)] [] KS M Q) : am_AtN m9_follows 16 [some (vr 86), some (vi a1), some (vi a2)] [vi t0] KS M Q := by
  exact s_if_eq (tgt := 23) (show decode (am_cc m9_follows) 16 = .ok (.ifCond .eq 7, 3) by decide +kernel) (by decide) k1 k2
theorem g9_follows_19 {a1 a2 : Int} {M : am_M} {Q : Option am_V → am_M → Prop} (k : am_AtN m9_follows 39 [some (vr 86), some (vi a1), some (vi a2)] [vi (-1)] KS M Q) : am_AtN m9_follows 19 [some (vr 86), some (vi a1), some (vi a2)] [] KS M Q := by
  refine s_iconst (show decode (am_cc m9_follows) 19 = .ok (.iconst (-1), 1) by decide +kernel) ⟨by decide, by decide⟩ ?_
  refine s_goto (tgt := 39) (show decode (am_cc m9_follows) 20 = .ok (.goto 19, 3) by decide +kernel) (by decide) ?_
  exact k
theorem g9_follows_23 {a1 a2 : Int} {M : am_M} {Q : Option am_V → am_M → Prop} (k : am_CallN m9_part [vr 86, vi a1, vi a2] KS M (fun r M' => am_AtN m9_follows 29 [some (vr 86), some (vi a1), some (vi a2)] (r.toList ++ []) KS M' Q)) : am_AtN m9_follows 23 [some (vr 86), some (vi a1), some (vi a2)] [] KS M Q := by
  refine s_aload_n (show decode (am_cc m9_follows) 23 = .ok (.aload_n 0, 1) by decide +kernel) rfl ?_
  refine s_iload_n (show decode (am_cc m9_follows) 24 = .ok (.iload_n 1, 1) by decide +kernel) rfl ?_
  refine s_iload_n (show decode (am_cc m9_follows) 25 = .ok (.iload_n 2, 1) by decide +kernel) rfl ?_
  exact n_callV (as := [vi a1, vi a2]) (stk := []) (show decode (am_cc m9_follows) 26 = .ok (.invokevirtual 232, 3) by decide +kernel) lk_RX9_232 kd86 (by decide) rfl rfl (by decide) (Nat.le_of_ble_eq_true rfl) ⟨rfl, rfl⟩ k
theorem g9_follows_29 {a1 a2 t0 : Int} {M : am_M} {Q : Option am_V → am_M → Prop} (k1 : ¬ t0 = -9 → am_AtN m9_follows 38 [some (vr 86), some (vi a1), some (vi a2)] [] KS M Q) (k2 : t0 = -9 → am_AtN m9_follows 34 [some (vr 86), some (vi a1), some (vi a2)] [] KS M Q) : am_AtN m9_follows 29 [some (vr 86), some (vi a1), some (vi a2)] [vi t0] KS M Q := by
  refine s_bipush (show decode (am_cc m9_follows) 29 = .ok (.bipush (-9), 2) by decide +kernel) ⟨by decide, by decide⟩ (by decide) ?_
  exact s_icmp_ne (tgt := 38) (show decode (am_cc m9_follows) 31 = .ok (.if_icmp .ne 7, 3) by decide +kernel) (by decide) k1 k2
theorem g9_follows_34 {a1 a2 : Int} {M : am_M} {Q : Option am_V → am_M → Prop} (k : am_AtN m9_follows 39 [some (vr 86), some (vi a1), some (vi a2)] [vi 1] KS M Q) : am_AtN m9_follows 34 [some (vr 86), some (vi a1), some (vi a2)] [] KS M Q := by
  refine s_iconst (show decode (am_cc m9_follows) 34 = .ok (.iconst 1, 1) by decide +kernel) ⟨by decide, by decide⟩ ?_
  refine s_goto (tgt := 39) (show decode (am_cc m9_follows) 35 = .ok (.goto 4, 3) by decide +kernel) (by decide) ?_
  exact k
theorem g9_follows_38 {a1 a2 : Int} {M : am_M} {Q : Option am_V → am_M → Prop} (k : am_AtN m9_follows 39 [some (vr 86), some (vi a1), some (vi a2)] [vi 0] KS M Q) : am_AtN m9_follows 38 [some (vr 86), some (vi a1), some (vi a2)] [] KS M Q := by
  refine s_iconst (show decode (am_cc m9_follows) 38 = .ok (.iconst 0, 1) by decide +kernel) ⟨by decide, by decide⟩ ?_
  exact k
theorem g9_follows_39 {a1 a2 t0 : Int} {M : am_M} {Q : Option am_V → am_M → Prop} (k : Q (some (vi t0)) M) : am_AtN m9_follows 39 [some (vr 86), some (vi a1), some (vi a2)] [vi t0] KS M Q := by
  exact s_ireturn (show decode (am_cc m9_follows) 39 = .ok (.ireturn, 1) by decide +kernel) rfl k
theorem g9_unless_0 {a1 a2 a3 : Int} {M : am_M} {Q : Option am_V → am_M → Prop} (k : am_CallN m9_noSentence [vi a1] KS (am_up M 86 0 0) (fun r M' => am_AtN m9_unless 9 [some (vr 86), some (vi a1), some (vi a2), some (vi a3), none] (r.toList ++ []) KS M' Q)) : am_AtN m9_unless 0 [some (vr 86), some (vi a1), some (vi a2), some (vi a3), none] [] KS M Q := by
  refine s_aload_n (show decode (am_cc m9_unless) 0 = .ok (.aload_n 0, 1) by decide +kernel) rfl ?_
  refine s_iconst (show decode (am_cc m9_unless) 1 = .ok (.iconst 0, 1) by decide +kernel) ⟨by decide, by decide⟩ ?_
  refine s_putf (k := 0) (x := 0) (ty0 := tyX9) (show decode (am_cc m9_unless) 2 = .ok (.putfield 95, 3) by decide +kernel) kd86 (by decide) rfl jnX9 tyX9_ok nmX9 (by decide) lf_RX9_95 rfl (Or.inl ⟨rfl, rfl, rfl⟩) ?_
  refine s_iload_n (show decode (am_cc m9_unless) 5 = .ok (.iload_n 1, 1) by decide +kernel) rfl ?_
  exact n_callS (as := [vi a1]) (stk := []) (show decode (am_cc m9_unless) 6 = .ok (.invokestatic 122, 3) by decide +kernel) lk_RX9_122 (by decide) (Nat.le_of_ble_eq_true rfl) ⟨rfl, rfl⟩ k
theorem g9_unless_9 {a1 a2 a3 t0 : Int} {M : am_M} {Q : Option am_V → am_M → Prop} (k1 : ¬ t0 = 0 → am_AtN m9_unless 19 [some (vr 86), some (vi a1), some (vi a2), some (vi a3), none] [] KS M Q) (k2 : t0 = 0 → am_AtN m9_unless 12 [some (vr 86), some (vi a1), some (vi a2), some (vi a3), none] [] KS M Q) : am_AtN m9_unless 9 [some (vr 86), some (vi a1), some (vi a2), some (vi a3), none] [vi t0] KS M Q := by
  exact s_if_ne (tgt := 19) (show decode (am_cc m9_unless) 9 = .ok (.ifCond .ne 10, 3) by decide +kernel) (by decide) k1 k2
theorem g9_unless_12 {a1 a2 a3 : Int} {M : am_M} {Q : Option am_V → am_M → Prop} (k : am_CallN m9_noSentence [vi a2] KS M (fun r M' => am_AtN m9_unless 16 [some (vr 86), some (vi a1), some (vi a2), some (vi a3), none] (r.toList ++ []) KS M' Q)) : am_AtN m9_unless 12 [some (vr 86), some (vi a1), some (vi a2), some (vi a3), none] [] KS M Q := by
  refine s_iload_n (show decode (am_cc m9_unless) 12 = .ok (.iload_n 2, 1) by decide +kernel) rfl ?_
  exact n_callS (as := [vi a2]) (stk := []) (show decode (am_cc m9_unless) 13 = .ok (.invokestatic 122, 3) by decide +kernel) lk_RX9_122 (by decide) (Nat.le_of_ble_eq_true rfl) ⟨rfl, rfl⟩ k
theorem g9_unless_16 {a1 a2 a3 t0 : Int} {M : am_M} {Q : Option am_V → am_M → Prop} (k1 : t0 = 0 → am_AtN m9_unless 21 [some (vr 86), some (vi a1), some (vi a2), some (vi a3), none] [] KS M Q) (k2 : ¬ (t0 = 0) → am_AtN m9_unless 19 [some (vr 86), some (vi a1), some (vi a2), some (vi a3), none] [] KS M Q) : am_AtN m9_unless 16 [some (vr 86), some (vi a1), some (vi a2), some (vi a3), none] [vi t0] KS M Q := by
  exact s_if_eq (tgt := 21) (show decode (am_cc m9_unless) 16 = .ok (.ifCond .eq 5, 3) by decide +kernel) (by decide) k1 k2
theorem g9_unless_19 {a1 a2 a3 : Int} {M : am_M} {Q : Option am_V → am_M → Prop} (k : Q (some (vi (-1))) M) : am_AtN m9_unless 19 [some (vr 86), some (vi a1), some (vi a2), some (vi a3), none] [] KS M Q := by
  refine s_iconst (show decode (am_cc m9_unless) 19 = .ok (.iconst (-1), 1) by decide +kernel) ⟨by decide, by decide⟩ ?_
  exact s_ireturn (show decode (am_cc m9_unless) 20 = .ok (.ireturn, 1) by decide +kernel) rfl k
theorem g9_unless_21 {a1 a2 a3 : Int} {M : am_M} {Q : Option am_V → am_M → Prop} (k1 : -1 ≤ a3 → am_AtN m9_unless 29 [some (vr 86), some (vi a1), some (vi a2), some (vi a3), none] [] KS M Q) (k2 : ¬ (-1 ≤ a3) → am_AtN m9_unless 26 [some (vr 86), some (vi a1), some (vi a2), some (vi a3), none] [] KS M Q) : am_AtN m9_unless 21 [some (vr 86), some (vi a1), some (vi a2), some (vi a3), none] [] KS M Q := by
  refine s_iload_n (show decode (am_cc m9_unless) 21 = .ok (.iload_n 3, 1) by decide +kernel) rfl ?_
  refine s_iconst (show decode (am_cc m9_unless) 22 = .ok (.iconst (-1), 1) by decide +kernel) ⟨by decide, by decide⟩ ?_
  exact s_icmp_ge (tgt := 29) (show decode (am_cc m9_unless) 23 = .ok (.if_icmp .ge 6, 3) by decide +kernel) (by decide) k1 k2
theorem g9_unless_26 {a1 a2 a3 : Int} {M : am_M} {Q : Option am_V → am_M → Prop} (k : Q (some (vi (-2))) M) : am_AtN m9_unless 26 [some (vr 86), some (vi a1), some (vi a2), some (vi a3), none] [] KS M Q := by
  refine s_bipush (show decode (am_cc m9_unless) 26 = .ok (.bipush (-2), 2) by decide +kernel) ⟨by decide, by decide⟩ (by decide) ?_
  exact s_ireturn (show decode (am_cc m9_unless) 28 = .ok (.ireturn, 1) by decide +kernel) rfl k
theorem g9_unless_29 {a1 a2 a3 : Int} {M : am_M} {Q : Option am_V → am_M → Prop} (k : am_CallN m9_part [vr 86, vi a1, vi a2] KS M (fun r M' => am_AtN m9_unless 35 [some (vr 86), some (vi a1), some (vi a2), some (vi a3), none] (r.toList ++ []) KS M' Q)) : am_AtN m9_unless 29 [some (vr 86), some (vi a1), some (vi a2), some (vi a3), none] [] KS M Q := by
  refine s_aload_n (show decode (am_cc m9_unless) 29 = .ok (.aload_n 0, 1) by decide +kernel) rfl ?_
  refine s_iload_n (show decode (am_cc m9_unless) 30 = .ok (.iload_n 1, 1) by decide +kernel) rfl ?_
  refine s_iload_n (show decode (am_cc m9_unless) 31 = .ok (.iload_n 2, 1) by decide +kernel) rfl ?_
  exact n_callV (as := [vi a1, vi a2]) (stk := []) (show decode (am_cc m9_unless) 32 = .ok (.invokevirtual 232, 3) by decide +kernel) lk_RX9_232 kd86 (by decide) rfl rfl (by decide) (Nat.le_of_ble_eq_true rfl) ⟨rfl, rfl⟩ k
theorem g9_unless_35 {a1 a2 a3 t0 : Int} {M : am_M} {Q : Option am_V → am_M → Prop} (k1 : ¬ t0 = -9 → am_AtN m9_unless 49 [some (vr 86), some (vi a1), some (vi a2), some (vi a3), some (vi t0)] [] KS M Q) (k2 : t0 = -9 → am_AtN m9_unless 44 [some (vr 86), some (vi a1), some (vi a2), some (vi a3), some (vi t0)] [] KS M Q) : am_AtN m9_unless 35 [some (vr 86), some (vi a1), some (vi a2), some (vi a3), none] [vi t0] KS M Q := by
  refine s_istore (show decode (am_cc m9_unless) 35 = .ok (.istore 4, 2) by decide +kernel) (by decide) ?_
  refine s_iload (show decode (am_cc m9_unless) 37 = .ok (.iload 4, 2) by decide +kernel) rfl ?_
  refine s_bipush (show decode (am_cc m9_unless) 39 = .ok (.bipush (-9), 2) by decide +kernel) ⟨by decide, by decide⟩ (by decide) ?_
  exact s_icmp_ne (tgt := 49) (show decode (am_cc m9_unless) 41 = .ok (.if_icmp .ne 8, 3) by decide +kernel) (by decide) k1 k2
theorem g9_unless_44 {a1 a2 a3 a4 : Int} {M : am_M} {Q : Option am_V → am_M → Prop} (k : am_AtN m9_unless 56 [some (vr 86), some (vi a1), some (vi a2), some (vi a3), some (vi a4)] [vi (-9)] KS M Q) : am_AtN m9_unless 44 [some (vr 86), some (vi a1), some (vi a2), some (vi a3), some (vi a4)] [] KS M Q := by
  refine s_bipush (show decode (am_cc m9_unless) 44 = .ok (.bipush (-9), 2) by decide +kernel) ⟨by decide, by decide⟩ (by decide) ?_
  refine s_goto (tgt := 56) (show decode (am_cc m9_unless) 46 = .ok (.goto 10, 3) by decide +kernel) (by decide) ?_
  exact k
theorem g9_unless_49 {a1 a2 a3 a4 : Int} {M : am_M} {Q : Option am_V → am_M → Prop} (k : am_CallN m9_told [vr 86, vi a4, vi a3] KS M (fun r M' => am_AtN m9_unless 56 [some (vr 86), some (vi a1), some (vi a2), some (vi a3), some (vi a4)] (r.toList ++ []) KS M' Q)) : am_AtN m9_unless 49 [some (vr 86), some (vi a1), some (vi a2), some (vi a3), some (vi a4)] [] KS M Q := by
  refine s_aload_n (show decode (am_cc m9_unless) 49 = .ok (.aload_n 0, 1) by decide +kernel) rfl ?_
  refine s_iload (show decode (am_cc m9_unless) 50 = .ok (.iload 4, 2) by decide +kernel) rfl ?_
  refine s_iload_n (show decode (am_cc m9_unless) 52 = .ok (.iload_n 3, 1) by decide +kernel) rfl ?_
  exact n_callV (as := [vi a4, vi a3]) (stk := []) (show decode (am_cc m9_unless) 53 = .ok (.invokevirtual 192, 3) by decide +kernel) lk_RX9_192 kd86 (by decide) rfl rfl (by decide) (Nat.le_of_ble_eq_true rfl) ⟨rfl, rfl⟩ k
theorem g9_unless_56 {a1 a2 a3 a4 t0 : Int} {M : am_M} {Q : Option am_V → am_M → Prop} (k : Q (some (vi t0)) M) : am_AtN m9_unless 56 [some (vr 86), some (vi a1), some (vi a2), some (vi a3), some (vi a4)] [vi t0] KS M Q := by
  exact s_ireturn (show decode (am_cc m9_unless) 56 = .ok (.ireturn, 1) by decide +kernel) rfl k
theorem g9_reckon_0 {a1 a2 : Int} {M : am_M} {Q : Option am_V → am_M → Prop} (k : am_AtN m9_reckon 2 [some (vr 86), some (vi a1), some (vi a2), some (vi 0), none, none, none, none] [] KS M Q) : am_AtN m9_reckon 0 [some (vr 86), some (vi a1), some (vi a2), none, none, none, none, none] [] KS M Q := by
  refine s_iconst (show decode (am_cc m9_reckon) 0 = .ok (.iconst 0, 1) by decide +kernel) ⟨by decide, by decide⟩ ?_
  refine s_istore_n (show decode (am_cc m9_reckon) 1 = .ok (.istore_n 3, 1) by decide +kernel) (by decide) ?_
  exact k
theorem g9_reckon_2 {a1 a2 a3 : Int} {M : am_M} {Q : Option am_V → am_M → Prop} (k1 : a2 < a3 → am_AtN m9_reckon 125 [some (vr 86), some (vi a1), some (vi a2), some (vi a3), none, none, none, none] [] KS M Q) (k2 : ¬ (a2 < a3) → am_AtN m9_reckon 7 [some (vr 86), some (vi a1), some (vi a2), some (vi a3), none, none, none, none] [] KS M Q) : am_AtN m9_reckon 2 [some (vr 86), some (vi a1), some (vi a2), some (vi a3), none, none, none, none] [] KS M Q := by
  refine s_iload_n (show decode (am_cc m9_reckon) 2 = .ok (.iload_n 3, 1) by decide +kernel) rfl ?_
  refine s_iload_n (show decode (am_cc m9_reckon) 3 = .ok (.iload_n 2, 1) by decide +kernel) rfl ?_
  exact s_icmp_gt (tgt := 125) (show decode (am_cc m9_reckon) 4 = .ok (.if_icmp .gt 121, 3) by decide +kernel) (by decide) k1 k2
theorem g9_reckon_7 {a1 a2 a3 : Int} {M : am_M} {Q : Option am_V → am_M → Prop} (k : am_AtN m9_reckon 10 [some (vr 86), some (vi a1), some (vi a2), some (vi a3), some (vi 0), none, none, none] [] KS M Q) : am_AtN m9_reckon 7 [some (vr 86), some (vi a1), some (vi a2), some (vi a3), none, none, none, none] [] KS M Q := by
  refine s_iconst (show decode (am_cc m9_reckon) 7 = .ok (.iconst 0, 1) by decide +kernel) ⟨by decide, by decide⟩ ?_
  refine s_istore (show decode (am_cc m9_reckon) 8 = .ok (.istore 4, 2) by decide +kernel) (by decide) ?_
  exact k
theorem g9_reckon_10 {a1 a2 a3 a4 : Int} {M : am_M} {Q : Option am_V → am_M → Prop} (k1 : 6 ≤ a4 → am_AtN m9_reckon 119 [some (vr 86), some (vi a1), some (vi a2), some (vi a3), some (vi a4), none, none, none] [] KS M Q) (k2 : ¬ (6 ≤ a4) → am_AtN m9_reckon 17 [some (vr 86), some (vi a1), some (vi a2), some (vi a3), some (vi a4), none, none, none] [] KS M Q) : am_AtN m9_reckon 10 [some (vr 86), some (vi a1), some (vi a2), some (vi a3), some (vi a4), none, none, none] [] KS M Q := by
  refine s_iload (show decode (am_cc m9_reckon) 10 = .ok (.iload 4, 2) by decide +kernel) rfl ?_
  refine s_bipush (show decode (am_cc m9_reckon) 12 = .ok (.bipush 6, 2) by decide +kernel) ⟨by decide, by decide⟩ (by decide) ?_
  exact s_icmp_ge (tgt := 119) (show decode (am_cc m9_reckon) 14 = .ok (.if_icmp .ge 105, 3) by decide +kernel) (by decide) k1 k2
theorem g9_reckon_17 {a1 a2 a3 a4 : Int} {M : am_M} {Q : Option am_V → am_M → Prop} (k1 : ¬ a3 = 0 → am_AtN m9_reckon 40 [some (vr 86), some (vi a1), some (vi a2), some (vi a3), some (vi a4), none, none, none] [] KS M Q) (k2 : a3 = 0 → am_AtN m9_reckon 21 [some (vr 86), some (vi a1), some (vi a2), some (vi a3), some (vi a4), none, none, none] [] KS M Q) : am_AtN m9_reckon 17 [some (vr 86), some (vi a1), some (vi a2), some (vi a3), some (vi a4), none, none, none] [] KS M Q := by
  refine s_iload_n (show decode (am_cc m9_reckon) 17 = .ok (.iload_n 3, 1) by decide +kernel) rfl ?_
  exact s_if_ne (tgt := 40) (show decode (am_cc m9_reckon) 18 = .ok (.ifCond .ne 22, 3) by decide +kernel) (by decide) k1 k2
theorem g9_reckon_21 {a1 a2 a3 a4 : Int} {M : am_M} {Q : Option am_V → am_M → Prop} (h1 : -2147483648 ≤ 6 * a1 ∧ 6 * a1 ≤ 2147483647) (h2 : -2147483648 ≤ (6 * a1) + a4 ∧ (6 * a1) + a4 ≤ 2147483647) (h3 : 0 ≤ (6 * a1) + a4) (h4 : (6 * a1) + a4 < 48) (k1 : M 88 ((6 * a1) + a4) = 0 → am_AtN m9_reckon 40 [some (vr 86), some (vi a1), some (vi a2), some (vi a3), some (vi a4), none, none, none] [] KS M Q) (k2 : ¬ (M 88 ((6 * a1) + a4) = 0) → am_AtN m9_reckon 36 [some (vr 86), some (vi a1), some (vi a2), some (vi a3), some (vi a4), none, none, none] [] KS M Q) : am_AtN m9_reckon 21 [some (vr 86), some (vi a1), some (vi a2), some (vi a3), some (vi a4), none, none, none] [] KS M Q := by
  refine s_aload_n (show decode (am_cc m9_reckon) 21 = .ok (.aload_n 0, 1) by decide +kernel) rfl ?_
  refine s_getf (k := 3) (v := vr 88) (show decode (am_cc m9_reckon) 22 = .ok (.getfield 13, 3) by decide +kernel) kd86 (by decide) rfl jnX9 (by decide) lf_RX9_13 rfl ?_
  refine s_bipush (show decode (am_cc m9_reckon) 25 = .ok (.bipush 6, 2) by decide +kernel) ⟨by decide, by decide⟩ (by decide) ?_
  refine s_iload_n (show decode (am_cc m9_reckon) 27 = .ok (.iload_n 1, 1) by decide +kernel) rfl ?_
  refine s_imul (show decode (am_cc m9_reckon) 28 = .ok (.imul, 1) by decide +kernel) h1 ?_
  refine s_iload (show decode (am_cc m9_reckon) 29 = .ok (.iload 4, 2) by decide +kernel) rfl ?_
  refine s_iadd (show decode (am_cc m9_reckon) 31 = .ok (.iadd, 1) by decide +kernel) h2 ?_
  refine s_baload (show decode (am_cc m9_reckon) 32 = .ok (.baload, 1) by decide +kernel) kd88 h3 h4 ?_
  exact s_if_eq (tgt := 40) (show decode (am_cc m9_reckon) 33 = .ok (.ifCond .eq 7, 3) by decide +kernel) (by decide) k1 k2
theorem g9_reckon_36 {a1 a2 a3 a4 : Int} {M : am_M} {Q : Option am_V → am_M → Prop} (k : am_AtN m9_reckon 41 [some (vr 86), some (vi a1), some (vi a2), some (vi a3), some (vi a4), none, none, none] [vl 1] KS M Q) : am_AtN m9_reckon 36 [some (vr 86), some (vi a1), some (vi a2), some (vi a3), some (vi a4), none, none, none] [] KS M Q := by
  refine s_lconst (v := 1) (show decode (am_cc m9_reckon) 36 = .ok (.lconst 1, 1) by decide +kernel) (by decide) ⟨by decide, by decide⟩ ?_
  refine s_goto (tgt := 41) (show decode (am_cc m9_reckon) 37 = .ok (.goto 4, 3) by decide +kernel) (by decide) ?_
  exact k
theorem g9_reckon_40 {a1 a2 a3 a4 : Int} {M : am_M} {Q : Option am_V → am_M → Prop} (k : am_AtN m9_reckon 41 [some (vr 86), some (vi a1), some (vi a2), some (vi a3), some (vi a4), none, none, none] [vl 0] KS M Q) : am_AtN m9_reckon 40 [some (vr 86), some (vi a1), some (vi a2), some (vi a3), some (vi a4), none, none, none] [] KS M Q := by
  refine s_lconst (v := 0) (show decode (am_cc m9_reckon) 40 = .ok (.lconst 0, 1) by decide +kernel) (by decide) ⟨by decide, by decide⟩ ?_
  exact k
theorem g9_reckon_41 {a1 a2 a3 a4 t0 : Int} {M : am_M} {Q : Option am_V → am_M → Prop} (k : am_AtN m9_reckon 46 [some (vr 86), some (vi a1), some (vi a2), some (vi a3), some (vi a4), some (vl t0), none, some (vi 0)] [] KS M Q) : am_AtN m9_reckon 41 [some (vr 86), some (vi a1), some (vi a2), some (vi a3), some (vi a4), none, none, none] [vl t0] KS M Q := by
  refine s_lstore (show decode (am_cc m9_reckon) 41 = .ok (.lstore 5, 2) by decide +kernel) (by decide) ?_
  refine s_iconst (show decode (am_cc m9_reckon) 43 = .ok (.iconst 0, 1) by decide +kernel) ⟨by decide, by decide⟩ ?_
  refine s_istore (show decode (am_cc m9_reckon) 44 = .ok (.istore 7, 2) by decide +kernel) (by decide) ?_
  exact k
theorem g9_reckon_46 {a1 a2 a3 a4 a5 a7 : Int} {M : am_M} {Q : Option am_V → am_M → Prop} (k1 : M 86 1 ≤ a7 → am_AtN m9_reckon 99 [some (vr 86), some (vi a1), some (vi a2), some (vi a3), some (vi a4), some (vl a5), none, some (vi a7)] [] KS M Q) (k2 : ¬ (M 86 1 ≤ a7) → am_AtN m9_reckon 55 [some (vr 86), some (vi a1), some (vi a2), some (vi a3), some (vi a4), some (vl a5), none, some (vi a7)] [] KS M Q) : am_AtN m9_reckon 46 [some (vr 86), some (vi a1), some (vi a2), some (vi a3), some (vi a4), some (vl a5), none, some (vi a7)] [] KS M Q := by
  refine s_iload (show decode (am_cc m9_reckon) 46 = .ok (.iload 7, 2) by decide +kernel) rfl ?_
  refine s_aload_n (show decode (am_cc m9_reckon) 48 = .ok (.aload_n 0, 1) by decide +kernel) rfl ?_
  refine s_getf (k := 1) (v := vi (M 86 1)) (show decode (am_cc m9_reckon) 49 = .ok (.getfield 99, 3) by decide +kernel) kd86 (by decide) rfl jnX9 (by decide) lf_RX9_99 rfl ?_
  exact s_icmp_ge (tgt := 99) (show decode (am_cc m9_reckon) 52 = .ok (.if_icmp .ge 47, 3) by decide +kernel) (by decide) k1 k2
theorem g9_reckon_55 {a1 a2 a3 a4 a5 a7 : Int} {M : am_M} {Q : Option am_V → am_M → Prop} (k1 : a3 ≤ 0 → am_AtN m9_reckon 99 [some (vr 86), some (vi a1), some (vi a2), some (vi a3), some (vi a4), some (vl a5), none, some (vi a7)] [] KS M Q) (k2 : ¬ (a3 ≤ 0) → am_AtN m9_reckon 59 [some (vr 86), some (vi a1), some (vi a2), some (vi a3), some (vi a4), some (vl a5), none, some (vi a7)] [] KS M Q) : am_AtN m9_reckon 55 [some (vr 86), some (vi a1), some (vi a2), some (vi a3), some (vi a4), some (vl a5), none, some (vi a7)] [] KS M Q := by
  refine s_iload_n (show decode (am_cc m9_reckon) 55 = .ok (.iload_n 3, 1) by decide +kernel) rfl ?_
  exact s_if_le (tgt := 99) (show decode (am_cc m9_reckon) 56 = .ok (.ifCond .le 43, 3) by decide +kernel) (by decide) k1 k2
theorem g9_reckon_59 {a1 a2 a3 a4 a5 a7 : Int} {M : am_M} {Q : Option am_V → am_M → Prop} (h1 : -2147483648 ≤ a3 - 1 ∧ a3 - 1 ≤ 2147483647) (h2 : -2147483648 ≤ 6 * (a3 - 1) ∧ 6 * (a3 - 1) ≤ 2147483647) (h3 : -2147483648 ≤ 24 * a1 ∧ 24 * a1 ≤ 2147483647) (h4 : -2147483648 ≤ 4 * a4 ∧ 4 * a4 ≤ 2147483647) (h5 : -2147483648 ≤ (24 * a1) + (4 * a4) ∧ (24 * a1) + (4 * a4) ≤ 2147483647) (h6 : -2147483648 ≤ ((24 * a1) + (4 * a4)) + a7 ∧ ((24 * a1) + (4 * a4)) + a7 ≤ 2147483647) (h7 : 0 ≤ ((24 * a1) + (4 * a4)) + a7) (h8 : ((24 * a1) + (4 * a4)) + a7 < 192) (h9 : -2147483648 ≤ (6 * (a3 - 1)) + (M 87 (((24 * a1) + (4 * a4)) + a7)) ∧ (6 * (a3 - 1)) + (M 87 (((24 * a1) + (4 * a4)) + a7)) ≤ 2147483647) (h10 : 0 ≤ (6 * (a3 - 1)) + (M 87 (((24 * a1) + (4 * a4)) + a7))) (h11 : (6 * (a3 - 1)) + (M 87 (((24 * a1) + (4 * a4)) + a7)) < 126) (h12 : -9223372036854775808 ≤ a5 + (M 108 ((6 * (a3 - 1)) + (M 87 (((24 * a1) + (4 * a4)) + a7)))) ∧ a5 + (M 108 ((6 * (a3 - 1)) + (M 87 (((24 * a1) + (4 * a4)) + a7)))) ≤ 9223372036854775807) (h13 : -2147483648 ≤ a7 + 1 ∧ a7 + 1 ≤ 2147483647) (k : am_AtN m9_reckon 46 [some (vr 86), some (vi a1), some (vi a2), some (vi a3), some (vi a4), some (vl (a5 + (M 108 ((6 * (a3 - 1)) + (M 87 (((24 * a1) + (4 * a4)) + a7)))))), none, some (vi (a7 + 1))] [] KS M Q) : am_AtN m9_reckon 59 [some (vr 86), some (vi a1), some (vi a2), some (vi a3), some (vi a4), some (vl a5), none, some (vi a7)] [] KS M Q := by
  refine s_lload (show decode (am_cc m9_reckon) 59 = .ok (.lload 5, 2) by decide +kernel) rfl ?_
  refine s_aload_n (show decode (am_cc m9_reckon) 61 = .ok (.aload_n 0, 1) by decide +kernel) rfl ?_
  refine s_getf (k := 29) (v := vr 108) (show decode (am_cc m9_reckon) 62 = .ok (.getfield 75, 3) by decide +kernel) kd86 (by decide) rfl jnX9 (by decide) lf_RX9_75 rfl ?_
  refine s_bipush (show decode (am_cc m9_reckon) 65 = .ok (.bipush 6, 2) by decide +kernel) ⟨by decide, by decide⟩ (by decide) ?_
  refine s_iload_n (show decode (am_cc m9_reckon) 67 = .ok (.iload_n 3, 1) by decide +kernel) rfl ?_
  refine s_iconst (show decode (am_cc m9_reckon) 68 = .ok (.iconst 1, 1) by decide +kernel) ⟨by decide, by decide⟩ ?_
  refine s_isub (show decode (am_cc m9_reckon) 69 = .ok (.isub, 1) by decide +kernel) h1 ?_
  refine s_imul (show decode (am_cc m9_reckon) 70 = .ok (.imul, 1) by decide +kernel) h2 ?_
  refine s_aload_n (show decode (am_cc m9_reckon) 71 = .ok (.aload_n 0, 1) by decide +kernel) rfl ?_
  refine s_getf (k := 2) (v := vr 87) (show decode (am_cc m9_reckon) 72 = .ok (.getfield 7, 3) by decide +kernel) kd86 (by decide) rfl jnX9 (by decide) lf_RX9_7 rfl ?_
  refine s_bipush (show decode (am_cc m9_reckon) 75 = .ok (.bipush 24, 2) by decide +kernel) ⟨by decide, by decide⟩ (by decide) ?_
  refine s_iload_n (show decode (am_cc m9_reckon) 77 = .ok (.iload_n 1, 1) by decide +kernel) rfl ?_
  refine s_imul (show decode (am_cc m9_reckon) 78 = .ok (.imul, 1) by decide +kernel) h3 ?_
  refine s_iconst (show decode (am_cc m9_reckon) 79 = .ok (.iconst 4, 1) by decide +kernel) ⟨by decide, by decide⟩ ?_
  refine s_iload (show decode (am_cc m9_reckon) 80 = .ok (.iload 4, 2) by decide +kernel) rfl ?_
  refine s_imul (show decode (am_cc m9_reckon) 82 = .ok (.imul, 1) by decide +kernel) h4 ?_
  refine s_iadd (show decode (am_cc m9_reckon) 83 = .ok (.iadd, 1) by decide +kernel) h5 ?_
  refine s_iload (show decode (am_cc m9_reckon) 84 = .ok (.iload 7, 2) by decide +kernel) rfl ?_
  refine s_iadd (show decode (am_cc m9_reckon) 86 = .ok (.iadd, 1) by decide +kernel) h6 ?_
  refine s_iaload (show decode (am_cc m9_reckon) 87 = .ok (.iaload, 1) by decide +kernel) kd87 h7 h8 ?_
  refine s_iadd (show decode (am_cc m9_reckon) 88 = .ok (.iadd, 1) by decide +kernel) h9 ?_
  refine s_laload (show decode (am_cc m9_reckon) 89 = .ok (.laload, 1) by decide +kernel) kd108 h10 h11 ?_
  refine s_ladd (show decode (am_cc m9_reckon) 90 = .ok (.ladd, 1) by decide +kernel) h12 ?_
  refine s_lstore (show decode (am_cc m9_reckon) 91 = .ok (.lstore 5, 2) by decide +kernel) (by decide) ?_
  refine s_iinc (show decode (am_cc m9_reckon) 93 = .ok (.iinc 7 1, 3) by decide +kernel) rfl (by decide) h13 ?_
  refine s_goto (tgt := 46) (show decode (am_cc m9_reckon) 96 = .ok (.goto (-50), 3) by decide +kernel) (by decide) ?_
  exact k
theorem g9_reckon_99 {a1 a2 a3 a4 a5 a7 : Int} {M : am_M} {Q : Option am_V → am_M → Prop} (h1 : -2147483648 ≤ 6 * a3 ∧ 6 * a3 ≤ 2147483647) (h2 : -2147483648 ≤ (6 * a3) + a4 ∧ (6 * a3) + a4 ≤ 2147483647) (h3 : 0 ≤ (6 * a3) + a4) (h4 : (6 * a3) + a4 < 126) (h5 : -2147483648 ≤ a4 + 1 ∧ a4 + 1 ≤ 2147483647) (k : am_AtN m9_reckon 10 [some (vr 86), some (vi a1), some (vi a2), some (vi a3), some (vi (a4 + 1)), none, none, none] [] KS (am_up M 108 ((6 * a3) + a4) a5) Q) : am_AtN m9_reckon 99 [some (vr 86), some (vi a1), some (vi a2), some (vi a3), some (vi a4), some (vl a5), none, some (vi a7)] [] KS M Q := by
  refine s_aload_n (show decode (am_cc m9_reckon) 99 = .ok (.aload_n 0, 1) by decide +kernel) rfl ?_
  refine s_getf (k := 29) (v := vr 108) (show decode (am_cc m9_reckon) 100 = .ok (.getfield 75, 3) by decide +kernel) kd86 (by decide) rfl jnX9 (by decide) lf_RX9_75 rfl ?_
  refine s_bipush (show decode (am_cc m9_reckon) 103 = .ok (.bipush 6, 2) by decide +kernel) ⟨by decide, by decide⟩ (by decide) ?_
  refine s_iload_n (show decode (am_cc m9_reckon) 105 = .ok (.iload_n 3, 1) by decide +kernel) rfl ?_
  refine s_imul (show decode (am_cc m9_reckon) 106 = .ok (.imul, 1) by decide +kernel) h1 ?_
  refine s_iload (show decode (am_cc m9_reckon) 107 = .ok (.iload 4, 2) by decide +kernel) rfl ?_
  refine s_iadd (show decode (am_cc m9_reckon) 109 = .ok (.iadd, 1) by decide +kernel) h2 ?_
  refine s_lload (show decode (am_cc m9_reckon) 110 = .ok (.lload 5, 2) by decide +kernel) rfl ?_
  refine s_lastore (show decode (am_cc m9_reckon) 112 = .ok (.lastore, 1) by decide +kernel) kd108 h3 h4 ?_
  refine s_iinc (show decode (am_cc m9_reckon) 113 = .ok (.iinc 4 1, 3) by decide +kernel) rfl (by decide) h5 ?_
  refine s_goto (tgt := 10) (show decode (am_cc m9_reckon) 116 = .ok (.goto (-106), 3) by decide +kernel) (by decide) ?_
  refine am_fg 5 ?_
  refine am_fg 7 ?_
  exact k
theorem g9_reckon_119 {a1 a2 a3 a4 : Int} {M : am_M} {Q : Option am_V → am_M → Prop} (h1 : -2147483648 ≤ a3 + 1 ∧ a3 + 1 ≤ 2147483647) (k : am_AtN m9_reckon 2 [some (vr 86), some (vi a1), some (vi a2), some (vi (a3 + 1)), none, none, none, none] [] KS M Q) : am_AtN m9_reckon 119 [some (vr 86), some (vi a1), some (vi a2), some (vi a3), some (vi a4), none, none, none] [] KS M Q := by
  refine s_iinc (show decode (am_cc m9_reckon) 119 = .ok (.iinc 3 1, 3) by decide +kernel) rfl (by decide) h1 ?_
  refine s_goto (tgt := 2) (show decode (am_cc m9_reckon) 122 = .ok (.goto (-120), 3) by decide +kernel) (by decide) ?_
  refine am_fg 4 ?_
  exact k
theorem g9_reckon_125 {a1 a2 a3 : Int} {M : am_M} {Q : Option am_V → am_M → Prop} (k : Q none M) : am_AtN m9_reckon 125 [some (vr 86), some (vi a1), some (vi a2), some (vi a3), none, none, none, none] [] KS M Q := by
  exact s_return (show decode (am_cc m9_reckon) 125 = .ok (.return_, 1) by decide +kernel) rfl k
theorem g9_rows_0 {a1 a2 : Int} {M : am_M} {Q : Option am_V → am_M → Prop} (k : am_CallN m9_noSentence [vi a1] KS (am_up M 86 0 0) (fun r M' => am_AtN m9_rows 9 [some (vr 86), some (vi a1), some (vi a2)] (r.toList ++ []) KS M' Q)) : am_AtN m9_rows 0 [some (vr 86), some (vi a1), some (vi a2)] [] KS M Q := by
  refine s_aload_n (show decode (am_cc m9_rows) 0 = .ok (.aload_n 0, 1) by decide +kernel) rfl ?_
  refine s_iconst (show decode (am_cc m9_rows) 1 = .ok (.iconst 0, 1) by decide +kernel) ⟨by decide, by decide⟩ ?_
  refine s_putf (k := 0) (x := 0) (ty0 := tyX9) (show decode (am_cc m9_rows) 2 = .ok (.putfield 95, 3) by decide +kernel) kd86 (by decide) rfl jnX9 tyX9_ok nmX9 (by decide) lf_RX9_95 rfl (Or.inl ⟨rfl, rfl, rfl⟩) ?_
  refine s_iload_n (show decode (am_cc m9_rows) 5 = .ok (.iload_n 1, 1) by decide +kernel) rfl ?_
  exact n_callS (as := [vi a1]) (stk := []) (show decode (am_cc m9_rows) 6 = .ok (.invokestatic 122, 3) by decide +kernel) lk_RX9_122 (by decide) (Nat.le_of_ble_eq_true rfl) ⟨rfl, rfl⟩ k
theorem g9_rows_9 {a1 a2 t0 : Int} {M : am_M} {Q : Option am_V → am_M → Prop} (k1 : t0 = 0 → am_AtN m9_rows 16 [some (vr 86), some (vi a1), some (vi a2)] [] KS M Q) (k2 : ¬ (t0 = 0) → am_AtN m9_rows 12 [some (vr 86), some (vi a1), some (vi a2)] [] KS M Q) : am_AtN m9_rows 9 [some (vr 86), some (vi a1), some (vi a2)] [vi t0] KS M Q := by
  exact s_if_eq (tgt := 16) (show decode (am_cc m9_rows) 9 = .ok (.ifCond .eq 7, 3) by decide +kernel) (by decide) k1 k2
theorem g9_rows_12 {a1 a2 : Int} {M : am_M} {Q : Option am_V → am_M → Prop} (k : Q (some (vl (-1))) M) : am_AtN m9_rows 12 [some (vr 86), some (vi a1), some (vi a2)] [] KS M Q := by
  refine s_ldc2 (show decode (am_cc m9_rows) 12 = .ok (.ldc2_w 150, 3) by decide +kernel) lc_RX9_150 ⟨by decide, by decide⟩ ?_
  exact s_lreturn (show decode (am_cc m9_rows) 15 = .ok (.lreturn, 1) by decide +kernel) rfl k
theorem g9_rows_16 {a1 a2 : Int} {M : am_M} {Q : Option am_V → am_M → Prop} (k : am_CallN m9_in [vl a2, vl 0, vl 20] KS M (fun r M' => am_AtN m9_rows 25 [some (vr 86), some (vi a1), some (vi a2)] (r.toList ++ []) KS M' Q)) : am_AtN m9_rows 16 [some (vr 86), some (vi a1), some (vi a2)] [] KS M Q := by
  refine s_iload_n (show decode (am_cc m9_rows) 16 = .ok (.iload_n 2, 1) by decide +kernel) rfl ?_
  refine s_i2l (show decode (am_cc m9_rows) 17 = .ok (.i2l, 1) by decide +kernel) ?_
  refine s_lconst (v := 0) (show decode (am_cc m9_rows) 18 = .ok (.lconst 0, 1) by decide +kernel) (by decide) ⟨by decide, by decide⟩ ?_
  refine s_ldc2 (show decode (am_cc m9_rows) 19 = .ok (.ldc2_w 142, 3) by decide +kernel) lc_RX9_142 ⟨by decide, by decide⟩ ?_
  exact n_callS (as := [vl a2, vl 0, vl 20]) (stk := []) (show decode (am_cc m9_rows) 22 = .ok (.invokestatic 110, 3) by decide +kernel) lk_RX9_110 (by decide) (Nat.le_of_ble_eq_true rfl) ⟨rfl, rfl⟩ k
theorem g9_rows_25 {a1 a2 t0 : Int} {M : am_M} {Q : Option am_V → am_M → Prop} (k1 : ¬ t0 = 0 → am_AtN m9_rows 32 [some (vr 86), some (vi a1), some (vi a2)] [] KS M Q) (k2 : t0 = 0 → am_AtN m9_rows 28 [some (vr 86), some (vi a1), some (vi a2)] [] KS M Q) : am_AtN m9_rows 25 [some (vr 86), some (vi a1), some (vi a2)] [vi t0] KS M Q := by
  exact s_if_ne (tgt := 32) (show decode (am_cc m9_rows) 25 = .ok (.ifCond .ne 7, 3) by decide +kernel) (by decide) k1 k2
theorem g9_rows_28 {a1 a2 : Int} {M : am_M} {Q : Option am_V → am_M → Prop} (k : Q (some (vl (-2))) M) : am_AtN m9_rows 28 [some (vr 86), some (vi a1), some (vi a2)] [] KS M Q := by
  refine s_ldc2 (show decode (am_cc m9_rows) 28 = .ok (.ldc2_w 235, 3) by decide +kernel) lc_RX9_235 ⟨by decide, by decide⟩ ?_
  exact s_lreturn (show decode (am_cc m9_rows) 31 = .ok (.lreturn, 1) by decide +kernel) rfl k
theorem g9_rows_32 {a1 a2 : Int} {M : am_M} {Q : Option am_V → am_M → Prop} (k : am_CallN m9_reckon [vr 86, vi a1, vi a2] KS M (fun r M' => am_AtN m9_rows 38 [some (vr 86), some (vi a1), some (vi a2)] (r.toList ++ []) KS M' Q)) : am_AtN m9_rows 32 [some (vr 86), some (vi a1), some (vi a2)] [] KS M Q := by
  refine s_aload_n (show decode (am_cc m9_rows) 32 = .ok (.aload_n 0, 1) by decide +kernel) rfl ?_
  refine s_iload_n (show decode (am_cc m9_rows) 33 = .ok (.iload_n 1, 1) by decide +kernel) rfl ?_
  refine s_iload_n (show decode (am_cc m9_rows) 34 = .ok (.iload_n 2, 1) by decide +kernel) rfl ?_
  exact n_callV (as := [vi a1, vi a2]) (stk := []) (show decode (am_cc m9_rows) 35 = .ok (.invokevirtual 237, 3) by decide +kernel) lk_RX9_237 kd86 (by decide) rfl rfl (by decide) (Nat.le_of_ble_eq_true rfl) ⟨rfl, rfl⟩ k
theorem g9_rows_38 {a1 a2 : Int} {M : am_M} {Q : Option am_V → am_M → Prop} (h1 : -2147483648 ≤ 6 * a2 ∧ 6 * a2 ≤ 2147483647) (h2 : 0 ≤ 6 * a2) (h3 : 6 * a2 < 126) (k : Q (some (vl (M 108 (6 * a2)))) M) : am_AtN m9_rows 38 [some (vr 86), some (vi a1), some (vi a2)] [] KS M Q := by
  refine s_aload_n (show decode (am_cc m9_rows) 38 = .ok (.aload_n 0, 1) by decide +kernel) rfl ?_
  refine s_getf (k := 29) (v := vr 108) (show decode (am_cc m9_rows) 39 = .ok (.getfield 75, 3) by decide +kernel) kd86 (by decide) rfl jnX9 (by decide) lf_RX9_75 rfl ?_
  refine s_bipush (show decode (am_cc m9_rows) 42 = .ok (.bipush 6, 2) by decide +kernel) ⟨by decide, by decide⟩ (by decide) ?_
  refine s_iload_n (show decode (am_cc m9_rows) 44 = .ok (.iload_n 2, 1) by decide +kernel) rfl ?_
  refine s_imul (show decode (am_cc m9_rows) 45 = .ok (.imul, 1) by decide +kernel) h1 ?_
  refine s_laload (show decode (am_cc m9_rows) 46 = .ok (.laload, 1) by decide +kernel) kd108 h2 h3 ?_
  exact s_lreturn (show decode (am_cc m9_rows) 47 = .ok (.lreturn, 1) by decide +kernel) rfl k
theorem g9_lay_0 {a1 a2 a3 : Int} {M : am_M} {Q : Option am_V → am_M → Prop} (k : am_CallN m9_noSentence [vi a1] KS (am_up M 86 0 0) (fun r M' => am_AtN m9_lay 9 [some (vr 86), some (vi a1), some (vi a2), some (vl a3), none, none, none, none, none, none, none, none] (r.toList ++ []) KS M' Q)) : am_AtN m9_lay 0 [some (vr 86), some (vi a1), some (vi a2), some (vl a3), none, none, none, none, none, none, none, none] [] KS M Q := by
  refine s_aload_n (show decode (am_cc m9_lay) 0 = .ok (.aload_n 0, 1) by decide +kernel) rfl ?_
  refine s_iconst (show decode (am_cc m9_lay) 1 = .ok (.iconst 0, 1) by decide +kernel) ⟨by decide, by decide⟩ ?_
  refine s_putf (k := 0) (x := 0) (ty0 := tyX9) (show decode (am_cc m9_lay) 2 = .ok (.putfield 95, 3) by decide +kernel) kd86 (by decide) rfl jnX9 tyX9_ok nmX9 (by decide) lf_RX9_95 rfl (Or.inl ⟨rfl, rfl, rfl⟩) ?_
  refine s_iload_n (show decode (am_cc m9_lay) 5 = .ok (.iload_n 1, 1) by decide +kernel) rfl ?_
  exact n_callS (as := [vi a1]) (stk := []) (show decode (am_cc m9_lay) 6 = .ok (.invokestatic 122, 3) by decide +kernel) lk_RX9_122 (by decide) (Nat.le_of_ble_eq_true rfl) ⟨rfl, rfl⟩ k
theorem g9_lay_9 {a1 a2 a3 t0 : Int} {M : am_M} {Q : Option am_V → am_M → Prop} (k1 : t0 = 0 → am_AtN m9_lay 14 [some (vr 86), some (vi a1), some (vi a2), some (vl a3), none, none, none, none, none, none, none, none] [] KS M Q) (k2 : ¬ (t0 = 0) → am_AtN m9_lay 12 [some (vr 86), some (vi a1), some (vi a2), some (vl a3), none, none, none, none, none, none, none, none] [] KS M Q) : am_AtN m9_lay 9 [some (vr 86), some (vi a1), some (vi a2), some (vl a3), none, none, none, none, none, none, none, none] [vi t0] KS M Q := by
  exact s_if_eq (tgt := 14) (show decode (am_cc m9_lay) 9 = .ok (.ifCond .eq 5, 3) by decide +kernel) (by decide) k1 k2
theorem g9_lay_12 {a1 a2 a3 : Int} {M : am_M} {Q : Option am_V → am_M → Prop} (k : Q (some (vi (-1))) M) : am_AtN m9_lay 12 [some (vr 86), some (vi a1), some (vi a2), some (vl a3), none, none, none, none, none, none, none, none] [] KS M Q := by
  refine s_iconst (show decode (am_cc m9_lay) 12 = .ok (.iconst (-1), 1) by decide +kernel) ⟨by decide, by decide⟩ ?_
  exact s_ireturn (show decode (am_cc m9_lay) 13 = .ok (.ireturn, 1) by decide +kernel) rfl k
theorem g9_lay_14 {a1 a2 a3 : Int} {M : am_M} {Q : Option am_V → am_M → Prop} (k : am_CallN m9_in [vl a2, vl 0, vl 20] KS M (fun r M' => am_AtN m9_lay 23 [some (vr 86), some (vi a1), some (vi a2), some (vl a3), none, none, none, none, none, none, none, none] (r.toList ++ []) KS M' Q)) : am_AtN m9_lay 14 [some (vr 86), some (vi a1), some (vi a2), some (vl a3), none, none, none, none, none, none, none, none] [] KS M Q := by
  refine s_iload_n (show decode (am_cc m9_lay) 14 = .ok (.iload_n 2, 1) by decide +kernel) rfl ?_
  refine s_i2l (show decode (am_cc m9_lay) 15 = .ok (.i2l, 1) by decide +kernel) ?_
  refine s_lconst (v := 0) (show decode (am_cc m9_lay) 16 = .ok (.lconst 0, 1) by decide +kernel) (by decide) ⟨by decide, by decide⟩ ?_
  refine s_ldc2 (show decode (am_cc m9_lay) 17 = .ok (.ldc2_w 142, 3) by decide +kernel) lc_RX9_142 ⟨by decide, by decide⟩ ?_
  exact n_callS (as := [vl a2, vl 0, vl 20]) (stk := []) (show decode (am_cc m9_lay) 20 = .ok (.invokestatic 110, 3) by decide +kernel) lk_RX9_110 (by decide) (Nat.le_of_ble_eq_true rfl) ⟨rfl, rfl⟩ k
theorem g9_lay_23 {a1 a2 a3 t0 : Int} {M : am_M} {Q : Option am_V → am_M → Prop} (k1 : ¬ t0 = 0 → am_AtN m9_lay 29 [some (vr 86), some (vi a1), some (vi a2), some (vl a3), none, none, none, none, none, none, none, none] [] KS M Q) (k2 : t0 = 0 → am_AtN m9_lay 26 [some (vr 86), some (vi a1), some (vi a2), some (vl a3), none, none, none, none, none, none, none, none] [] KS M Q) : am_AtN m9_lay 23 [some (vr 86), some (vi a1), some (vi a2), some (vl a3), none, none, none, none, none, none, none, none] [vi t0] KS M Q := by
  exact s_if_ne (tgt := 29) (show decode (am_cc m9_lay) 23 = .ok (.ifCond .ne 6, 3) by decide +kernel) (by decide) k1 k2
theorem g9_lay_26 {a1 a2 a3 : Int} {M : am_M} {Q : Option am_V → am_M → Prop} (k : Q (some (vi (-2))) M) : am_AtN m9_lay 26 [some (vr 86), some (vi a1), some (vi a2), some (vl a3), none, none, none, none, none, none, none, none] [] KS M Q := by
  refine s_bipush (show decode (am_cc m9_lay) 26 = .ok (.bipush (-2), 2) by decide +kernel) ⟨by decide, by decide⟩ (by decide) ?_
  exact s_ireturn (show decode (am_cc m9_lay) 28 = .ok (.ireturn, 1) by decide +kernel) rfl k
theorem g9_lay_29 {a1 a2 a3 : Int} {M : am_M} {Q : Option am_V → am_M → Prop} (k : am_CallN m9_reckon [vr 86, vi a1, vi a2] KS M (fun r M' => am_AtN m9_lay 35 [some (vr 86), some (vi a1), some (vi a2), some (vl a3), none, none, none, none, none, none, none, none] (r.toList ++ []) KS M' Q)) : am_AtN m9_lay 29 [some (vr 86), some (vi a1), some (vi a2), some (vl a3), none, none, none, none, none, none, none, none] [] KS M Q := by
  refine s_aload_n (show decode (am_cc m9_lay) 29 = .ok (.aload_n 0, 1) by decide +kernel) rfl ?_
  refine s_iload_n (show decode (am_cc m9_lay) 30 = .ok (.iload_n 1, 1) by decide +kernel) rfl ?_
  refine s_iload_n (show decode (am_cc m9_lay) 31 = .ok (.iload_n 2, 1) by decide +kernel) rfl ?_
  exact n_callV (as := [vi a1, vi a2]) (stk := []) (show decode (am_cc m9_lay) 32 = .ok (.invokevirtual 237, 3) by decide +kernel) lk_RX9_237 kd86 (by decide) rfl rfl (by decide) (Nat.le_of_ble_eq_true rfl) ⟨rfl, rfl⟩ k
theorem g9_lay_35 {a1 a2 a3 : Int} {M : am_M} {Q : Option am_V → am_M → Prop} (h1 : -2147483648 ≤ 6 * a2 ∧ 6 * a2 ≤ 2147483647) (h2 : 0 ≤ 6 * a2) (h3 : 6 * a2 < 126) (h4 : -9223372036854775808 ≤ (M 108 (6 * a2)) - 1 ∧ (M 108 (6 * a2)) - 1 ≤ 9223372036854775807) (k : am_CallN m9_in [vl a3, vl 0, vl ((M 108 (6 * a2)) - 1)] KS M (fun r M' => am_AtN m9_lay 51 [some (vr 86), some (vi a1), some (vi a2), some (vl a3), none, none, none, none, none, none, none, none] (r.toList ++ []) KS M' Q)) : am_AtN m9_lay 35 [some (vr 86), some (vi a1), some (vi a2), some (vl a3), none, none, none, none, none, none, none, none] [] KS M Q := by
  refine s_lload_n (show decode (am_cc m9_lay) 35 = .ok (.lload_n 3, 1) by decide +kernel) rfl ?_
  refine s_lconst (v := 0) (show decode (am_cc m9_lay) 36 = .ok (.lconst 0, 1) by decide +kernel) (by decide) ⟨by decide, by decide⟩ ?_
  refine s_aload_n (show decode (am_cc m9_lay) 37 = .ok (.aload_n 0, 1) by decide +kernel) rfl ?_
  refine s_getf (k := 29) (v := vr 108) (show decode (am_cc m9_lay) 38 = .ok (.getfield 75, 3) by decide +kernel) kd86 (by decide) rfl jnX9 (by decide) lf_RX9_75 rfl ?_
  refine s_bipush (show decode (am_cc m9_lay) 41 = .ok (.bipush 6, 2) by decide +kernel) ⟨by decide, by decide⟩ (by decide) ?_
  refine s_iload_n (show decode (am_cc m9_lay) 43 = .ok (.iload_n 2, 1) by decide +kernel) rfl ?_
  refine s_imul (show decode (am_cc m9_lay) 44 = .ok (.imul, 1) by decide +kernel) h1 ?_
  refine s_laload (show decode (am_cc m9_lay) 45 = .ok (.laload, 1) by decide +kernel) kd108 h2 h3 ?_
  refine s_lconst (v := 1) (show decode (am_cc m9_lay) 46 = .ok (.lconst 1, 1) by decide +kernel) (by decide) ⟨by decide, by decide⟩ ?_
  refine s_lsub (show decode (am_cc m9_lay) 47 = .ok (.lsub, 1) by decide +kernel) h4 ?_
  exact n_callS (as := [vl a3, vl 0, vl ((M 108 (6 * a2)) - 1)]) (stk := []) (show decode (am_cc m9_lay) 48 = .ok (.invokestatic 110, 3) by decide +kernel) lk_RX9_110 (by decide) (Nat.le_of_ble_eq_true rfl) ⟨rfl, rfl⟩ k
theorem g9_lay_51 {a1 a2 a3 t0 : Int} {M : am_M} {Q : Option am_V → am_M → Prop} (k1 : ¬ t0 = 0 → am_AtN m9_lay 57 [some (vr 86), some (vi a1), some (vi a2), some (vl a3), none, none, none, none, none, none, none, none] [] KS M Q) (k2 : t0 = 0 → am_AtN m9_lay 54 [some (vr 86), some (vi a1), some (vi a2), some (vl a3), none, none, none, none, none, none, none, none] [] KS M Q) : am_AtN m9_lay 51 [some (vr 86), some (vi a1), some (vi a2), some (vl a3), none, none, none, none, none, none, none, none] [vi t0] KS M Q := by
  exact s_if_ne (tgt := 57) (show decode (am_cc m9_lay) 51 = .ok (.ifCond .ne 6, 3) by decide +kernel) (by decide) k1 k2
theorem g9_lay_54 {a1 a2 a3 : Int} {M : am_M} {Q : Option am_V → am_M → Prop} (k : Q (some (vi (-2))) M) : am_AtN m9_lay 54 [some (vr 86), some (vi a1), some (vi a2), some (vl a3), none, none, none, none, none, none, none, none] [] KS M Q := by
  refine s_bipush (show decode (am_cc m9_lay) 54 = .ok (.bipush (-2), 2) by decide +kernel) ⟨by decide, by decide⟩ (by decide) ?_
  exact s_ireturn (show decode (am_cc m9_lay) 56 = .ok (.ireturn, 1) by decide +kernel) rfl k
theorem g9_lay_57 {a1 a2 a3 : Int} {M : am_M} {Q : Option am_V → am_M → Prop} (k : am_AtN m9_lay 66 [some (vr 86), some (vi a1), some (vi a2), some (vl a3), none, some (vl a3), none, some (vi 0), some (vi a2), none, none, none] [] KS M Q) : am_AtN m9_lay 57 [some (vr 86), some (vi a1), some (vi a2), some (vl a3), none, none, none, none, none, none, none, none] [] KS M Q := by
  refine s_lload_n (show decode (am_cc m9_lay) 57 = .ok (.lload_n 3, 1) by decide +kernel) rfl ?_
  refine s_lstore (show decode (am_cc m9_lay) 58 = .ok (.lstore 5, 2) by decide +kernel) (by decide) ?_
  refine s_iconst (show decode (am_cc m9_lay) 60 = .ok (.iconst 0, 1) by decide +kernel) ⟨by decide, by decide⟩ ?_
  refine s_istore (show decode (am_cc m9_lay) 61 = .ok (.istore 7, 2) by decide +kernel) (by decide) ?_
  refine s_iload_n (show decode (am_cc m9_lay) 63 = .ok (.iload_n 2, 1) by decide +kernel) rfl ?_
  refine s_istore (show decode (am_cc m9_lay) 64 = .ok (.istore 8, 2) by decide +kernel) (by decide) ?_
  exact k
theorem g9_lay_66 {a1 a2 a3 a5 a7 a8 : Int} {M : am_M} {Q : Option am_V → am_M → Prop} (k1 : a8 ≤ 0 → am_AtN m9_lay 192 [some (vr 86), some (vi a1), some (vi a2), some (vl a3), none, some (vl a5), none, some (vi a7), some (vi a8), none, none, none] [] KS M Q) (k2 : ¬ (a8 ≤ 0) → am_AtN m9_lay 71 [some (vr 86), some (vi a1), some (vi a2), some (vl a3), none, some (vl a5), none, some (vi a7), some (vi a8), none, none, none] [] KS M Q) : am_AtN m9_lay 66 [some (vr 86), some (vi a1), some (vi a2), some (vl a3), none, some (vl a5), none, some (vi a7), some (vi a8), none, none, none] [] KS M Q := by
  refine s_iload (show decode (am_cc m9_lay) 66 = .ok (.iload 8, 2) by decide +kernel) rfl ?_
  exact s_if_le (tgt := 192) (show decode (am_cc m9_lay) 68 = .ok (.ifCond .le 124, 3) by decide +kernel) (by decide) k1 k2
theorem g9_lay_71 {a1 a2 a3 a5 a7 a8 : Int} {M : am_M} {Q : Option am_V → am_M → Prop} (h1 : -2147483648 ≤ a8 - 1 ∧ a8 - 1 ≤ 2147483647) (h2 : -2147483648 ≤ 6 * (a8 - 1) ∧ 6 * (a8 - 1) ≤ 2147483647) (h3 : -2147483648 ≤ 24 * a1 ∧ 24 * a1 ≤ 2147483647) (h4 : -2147483648 ≤ 4 * a7 ∧ 4 * a7 ≤ 2147483647) (h5 : -2147483648 ≤ (24 * a1) + (4 * a7) ∧ (24 * a1) + (4 * a7) ≤ 2147483647) (h6 : 0 ≤ (24 * a1) + (4 * a7)) (h7 : (24 * a1) + (4 * a7) < 192) (h8 : -2147483648 ≤ (6 * (a8 - 1)) + (M 87 ((24 * a1) + (4 * a7))) ∧ (6 * (a8 - 1)) + (M 87 ((24 * a1) + (4 * a7))) ≤ 2147483647) (h9 : 0 ≤ (6 * (a8 - 1)) + (M 87 ((24 * a1) + (4 * a7)))) (h10 : (6 * (a8 - 1)) + (M 87 ((24 * a1) + (4 * a7))) < 126) (k : am_AtN m9_lay 103 [some (vr 86), some (vi a1), some (vi a2), some (vl a3), none, some (vl a5), none, some (vi a7), some (vi a8), some (vi 0), some (vl (M 108 ((6 * (a8 - 1)) + (M 87 ((24 * a1) + (4 * a7)))))), none] [] KS M Q) : am_AtN m9_lay 71 [some (vr 86), some (vi a1), some (vi a2), some (vl a3), none, some (vl a5), none, some (vi a7), some (vi a8), none, none, none] [] KS M Q := by
  refine s_iconst (show decode (am_cc m9_lay) 71 = .ok (.iconst 0, 1) by decide +kernel) ⟨by decide, by decide⟩ ?_
  refine s_istore (show decode (am_cc m9_lay) 72 = .ok (.istore 9, 2) by decide +kernel) (by decide) ?_
  refine s_aload_n (show decode (am_cc m9_lay) 74 = .ok (.aload_n 0, 1) by decide +kernel) rfl ?_
  refine s_getf (k := 29) (v := vr 108) (show decode (am_cc m9_lay) 75 = .ok (.getfield 75, 3) by decide +kernel) kd86 (by decide) rfl jnX9 (by decide) lf_RX9_75 rfl ?_
  refine s_bipush (show decode (am_cc m9_lay) 78 = .ok (.bipush 6, 2) by decide +kernel) ⟨by decide, by decide⟩ (by decide) ?_
  refine s_iload (show decode (am_cc m9_lay) 80 = .ok (.iload 8, 2) by decide +kernel) rfl ?_
  refine s_iconst (show decode (am_cc m9_lay) 82 = .ok (.iconst 1, 1) by decide +kernel) ⟨by decide, by decide⟩ ?_
  refine s_isub (show decode (am_cc m9_lay) 83 = .ok (.isub, 1) by decide +kernel) h1 ?_
  refine s_imul (show decode (am_cc m9_lay) 84 = .ok (.imul, 1) by decide +kernel) h2 ?_
  refine s_aload_n (show decode (am_cc m9_lay) 85 = .ok (.aload_n 0, 1) by decide +kernel) rfl ?_
  refine s_getf (k := 2) (v := vr 87) (show decode (am_cc m9_lay) 86 = .ok (.getfield 7, 3) by decide +kernel) kd86 (by decide) rfl jnX9 (by decide) lf_RX9_7 rfl ?_
  refine s_bipush (show decode (am_cc m9_lay) 89 = .ok (.bipush 24, 2) by decide +kernel) ⟨by decide, by decide⟩ (by decide) ?_
  refine s_iload_n (show decode (am_cc m9_lay) 91 = .ok (.iload_n 1, 1) by decide +kernel) rfl ?_
  refine s_imul (show decode (am_cc m9_lay) 92 = .ok (.imul, 1) by decide +kernel) h3 ?_
  refine s_iconst (show decode (am_cc m9_lay) 93 = .ok (.iconst 4, 1) by decide +kernel) ⟨by decide, by decide⟩ ?_
  refine s_iload (show decode (am_cc m9_lay) 94 = .ok (.iload 7, 2) by decide +kernel) rfl ?_
  refine s_imul (show decode (am_cc m9_lay) 96 = .ok (.imul, 1) by decide +kernel) h4 ?_
  refine s_iadd (show decode (am_cc m9_lay) 97 = .ok (.iadd, 1) by decide +kernel) h5 ?_
  refine s_iaload (show decode (am_cc m9_lay) 98 = .ok (.iaload, 1) by decide +kernel) kd87 h6 h7 ?_
  refine s_iadd (show decode (am_cc m9_lay) 99 = .ok (.iadd, 1) by decide +kernel) h8 ?_
  refine s_laload (show decode (am_cc m9_lay) 100 = .ok (.laload, 1) by decide +kernel) kd108 h9 h10 ?_
  refine s_lstore (show decode (am_cc m9_lay) 101 = .ok (.lstore 10, 2) by decide +kernel) (by decide) ?_
  exact k
theorem g9_lay_103 {a1 a2 a3 a5 a7 a8 a9 a10 : Int} {M : am_M} {Q : Option am_V → am_M → Prop} (k1 : a5 < a10 → am_AtN m9_lay 156 [some (vr 86), some (vi a1), some (vi a2), some (vl a3), none, some (vl a5), none, some (vi a7), some (vi a8), some (vi a9), some (vl a10), none] [] KS M Q) (k2 : ¬ a5 < a10 → am_AtN m9_lay 111 [some (vr 86), some (vi a1), some (vi a2), some (vl a3), none, some (vl a5), none, some (vi a7), some (vi a8), some (vi a9), some (vl a10), none] [] KS M Q) : am_AtN m9_lay 103 [some (vr 86), some (vi a1), some (vi a2), some (vl a3), none, some (vl a5), none, some (vi a7), some (vi a8), some (vi a9), some (vl a10), none] [] KS M Q := by
  refine s_lload (show decode (am_cc m9_lay) 103 = .ok (.lload 5, 2) by decide +kernel) rfl ?_
  refine s_lload (show decode (am_cc m9_lay) 105 = .ok (.lload 10, 2) by decide +kernel) rfl ?_
  exact s_lcif_lt (tgt := 156) (show decode (am_cc m9_lay) 107 = .ok (.lcmp, 1) by decide +kernel) (show decode (am_cc m9_lay) 108 = .ok (.ifCond .lt 48, 3) by decide +kernel) (by decide) k1 k2
theorem g9_lay_111 {a1 a2 a3 a5 a7 a8 a9 a10 : Int} {M : am_M} {Q : Option am_V → am_M → Prop} (h1 : -9223372036854775808 ≤ a5 - a10 ∧ a5 - a10 ≤ 9223372036854775807) (h2 : -2147483648 ≤ a9 + 1 ∧ a9 + 1 ≤ 2147483647) (h3 : -2147483648 ≤ a8 - 1 ∧ a8 - 1 ≤ 2147483647) (h4 : -2147483648 ≤ 6 * (a8 - 1) ∧ 6 * (a8 - 1) ≤ 2147483647) (h5 : -2147483648 ≤ 24 * a1 ∧ 24 * a1 ≤ 2147483647) (h6 : -2147483648 ≤ 4 * a7 ∧ 4 * a7 ≤ 2147483647) (h7 : -2147483648 ≤ (24 * a1) + (4 * a7) ∧ (24 * a1) + (4 * a7) ≤ 2147483647) (h8 : -2147483648 ≤ ((24 * a1) + (4 * a7)) + (a9 + 1) ∧ ((24 * a1) + (4 * a7)) + (a9 + 1) ≤ 2147483647) (h9 : 0 ≤ ((24 * a1) + (4 * a7)) + (a9 + 1)) (h10 : ((24 * a1) + (4 * a7)) + (a9 + 1) < 192) (h11 : -2147483648 ≤ (6 * (a8 - 1)) + (M 87 (((24 * a1) + (4 * a7)) + (a9 + 1))) ∧ (6 * (a8 - 1)) + (M 87 (((24 * a1) + (4 * a7)) + (a9 + 1))) ≤ 2147483647) (h12 : 0 ≤ (6 * (a8 - 1)) + (M 87 (((24 * a1) + (4 * a7)) + (a9 + 1)))) (h13 : (6 * (a8 - 1)) + (M 87 (((24 * a1) + (4 * a7)) + (a9 + 1))) < 126) (k : am_AtN m9_lay 103 [some (vr 86), some (vi a1), some (vi a2), some (vl a3), none, some (vl (a5 - a10)), none, some (vi a7), some (vi a8), some (vi (a9 + 1)), some (vl (M 108 ((6 * (a8 - 1)) + (M 87 (((24 * a1) + (4 * a7)) + (a9 + 1)))))), none] [] KS M Q) : am_AtN m9_lay 111 [some (vr 86), some (vi a1), some (vi a2), some (vl a3), none, some (vl a5), none, some (vi a7), some (vi a8), some (vi a9), some (vl a10), none] [] KS M Q := by
  refine s_lload (show decode (am_cc m9_lay) 111 = .ok (.lload 5, 2) by decide +kernel) rfl ?_
  refine s_lload (show decode (am_cc m9_lay) 113 = .ok (.lload 10, 2) by decide +kernel) rfl ?_
  refine s_lsub (show decode (am_cc m9_lay) 115 = .ok (.lsub, 1) by decide +kernel) h1 ?_
  refine s_lstore (show decode (am_cc m9_lay) 116 = .ok (.lstore 5, 2) by decide +kernel) (by decide) ?_
  refine s_iinc (show decode (am_cc m9_lay) 118 = .ok (.iinc 9 1, 3) by decide +kernel) rfl (by decide) h2 ?_
  refine s_aload_n (show decode (am_cc m9_lay) 121 = .ok (.aload_n 0, 1) by decide +kernel) rfl ?_
  refine s_getf (k := 29) (v := vr 108) (show decode (am_cc m9_lay) 122 = .ok (.getfield 75, 3) by decide +kernel) kd86 (by decide) rfl jnX9 (by decide) lf_RX9_75 rfl ?_
  refine s_bipush (show decode (am_cc m9_lay) 125 = .ok (.bipush 6, 2) by decide +kernel) ⟨by decide, by decide⟩ (by decide) ?_
  refine s_iload (show decode (am_cc m9_lay) 127 = .ok (.iload 8, 2) by decide +kernel) rfl ?_
  refine s_iconst (show decode (am_cc m9_lay) 129 = .ok (.iconst 1, 1) by decide +kernel) ⟨by decide, by decide⟩ ?_
  refine s_isub (show decode (am_cc m9_lay) 130 = .ok (.isub, 1) by decide +kernel) h3 ?_
  refine s_imul (show decode (am_cc m9_lay) 131 = .ok (.imul, 1) by decide +kernel) h4 ?_
  refine s_aload_n (show decode (am_cc m9_lay) 132 = .ok (.aload_n 0, 1) by decide +kernel) rfl ?_
  refine s_getf (k := 2) (v := vr 87) (show decode (am_cc m9_lay) 133 = .ok (.getfield 7, 3) by decide +kernel) kd86 (by decide) rfl jnX9 (by decide) lf_RX9_7 rfl ?_
  refine s_bipush (show decode (am_cc m9_lay) 136 = .ok (.bipush 24, 2) by decide +kernel) ⟨by decide, by decide⟩ (by decide) ?_
  refine s_iload_n (show decode (am_cc m9_lay) 138 = .ok (.iload_n 1, 1) by decide +kernel) rfl ?_
  refine s_imul (show decode (am_cc m9_lay) 139 = .ok (.imul, 1) by decide +kernel) h5 ?_
  refine s_iconst (show decode (am_cc m9_lay) 140 = .ok (.iconst 4, 1) by decide +kernel) ⟨by decide, by decide⟩ ?_
  refine s_iload (show decode (am_cc m9_lay) 141 = .ok (.iload 7, 2) by decide +kernel) rfl ?_
  refine s_imul (show decode (am_cc m9_lay) 143 = .ok (.imul, 1) by decide +kernel) h6 ?_
  refine s_iadd (show decode (am_cc m9_lay) 144 = .ok (.iadd, 1) by decide +kernel) h7 ?_
  refine s_iload (show decode (am_cc m9_lay) 145 = .ok (.iload 9, 2) by decide +kernel) rfl ?_
  refine s_iadd (show decode (am_cc m9_lay) 147 = .ok (.iadd, 1) by decide +kernel) h8 ?_
  refine s_iaload (show decode (am_cc m9_lay) 148 = .ok (.iaload, 1) by decide +kernel) kd87 h9 h10 ?_
  refine s_iadd (show decode (am_cc m9_lay) 149 = .ok (.iadd, 1) by decide +kernel) h11 ?_
  refine s_laload (show decode (am_cc m9_lay) 150 = .ok (.laload, 1) by decide +kernel) kd108 h12 h13 ?_
  refine s_lstore (show decode (am_cc m9_lay) 151 = .ok (.lstore 10, 2) by decide +kernel) (by decide) ?_
  refine s_goto (tgt := 103) (show decode (am_cc m9_lay) 153 = .ok (.goto (-50), 3) by decide +kernel) (by decide) ?_
  exact k
theorem g9_lay_156 {a1 a2 a3 a5 a7 a8 a9 a10 : Int} {M : am_M} {Q : Option am_V → am_M → Prop} (h1 : -2147483648 ≤ a2 - a8 ∧ a2 - a8 ≤ 2147483647) (h2 : 0 ≤ a2 - a8) (h3 : a2 - a8 < 64) (h4 : -2147483648 ≤ 24 * a1 ∧ 24 * a1 ≤ 2147483647) (h5 : -2147483648 ≤ 4 * a7 ∧ 4 * a7 ≤ 2147483647) (h6 : -2147483648 ≤ (24 * a1) + (4 * a7) ∧ (24 * a1) + (4 * a7) ≤ 2147483647) (h7 : -2147483648 ≤ ((24 * a1) + (4 * a7)) + a9 ∧ ((24 * a1) + (4 * a7)) + a9 ≤ 2147483647) (h8 : 0 ≤ ((24 * a1) + (4 * a7)) + a9) (h9 : ((24 * a1) + (4 * a7)) + a9 < 192) (h10 : -2147483648 ≤ a8 + (-1) ∧ a8 + (-1) ≤ 2147483647) (k : am_AtN m9_lay 66 [some (vr 86), some (vi a1), some (vi a2), some (vl a3), none, some (vl a5), none, some (vi ((am_up M 109 (a2 - a8) a9) 87 (((24 * a1) + (4 * a7)) + a9))), some (vi (a8 + (-1))), none, none, none] [] KS (am_up M 109 (a2 - a8) a9) Q) : am_AtN m9_lay 156 [some (vr 86), some (vi a1), some (vi a2), some (vl a3), none, some (vl a5), none, some (vi a7), some (vi a8), some (vi a9), some (vl a10), none] [] KS M Q := by
  refine s_aload_n (show decode (am_cc m9_lay) 156 = .ok (.aload_n 0, 1) by decide +kernel) rfl ?_
  refine s_getf (k := 30) (v := vr 109) (show decode (am_cc m9_lay) 157 = .ok (.getfield 79, 3) by decide +kernel) kd86 (by decide) rfl jnX9 (by decide) lf_RX9_79 rfl ?_
  refine s_iload_n (show decode (am_cc m9_lay) 160 = .ok (.iload_n 2, 1) by decide +kernel) rfl ?_
  refine s_iload (show decode (am_cc m9_lay) 161 = .ok (.iload 8, 2) by decide +kernel) rfl ?_
  refine s_isub (show decode (am_cc m9_lay) 163 = .ok (.isub, 1) by decide +kernel) h1 ?_
  refine s_iload (show decode (am_cc m9_lay) 164 = .ok (.iload 9, 2) by decide +kernel) rfl ?_
  refine s_iastore (show decode (am_cc m9_lay) 166 = .ok (.iastore, 1) by decide +kernel) kd109 h2 h3 ?_
  refine s_aload_n (show decode (am_cc m9_lay) 167 = .ok (.aload_n 0, 1) by decide +kernel) rfl ?_
  refine s_getf (k := 2) (v := vr 87) (show decode (am_cc m9_lay) 168 = .ok (.getfield 7, 3) by decide +kernel) kd86 (by decide) rfl jnX9 (by decide) lf_RX9_7 rfl ?_
  refine s_bipush (show decode (am_cc m9_lay) 171 = .ok (.bipush 24, 2) by decide +kernel) ⟨by decide, by decide⟩ (by decide) ?_
  refine s_iload_n (show decode (am_cc m9_lay) 173 = .ok (.iload_n 1, 1) by decide +kernel) rfl ?_
  refine s_imul (show decode (am_cc m9_lay) 174 = .ok (.imul, 1) by decide +kernel) h4 ?_
  refine s_iconst (show decode (am_cc m9_lay) 175 = .ok (.iconst 4, 1) by decide +kernel) ⟨by decide, by decide⟩ ?_
  refine s_iload (show decode (am_cc m9_lay) 176 = .ok (.iload 7, 2) by decide +kernel) rfl ?_
  refine s_imul (show decode (am_cc m9_lay) 178 = .ok (.imul, 1) by decide +kernel) h5 ?_
  refine s_iadd (show decode (am_cc m9_lay) 179 = .ok (.iadd, 1) by decide +kernel) h6 ?_
  refine s_iload (show decode (am_cc m9_lay) 180 = .ok (.iload 9, 2) by decide +kernel) rfl ?_
  refine s_iadd (show decode (am_cc m9_lay) 182 = .ok (.iadd, 1) by decide +kernel) h7 ?_
  refine s_iaload (show decode (am_cc m9_lay) 183 = .ok (.iaload, 1) by decide +kernel) kd87 h8 h9 ?_
  refine s_istore (show decode (am_cc m9_lay) 184 = .ok (.istore 7, 2) by decide +kernel) (by decide) ?_
  refine s_iinc (show decode (am_cc m9_lay) 186 = .ok (.iinc 8 (-1), 3) by decide +kernel) rfl (by decide) h10 ?_
  refine s_goto (tgt := 66) (show decode (am_cc m9_lay) 189 = .ok (.goto (-123), 3) by decide +kernel) (by decide) ?_
  refine am_fg 9 ?_
  refine am_fg 10 ?_
  exact k
theorem g9_lay_192 {a1 a2 a3 a5 a7 a8 : Int} {M : am_M} {Q : Option am_V → am_M → Prop} (k1 : ¬ a2 = 0 → am_AtN m9_lay 206 [some (vr 86), some (vi a1), some (vi a2), some (vl a3), none, some (vl a5), none, some (vi a7), some (vi a8), none, none, none] [] KS (am_up M 86 31 a2) Q) (k2 : a2 = 0 → am_AtN m9_lay 201 [some (vr 86), some (vi a1), some (vi a2), some (vl a3), none, some (vl a5), none, some (vi a7), some (vi a8), none, none, none] [] KS (am_up M 86 31 a2) Q) : am_AtN m9_lay 192 [some (vr 86), some (vi a1), some (vi a2), some (vl a3), none, some (vl a5), none, some (vi a7), some (vi a8), none, none, none] [] KS M Q := by
  refine s_aload_n (show decode (am_cc m9_lay) 192 = .ok (.aload_n 0, 1) by decide +kernel) rfl ?_
  refine s_iload_n (show decode (am_cc m9_lay) 193 = .ok (.iload_n 2, 1) by decide +kernel) rfl ?_
  refine s_putf (k := 31) (x := a2) (ty0 := tyX9) (show decode (am_cc m9_lay) 194 = .ok (.putfield 105, 3) by decide +kernel) kd86 (by decide) rfl jnX9 tyX9_ok nmX9 (by decide) lf_RX9_105 rfl (Or.inl ⟨rfl, rfl, rfl⟩) ?_
  refine s_iload_n (show decode (am_cc m9_lay) 197 = .ok (.iload_n 2, 1) by decide +kernel) rfl ?_
  exact s_if_ne (tgt := 206) (show decode (am_cc m9_lay) 198 = .ok (.ifCond .ne 8, 3) by decide +kernel) (by decide) k1 k2
theorem g9_lay_201 {a1 a2 a3 a5 a7 a8 : Int} {M : am_M} {Q : Option am_V → am_M → Prop} (k : am_AtN m9_lay 212 [some (vr 86), some (vi a1), some (vi a2), some (vl a3), none, some (vl a5), none, some (vi a7), some (vi a8), none, none, none] [vi (-9)] KS M Q) : am_AtN m9_lay 201 [some (vr 86), some (vi a1), some (vi a2), some (vl a3), none, some (vl a5), none, some (vi a7), some (vi a8), none, none, none] [] KS M Q := by
  refine s_bipush (show decode (am_cc m9_lay) 201 = .ok (.bipush (-9), 2) by decide +kernel) ⟨by decide, by decide⟩ (by decide) ?_
  refine s_goto (tgt := 212) (show decode (am_cc m9_lay) 203 = .ok (.goto 9, 3) by decide +kernel) (by decide) ?_
  exact k
theorem g9_lay_206 {a1 a2 a3 a5 a7 a8 : Int} {M : am_M} {Q : Option am_V → am_M → Prop} (k : am_AtN m9_lay 212 [some (vr 86), some (vi a1), some (vi a2), some (vl a3), none, some (vl a5), none, some (vi a7), some (vi a8), none, none, none] [vi (M 109 0)] KS M Q) : am_AtN m9_lay 206 [some (vr 86), some (vi a1), some (vi a2), some (vl a3), none, some (vl a5), none, some (vi a7), some (vi a8), none, none, none] [] KS M Q := by
  refine s_aload_n (show decode (am_cc m9_lay) 206 = .ok (.aload_n 0, 1) by decide +kernel) rfl ?_
  refine s_getf (k := 30) (v := vr 109) (show decode (am_cc m9_lay) 207 = .ok (.getfield 79, 3) by decide +kernel) kd86 (by decide) rfl jnX9 (by decide) lf_RX9_79 rfl ?_
  refine s_iconst (show decode (am_cc m9_lay) 210 = .ok (.iconst 0, 1) by decide +kernel) ⟨by decide, by decide⟩ ?_
  refine s_iaload (show decode (am_cc m9_lay) 211 = .ok (.iaload, 1) by decide +kernel) kd109 (by decide) (by decide) ?_
  exact k
theorem g9_lay_212 {a1 a2 a3 a5 a7 a8 t0 : Int} {M : am_M} {Q : Option am_V → am_M → Prop} (k : Q (some (vi t0)) M) : am_AtN m9_lay 212 [some (vr 86), some (vi a1), some (vi a2), some (vl a3), none, some (vl a5), none, some (vi a7), some (vi a8), none, none, none] [vi t0] KS M Q := by
  exact s_ireturn (show decode (am_cc m9_lay) 212 = .ok (.ireturn, 1) by decide +kernel) rfl k
theorem g9_isSo_0 {a1 : Int} {M : am_M} {Q : Option am_V → am_M → Prop} (k : am_AtN m9_isSo 4 [some (vr 86), some (vi a1), some (vi 0), some (vi 0)] [] KS M Q) : am_AtN m9_isSo 0 [some (vr 86), some (vi a1), none, none] [] KS M Q := by
  refine s_iconst (show decode (am_cc m9_isSo) 0 = .ok (.iconst 0, 1) by decide +kernel) ⟨by decide, by decide⟩ ?_
  refine s_istore_n (show decode (am_cc m9_isSo) 1 = .ok (.istore_n 2, 1) by decide +kernel) (by decide) ?_
  refine s_iconst (show decode (am_cc m9_isSo) 2 = .ok (.iconst 0, 1) by decide +kernel) ⟨by decide, by decide⟩ ?_
  refine s_istore_n (show decode (am_cc m9_isSo) 3 = .ok (.istore_n 3, 1) by decide +kernel) (by decide) ?_
  exact k
theorem g9_isSo_4 {a1 a2 a3 : Int} {M : am_M} {Q : Option am_V → am_M → Prop} (k1 : M 86 31 ≤ a3 → am_AtN m9_isSo 39 [some (vr 86), some (vi a1), some (vi a2), some (vi a3)] [] KS M Q) (k2 : ¬ (M 86 31 ≤ a3) → am_AtN m9_isSo 12 [some (vr 86), some (vi a1), some (vi a2), some (vi a3)] [] KS M Q) : am_AtN m9_isSo 4 [some (vr 86), some (vi a1), some (vi a2), some (vi a3)] [] KS M Q := by
  refine s_iload_n (show decode (am_cc m9_isSo) 4 = .ok (.iload_n 3, 1) by decide +kernel) rfl ?_
  refine s_aload_n (show decode (am_cc m9_isSo) 5 = .ok (.aload_n 0, 1) by decide +kernel) rfl ?_
  refine s_getf (k := 31) (v := vi (M 86 31)) (show decode (am_cc m9_isSo) 6 = .ok (.getfield 105, 3) by decide +kernel) kd86 (by decide) rfl jnX9 (by decide) lf_RX9_105 rfl ?_
  exact s_icmp_ge (tgt := 39) (show decode (am_cc m9_isSo) 9 = .ok (.if_icmp .ge 30, 3) by decide +kernel) (by decide) k1 k2
theorem g9_isSo_12 {a1 a2 a3 : Int} {M : am_M} {Q : Option am_V → am_M → Prop} (h1 : -2147483648 ≤ 24 * a1 ∧ 24 * a1 ≤ 2147483647) (h2 : -2147483648 ≤ 4 * a2 ∧ 4 * a2 ≤ 2147483647) (h3 : -2147483648 ≤ (24 * a1) + (4 * a2) ∧ (24 * a1) + (4 * a2) ≤ 2147483647) (h4 : 0 ≤ a3) (h5 : a3 < 64) (h6 : -2147483648 ≤ ((24 * a1) + (4 * a2)) + (M 109 a3) ∧ ((24 * a1) + (4 * a2)) + (M 109 a3) ≤ 2147483647) (h7 : 0 ≤ ((24 * a1) + (4 * a2)) + (M 109 a3)) (h8 : ((24 * a1) + (4 * a2)) + (M 109 a3) < 192) (h9 : -2147483648 ≤ a3 + 1 ∧ a3 + 1 ≤ 2147483647) (k : am_AtN m9_isSo 4 [some (vr 86), some (vi a1), some (vi (M 87 (((24 * a1) + (4 * a2)) + (M 109 a3)))), some (vi (a3 + 1))] [] KS M Q) : am_AtN m9_isSo 12 [some (vr 86), some (vi a1), some (vi a2), some (vi a3)] [] KS M Q := by
  refine s_aload_n (show decode (am_cc m9_isSo) 12 = .ok (.aload_n 0, 1) by decide +kernel) rfl ?_
  refine s_getf (k := 2) (v := vr 87) (show decode (am_cc m9_isSo) 13 = .ok (.getfield 7, 3) by decide +kernel) kd86 (by decide) rfl jnX9 (by decide) lf_RX9_7 rfl ?_
  refine s_bipush (show decode (am_cc m9_isSo) 16 = .ok (.bipush 24, 2) by decide +kernel) ⟨by decide, by decide⟩ (by decide) ?_
  refine s_iload_n (show decode (am_cc m9_isSo) 18 = .ok (.iload_n 1, 1) by decide +kernel) rfl ?_
  refine s_imul (show decode (am_cc m9_isSo) 19 = .ok (.imul, 1) by decide +kernel) h1 ?_
  refine s_iconst (show decode (am_cc m9_isSo) 20 = .ok (.iconst 4, 1) by decide +kernel) ⟨by decide, by decide⟩ ?_
  refine s_iload_n (show decode (am_cc m9_isSo) 21 = .ok (.iload_n 2, 1) by decide +kernel) rfl ?_
  refine s_imul (show decode (am_cc m9_isSo) 22 = .ok (.imul, 1) by decide +kernel) h2 ?_
  refine s_iadd (show decode (am_cc m9_isSo) 23 = .ok (.iadd, 1) by decide +kernel) h3 ?_
  refine s_aload_n (show decode (am_cc m9_isSo) 24 = .ok (.aload_n 0, 1) by decide +kernel) rfl ?_
  refine s_getf (k := 30) (v := vr 109) (show decode (am_cc m9_isSo) 25 = .ok (.getfield 79, 3) by decide +kernel) kd86 (by decide) rfl jnX9 (by decide) lf_RX9_79 rfl ?_
  refine s_iload_n (show decode (am_cc m9_isSo) 28 = .ok (.iload_n 3, 1) by decide +kernel) rfl ?_
  refine s_iaload (show decode (am_cc m9_isSo) 29 = .ok (.iaload, 1) by decide +kernel) kd109 h4 h5 ?_
  refine s_iadd (show decode (am_cc m9_isSo) 30 = .ok (.iadd, 1) by decide +kernel) h6 ?_
  refine s_iaload (show decode (am_cc m9_isSo) 31 = .ok (.iaload, 1) by decide +kernel) kd87 h7 h8 ?_
  refine s_istore_n (show decode (am_cc m9_isSo) 32 = .ok (.istore_n 2, 1) by decide +kernel) (by decide) ?_
  refine s_iinc (show decode (am_cc m9_isSo) 33 = .ok (.iinc 3 1, 3) by decide +kernel) rfl (by decide) h9 ?_
  refine s_goto (tgt := 4) (show decode (am_cc m9_isSo) 36 = .ok (.goto (-32), 3) by decide +kernel) (by decide) ?_
  exact k
theorem g9_isSo_39 {a1 a2 a3 : Int} {M : am_M} {Q : Option am_V → am_M → Prop} (h1 : -2147483648 ≤ 6 * a1 ∧ 6 * a1 ≤ 2147483647) (h2 : -2147483648 ≤ (6 * a1) + a2 ∧ (6 * a1) + a2 ≤ 2147483647) (h3 : 0 ≤ (6 * a1) + a2) (h4 : (6 * a1) + a2 < 48) (h5 : M 88 ((6 * a1) + a2) = 0 ∨ M 88 ((6 * a1) + a2) = 1) (k : Q (some (vi (M 88 ((6 * a1) + a2)))) M) : am_AtN m9_isSo 39 [some (vr 86), some (vi a1), some (vi a2), some (vi a3)] [] KS M Q := by
  refine s_aload_n (show decode (am_cc m9_isSo) 39 = .ok (.aload_n 0, 1) by decide +kernel) rfl ?_
  refine s_getf (k := 3) (v := vr 88) (show decode (am_cc m9_isSo) 40 = .ok (.getfield 13, 3) by decide +kernel) kd86 (by decide) rfl jnX9 (by decide) lf_RX9_13 rfl ?_
  refine s_bipush (show decode (am_cc m9_isSo) 43 = .ok (.bipush 6, 2) by decide +kernel) ⟨by decide, by decide⟩ (by decide) ?_
  refine s_iload_n (show decode (am_cc m9_isSo) 45 = .ok (.iload_n 1, 1) by decide +kernel) rfl ?_
  refine s_imul (show decode (am_cc m9_isSo) 46 = .ok (.imul, 1) by decide +kernel) h1 ?_
  refine s_iload_n (show decode (am_cc m9_isSo) 47 = .ok (.iload_n 2, 1) by decide +kernel) rfl ?_
  refine s_iadd (show decode (am_cc m9_isSo) 48 = .ok (.iadd, 1) by decide +kernel) h2 ?_
  refine s_baload (show decode (am_cc m9_isSo) 49 = .ok (.baload, 1) by decide +kernel) kd88 h3 h4 ?_
  exact s_zreturn (show decode (am_cc m9_isSo) 50 = .ok (.ireturn, 1) by decide +kernel) rfl h5 k
theorem g9_rank_0 {a1 : Int} {M : am_M} {Q : Option am_V → am_M → Prop} (k : am_CallN m9_noSentence [vi a1] KS (am_up M 86 0 0) (fun r M' => am_AtN m9_rank 9 [some (vr 86), some (vi a1), none, none, none, none, none] (r.toList ++ []) KS M' Q)) : am_AtN m9_rank 0 [some (vr 86), some (vi a1), none, none, none, none, none] [] KS M Q := by
  refine s_aload_n (show decode (am_cc m9_rank) 0 = .ok (.aload_n 0, 1) by decide +kernel) rfl ?_
  refine s_iconst (show decode (am_cc m9_rank) 1 = .ok (.iconst 0, 1) by decide +kernel) ⟨by decide, by decide⟩ ?_
  refine s_putf (k := 0) (x := 0) (ty0 := tyX9) (show decode (am_cc m9_rank) 2 = .ok (.putfield 95, 3) by decide +kernel) kd86 (by decide) rfl jnX9 tyX9_ok nmX9 (by decide) lf_RX9_95 rfl (Or.inl ⟨rfl, rfl, rfl⟩) ?_
  refine s_iload_n (show decode (am_cc m9_rank) 5 = .ok (.iload_n 1, 1) by decide +kernel) rfl ?_
  exact n_callS (as := [vi a1]) (stk := []) (show decode (am_cc m9_rank) 6 = .ok (.invokestatic 122, 3) by decide +kernel) lk_RX9_122 (by decide) (Nat.le_of_ble_eq_true rfl) ⟨rfl, rfl⟩ k
theorem g9_rank_9 {a1 t0 : Int} {M : am_M} {Q : Option am_V → am_M → Prop} (k1 : t0 = 0 → am_AtN m9_rank 16 [some (vr 86), some (vi a1), none, none, none, none, none] [] KS M Q) (k2 : ¬ (t0 = 0) → am_AtN m9_rank 12 [some (vr 86), some (vi a1), none, none, none, none, none] [] KS M Q) : am_AtN m9_rank 9 [some (vr 86), some (vi a1), none, none, none, none, none] [vi t0] KS M Q := by
  exact s_if_eq (tgt := 16) (show decode (am_cc m9_rank) 9 = .ok (.ifCond .eq 7, 3) by decide +kernel) (by decide) k1 k2
theorem g9_rank_12 {a1 : Int} {M : am_M} {Q : Option am_V → am_M → Prop} (k : Q (some (vl (-1))) M) : am_AtN m9_rank 12 [some (vr 86), some (vi a1), none, none, none, none, none] [] KS M Q := by
  refine s_ldc2 (show decode (am_cc m9_rank) 12 = .ok (.ldc2_w 150, 3) by decide +kernel) lc_RX9_150 ⟨by decide, by decide⟩ ?_
  exact s_lreturn (show decode (am_cc m9_rank) 15 = .ok (.lreturn, 1) by decide +kernel) rfl k
theorem g9_rank_16 {a1 : Int} {M : am_M} {Q : Option am_V → am_M → Prop} (k : am_CallN m9_isSo [vr 86, vi a1] KS M (fun r M' => am_AtN m9_rank 21 [some (vr 86), some (vi a1), none, none, none, none, none] (r.toList ++ []) KS M' Q)) : am_AtN m9_rank 16 [some (vr 86), some (vi a1), none, none, none, none, none] [] KS M Q := by
  refine s_aload_n (show decode (am_cc m9_rank) 16 = .ok (.aload_n 0, 1) by decide +kernel) rfl ?_
  refine s_iload_n (show decode (am_cc m9_rank) 17 = .ok (.iload_n 1, 1) by decide +kernel) rfl ?_
  exact n_callV (as := [vi a1]) (stk := []) (show decode (am_cc m9_rank) 18 = .ok (.invokevirtual 240, 3) by decide +kernel) lk_RX9_240 kd86 (by decide) rfl rfl (by decide) (Nat.le_of_ble_eq_true rfl) ⟨rfl, rfl⟩ k
theorem g9_rank_21 {a1 t0 : Int} {M : am_M} {Q : Option am_V → am_M → Prop} (k1 : ¬ t0 = 0 → am_AtN m9_rank 28 [some (vr 86), some (vi a1), none, none, none, none, none] [] KS M Q) (k2 : t0 = 0 → am_AtN m9_rank 24 [some (vr 86), some (vi a1), none, none, none, none, none] [] KS M Q) : am_AtN m9_rank 21 [some (vr 86), some (vi a1), none, none, none, none, none] [vi t0] KS M Q := by
  exact s_if_ne (tgt := 28) (show decode (am_cc m9_rank) 21 = .ok (.ifCond .ne 7, 3) by decide +kernel) (by decide) k1 k2
theorem g9_rank_24 {a1 : Int} {M : am_M} {Q : Option am_V → am_M → Prop} (k : Q (some (vl (-3))) M) : am_AtN m9_rank 24 [some (vr 86), some (vi a1), none, none, none, none, none] [] KS M Q := by
  refine s_ldc2 (show decode (am_cc m9_rank) 24 = .ok (.ldc2_w 243, 3) by decide +kernel) lc_RX9_243 ⟨by decide, by decide⟩ ?_
  exact s_lreturn (show decode (am_cc m9_rank) 27 = .ok (.lreturn, 1) by decide +kernel) rfl k
theorem g9_rank_28 {a1 : Int} {M : am_M} {Q : Option am_V → am_M → Prop} (k1 : M 86 31 ≤ 20 → am_AtN m9_rank 41 [some (vr 86), some (vi a1), none, none, none, none, none] [] KS M Q) (k2 : ¬ (M 86 31 ≤ 20) → am_AtN m9_rank 37 [some (vr 86), some (vi a1), none, none, none, none, none] [] KS M Q) : am_AtN m9_rank 28 [some (vr 86), some (vi a1), none, none, none, none, none] [] KS M Q := by
  refine s_aload_n (show decode (am_cc m9_rank) 28 = .ok (.aload_n 0, 1) by decide +kernel) rfl ?_
  refine s_getf (k := 31) (v := vi (M 86 31)) (show decode (am_cc m9_rank) 29 = .ok (.getfield 105, 3) by decide +kernel) kd86 (by decide) rfl jnX9 (by decide) lf_RX9_105 rfl ?_
  refine s_bipush (show decode (am_cc m9_rank) 32 = .ok (.bipush 20, 2) by decide +kernel) ⟨by decide, by decide⟩ (by decide) ?_
  exact s_icmp_le (tgt := 41) (show decode (am_cc m9_rank) 34 = .ok (.if_icmp .le 7, 3) by decide +kernel) (by decide) k1 k2
theorem g9_rank_37 {a1 : Int} {M : am_M} {Q : Option am_V → am_M → Prop} (k : Q (some (vl (-4))) M) : am_AtN m9_rank 37 [some (vr 86), some (vi a1), none, none, none, none, none] [] KS M Q := by
  refine s_ldc2 (show decode (am_cc m9_rank) 37 = .ok (.ldc2_w 245, 3) by decide +kernel) lc_RX9_245 ⟨by decide, by decide⟩ ?_
  exact s_lreturn (show decode (am_cc m9_rank) 40 = .ok (.lreturn, 1) by decide +kernel) rfl k
theorem g9_rank_41 {a1 : Int} {M : am_M} {Q : Option am_V → am_M → Prop} (k : am_CallN m9_reckon [vr 86, vi a1, vi (M 86 31)] KS M (fun r M' => am_AtN m9_rank 50 [some (vr 86), some (vi a1), none, none, none, none, none] (r.toList ++ []) KS M' Q)) : am_AtN m9_rank 41 [some (vr 86), some (vi a1), none, none, none, none, none] [] KS M Q := by
  refine s_aload_n (show decode (am_cc m9_rank) 41 = .ok (.aload_n 0, 1) by decide +kernel) rfl ?_
  refine s_iload_n (show decode (am_cc m9_rank) 42 = .ok (.iload_n 1, 1) by decide +kernel) rfl ?_
  refine s_aload_n (show decode (am_cc m9_rank) 43 = .ok (.aload_n 0, 1) by decide +kernel) rfl ?_
  refine s_getf (k := 31) (v := vi (M 86 31)) (show decode (am_cc m9_rank) 44 = .ok (.getfield 105, 3) by decide +kernel) kd86 (by decide) rfl jnX9 (by decide) lf_RX9_105 rfl ?_
  exact n_callV (as := [vi a1, vi (M 86 31)]) (stk := []) (show decode (am_cc m9_rank) 47 = .ok (.invokevirtual 237, 3) by decide +kernel) lk_RX9_237 kd86 (by decide) rfl rfl (by decide) (Nat.le_of_ble_eq_true rfl) ⟨rfl, rfl⟩ k
theorem g9_rank_50 {a1 : Int} {M : am_M} {Q : Option am_V → am_M → Prop} (k : am_AtN m9_rank 58 [some (vr 86), some (vi a1), some (vl 0), none, some (vi 0), some (vi 0), none] [] KS M Q) : am_AtN m9_rank 50 [some (vr 86), some (vi a1), none, none, none, none, none] [] KS M Q := by
  refine s_lconst (v := 0) (show decode (am_cc m9_rank) 50 = .ok (.lconst 0, 1) by decide +kernel) (by decide) ⟨by decide, by decide⟩ ?_
  refine s_lstore_n (show decode (am_cc m9_rank) 51 = .ok (.lstore_n 2, 1) by decide +kernel) (by decide) ?_
  refine s_iconst (show decode (am_cc m9_rank) 52 = .ok (.iconst 0, 1) by decide +kernel) ⟨by decide, by decide⟩ ?_
  refine s_istore (show decode (am_cc m9_rank) 53 = .ok (.istore 4, 2) by decide +kernel) (by decide) ?_
  refine s_iconst (show decode (am_cc m9_rank) 55 = .ok (.iconst 0, 1) by decide +kernel) ⟨by decide, by decide⟩ ?_
  refine s_istore (show decode (am_cc m9_rank) 56 = .ok (.istore 5, 2) by decide +kernel) (by decide) ?_
  exact k
theorem g9_rank_58 {a1 a2 a4 a5 : Int} {M : am_M} {Q : Option am_V → am_M → Prop} (k1 : M 86 31 ≤ a5 → am_AtN m9_rank 156 [some (vr 86), some (vi a1), some (vl a2), none, some (vi a4), some (vi a5), none] [] KS M Q) (k2 : ¬ (M 86 31 ≤ a5) → am_AtN m9_rank 67 [some (vr 86), some (vi a1), some (vl a2), none, some (vi a4), some (vi a5), none] [] KS M Q) : am_AtN m9_rank 58 [some (vr 86), some (vi a1), some (vl a2), none, some (vi a4), some (vi a5), none] [] KS M Q := by
  refine s_iload (show decode (am_cc m9_rank) 58 = .ok (.iload 5, 2) by decide +kernel) rfl ?_
  refine s_aload_n (show decode (am_cc m9_rank) 60 = .ok (.aload_n 0, 1) by decide +kernel) rfl ?_
  refine s_getf (k := 31) (v := vi (M 86 31)) (show decode (am_cc m9_rank) 61 = .ok (.getfield 105, 3) by decide +kernel) kd86 (by decide) rfl jnX9 (by decide) lf_RX9_105 rfl ?_
  exact s_icmp_ge (tgt := 156) (show decode (am_cc m9_rank) 64 = .ok (.if_icmp .ge 92, 3) by decide +kernel) (by decide) k1 k2
theorem g9_rank_67 {a1 a2 a4 a5 : Int} {M : am_M} {Q : Option am_V → am_M → Prop} (k : am_AtN m9_rank 70 [some (vr 86), some (vi a1), some (vl a2), none, some (vi a4), some (vi a5), some (vi 0)] [] KS M Q) : am_AtN m9_rank 67 [some (vr 86), some (vi a1), some (vl a2), none, some (vi a4), some (vi a5), none] [] KS M Q := by
  refine s_iconst (show decode (am_cc m9_rank) 67 = .ok (.iconst 0, 1) by decide +kernel) ⟨by decide, by decide⟩ ?_
  refine s_istore (show decode (am_cc m9_rank) 68 = .ok (.istore 6, 2) by decide +kernel) (by decide) ?_
  exact k
theorem g9_rank_70 {a1 a2 a4 a5 a6 : Int} {M : am_M} {Q : Option am_V → am_M → Prop} (h1 : 0 ≤ a5) (h2 : a5 < 64) (k1 : M 109 a5 ≤ a6 → am_AtN m9_rank 126 [some (vr 86), some (vi a1), some (vl a2), none, some (vi a4), some (vi a5), some (vi a6)] [] KS M Q) (k2 : ¬ (M 109 a5 ≤ a6) → am_AtN m9_rank 82 [some (vr 86), some (vi a1), some (vl a2), none, some (vi a4), some (vi a5), some (vi a6)] [] KS M Q) : am_AtN m9_rank 70 [some (vr 86), some (vi a1), some (vl a2), none, some (vi a4), some (vi a5), some (vi a6)] [] KS M Q := by
  refine s_iload (show decode (am_cc m9_rank) 70 = .ok (.iload 6, 2) by decide +kernel) rfl ?_
  refine s_aload_n (show decode (am_cc m9_rank) 72 = .ok (.aload_n 0, 1) by decide +kernel) rfl ?_
  refine s_getf (k := 30) (v := vr 109) (show decode (am_cc m9_rank) 73 = .ok (.getfield 79, 3) by decide +kernel) kd86 (by decide) rfl jnX9 (by decide) lf_RX9_79 rfl ?_
  refine s_iload (show decode (am_cc m9_rank) 76 = .ok (.iload 5, 2) by decide +kernel) rfl ?_
  refine s_iaload (show decode (am_cc m9_rank) 78 = .ok (.iaload, 1) by decide +kernel) kd109 h1 h2 ?_
  exact s_icmp_ge (tgt := 126) (show decode (am_cc m9_rank) 79 = .ok (.if_icmp .ge 47, 3) by decide +kernel) (by decide) k1 k2
theorem g9_rank_82 {a1 a2 a4 a5 a6 : Int} {M : am_M} {Q : Option am_V → am_M → Prop} (h1 : -2147483648 ≤ (M 86 31) - 1 ∧ (M 86 31) - 1 ≤ 2147483647) (h2 : -2147483648 ≤ ((M 86 31) - 1) - a5 ∧ ((M 86 31) - 1) - a5 ≤ 2147483647) (h3 : -2147483648 ≤ 6 * (((M 86 31) - 1) - a5) ∧ 6 * (((M 86 31) - 1) - a5) ≤ 2147483647) (h4 : -2147483648 ≤ 24 * a1 ∧ 24 * a1 ≤ 2147483647) (h5 : -2147483648 ≤ 4 * a4 ∧ 4 * a4 ≤ 2147483647) (h6 : -2147483648 ≤ (24 * a1) + (4 * a4) ∧ (24 * a1) + (4 * a4) ≤ 2147483647) (h7 : -2147483648 ≤ ((24 * a1) + (4 * a4)) + a6 ∧ ((24 * a1) + (4 * a4)) + a6 ≤ 2147483647) (h8 : 0 ≤ ((24 * a1) + (4 * a4)) + a6) (h9 : ((24 * a1) + (4 * a4)) + a6 < 192) (h10 : -2147483648 ≤ (6 * (((M 86 31) - 1) - a5)) + (M 87 (((24 * a1) + (4 * a4)) + a6)) ∧ (6 * (((M 86 31) - 1) - a5)) + (M 87 (((24 * a1) + (4 * a4)) + a6)) ≤ 2147483647) (h11 : 0 ≤ (6 * (((M 86 31) - 1) - a5)) + (M 87 (((24 * a1) + (4 * a4)) + a6))) (h12 : (6 * (((M 86 31) - 1) - a5)) + (M 87 (((24 * a1) + (4 * a4)) + a6)) < 126) (h13 : -9223372036854775808 ≤ a2 + (M 108 ((6 * (((M 86 31) - 1) - a5)) + (M 87 (((24 * a1) + (4 * a4)) + a6)))) ∧ a2 + (M 108 ((6 * (((M 86 31) - 1) - a5)) + (M 87 (((24 * a1) + (4 * a4)) + a6)))) ≤ 9223372036854775807) (h14 : -2147483648 ≤ a6 + 1 ∧ a6 + 1 ≤ 2147483647) (k : am_AtN m9_rank 70 [some (vr 86), some (vi a1), some (vl (a2 + (M 108 ((6 * (((M 86 31) - 1) - a5)) + (M 87 (((24 * a1) + (4 * a4)) + a6)))))), none, some (vi a4), some (vi a5), some (vi (a6 + 1))] [] KS M Q) : am_AtN m9_rank 82 [some (vr 86), some (vi a1), some (vl a2), none, some (vi a4), some (vi a5), some (vi a6)] [] KS M Q := by
  refine s_lload_n (show decode (am_cc m9_rank) 82 = .ok (.lload_n 2, 1) by decide +kernel) rfl ?_
  refine s_aload_n (show decode (am_cc m9_rank) 83 = .ok (.aload_n 0, 1) by decide +kernel) rfl ?_
  refine s_getf (k := 29) (v := vr 108) (show decode (am_cc m9_rank) 84 = .ok (.getfield 75, 3) by decide +kernel) kd86 (by decide) rfl jnX9 (by decide) lf_RX9_75 rfl ?_
  refine s_bipush (show decode (am_cc m9_rank) 87 = .ok (.bipush 6, 2) by decide +kernel) ⟨by decide, by decide⟩ (by decide) ?_
  refine s_aload_n (show decode (am_cc m9_rank) 89 = .ok (.aload_n 0, 1) by decide +kernel) rfl ?_
  refine s_getf (k := 31) (v := vi (M 86 31)) (show decode (am_cc m9_rank) 90 = .ok (.getfield 105, 3) by decide +kernel) kd86 (by decide) rfl jnX9 (by decide) lf_RX9_105 rfl ?_
  refine s_iconst (show decode (am_cc m9_rank) 93 = .ok (.iconst 1, 1) by decide +kernel) ⟨by decide, by decide⟩ ?_
  refine s_isub (show decode (am_cc m9_rank) 94 = .ok (.isub, 1) by decide +kernel) h1 ?_
  refine s_iload (show decode (am_cc m9_rank) 95 = .ok (.iload 5, 2) by decide +kernel) rfl ?_
  refine s_isub (show decode (am_cc m9_rank) 97 = .ok (.isub, 1) by decide +kernel) h2 ?_
  refine s_imul (show decode (am_cc m9_rank) 98 = .ok (.imul, 1) by decide +kernel) h3 ?_
  refine s_aload_n (show decode (am_cc m9_rank) 99 = .ok (.aload_n 0, 1) by decide +kernel) rfl ?_
  refine s_getf (k := 2) (v := vr 87) (show decode (am_cc m9_rank) 100 = .ok (.getfield 7, 3) by decide +kernel) kd86 (by decide) rfl jnX9 (by decide) lf_RX9_7 rfl ?_
  refine s_bipush (show decode (am_cc m9_rank) 103 = .ok (.bipush 24, 2) by decide +kernel) ⟨by decide, by decide⟩ (by decide) ?_
  refine s_iload_n (show decode (am_cc m9_rank) 105 = .ok (.iload_n 1, 1) by decide +kernel) rfl ?_
  refine s_imul (show decode (am_cc m9_rank) 106 = .ok (.imul, 1) by decide +kernel) h4 ?_
  refine s_iconst (show decode (am_cc m9_rank) 107 = .ok (.iconst 4, 1) by decide +kernel) ⟨by decide, by decide⟩ ?_
  refine s_iload (show decode (am_cc m9_rank) 108 = .ok (.iload 4, 2) by decide +kernel) rfl ?_
  refine s_imul (show decode (am_cc m9_rank) 110 = .ok (.imul, 1) by decide +kernel) h5 ?_
  refine s_iadd (show decode (am_cc m9_rank) 111 = .ok (.iadd, 1) by decide +kernel) h6 ?_
  refine s_iload (show decode (am_cc m9_rank) 112 = .ok (.iload 6, 2) by decide +kernel) rfl ?_
  refine s_iadd (show decode (am_cc m9_rank) 114 = .ok (.iadd, 1) by decide +kernel) h7 ?_
  refine s_iaload (show decode (am_cc m9_rank) 115 = .ok (.iaload, 1) by decide +kernel) kd87 h8 h9 ?_
  refine s_iadd (show decode (am_cc m9_rank) 116 = .ok (.iadd, 1) by decide +kernel) h10 ?_
  refine s_laload (show decode (am_cc m9_rank) 117 = .ok (.laload, 1) by decide +kernel) kd108 h11 h12 ?_
  refine s_ladd (show decode (am_cc m9_rank) 118 = .ok (.ladd, 1) by decide +kernel) h13 ?_
  refine s_lstore_n (show decode (am_cc m9_rank) 119 = .ok (.lstore_n 2, 1) by decide +kernel) (by decide) ?_
  refine s_iinc (show decode (am_cc m9_rank) 120 = .ok (.iinc 6 1, 3) by decide +kernel) rfl (by decide) h14 ?_
  refine s_goto (tgt := 70) (show decode (am_cc m9_rank) 123 = .ok (.goto (-53), 3) by decide +kernel) (by decide) ?_
  exact k
theorem g9_rank_126 {a1 a2 a4 a5 a6 : Int} {M : am_M} {Q : Option am_V → am_M → Prop} (h1 : -2147483648 ≤ 24 * a1 ∧ 24 * a1 ≤ 2147483647) (h2 : -2147483648 ≤ 4 * a4 ∧ 4 * a4 ≤ 2147483647) (h3 : -2147483648 ≤ (24 * a1) + (4 * a4) ∧ (24 * a1) + (4 * a4) ≤ 2147483647) (h4 : 0 ≤ a5) (h5 : a5 < 64) (h6 : -2147483648 ≤ ((24 * a1) + (4 * a4)) + (M 109 a5) ∧ ((24 * a1) + (4 * a4)) + (M 109 a5) ≤ 2147483647) (h7 : 0 ≤ ((24 * a1) + (4 * a4)) + (M 109 a5)) (h8 : ((24 * a1) + (4 * a4)) + (M 109 a5) < 192) (h9 : -2147483648 ≤ a5 + 1 ∧ a5 + 1 ≤ 2147483647) (k : am_AtN m9_rank 58 [some (vr 86), some (vi a1), some (vl a2), none, some (vi (M 87 (((24 * a1) + (4 * a4)) + (M 109 a5)))), some (vi (a5 + 1)), none] [] KS M Q) : am_AtN m9_rank 126 [some (vr 86), some (vi a1), some (vl a2), none, some (vi a4), some (vi a5), some (vi a6)] [] KS M Q := by
  refine s_aload_n (show decode (am_cc m9_rank) 126 = .ok (.aload_n 0, 1) by decide +kernel) rfl ?_
  refine s_getf (k := 2) (v := vr 87) (show decode (am_cc m9_rank) 127 = .ok (.getfield 7, 3) by decide +kernel) kd86 (by decide) rfl jnX9 (by decide) lf_RX9_7 rfl ?_
  refine s_bipush (show decode (am_cc m9_rank) 130 = .ok (.bipush 24, 2) by decide +kernel) ⟨by decide, by decide⟩ (by decide) ?_
  refine s_iload_n (show decode (am_cc m9_rank) 132 = .ok (.iload_n 1, 1) by decide +kernel) rfl ?_
  refine s_imul (show decode (am_cc m9_rank) 133 = .ok (.imul, 1) by decide +kernel) h1 ?_
  refine s_iconst (show decode (am_cc m9_rank) 134 = .ok (.iconst 4, 1) by decide +kernel) ⟨by decide, by decide⟩ ?_
  refine s_iload (show decode (am_cc m9_rank) 135 = .ok (.iload 4, 2) by decide +kernel) rfl ?_
  refine s_imul (show decode (am_cc m9_rank) 137 = .ok (.imul, 1) by decide +kernel) h2 ?_
  refine s_iadd (show decode (am_cc m9_rank) 138 = .ok (.iadd, 1) by decide +kernel) h3 ?_
  refine s_aload_n (show decode (am_cc m9_rank) 139 = .ok (.aload_n 0, 1) by decide +kernel) rfl ?_
  refine s_getf (k := 30) (v := vr 109) (show decode (am_cc m9_rank) 140 = .ok (.getfield 79, 3) by decide +kernel) kd86 (by decide) rfl jnX9 (by decide) lf_RX9_79 rfl ?_
  refine s_iload (show decode (am_cc m9_rank) 143 = .ok (.iload 5, 2) by decide +kernel) rfl ?_
  refine s_iaload (show decode (am_cc m9_rank) 145 = .ok (.iaload, 1) by decide +kernel) kd109 h4 h5 ?_
  refine s_iadd (show decode (am_cc m9_rank) 146 = .ok (.iadd, 1) by decide +kernel) h6 ?_
  refine s_iaload (show decode (am_cc m9_rank) 147 = .ok (.iaload, 1) by decide +kernel) kd87 h7 h8 ?_
  refine s_istore (show decode (am_cc m9_rank) 148 = .ok (.istore 4, 2) by decide +kernel) (by decide) ?_
  refine s_iinc (show decode (am_cc m9_rank) 150 = .ok (.iinc 5 1, 3) by decide +kernel) rfl (by decide) h9 ?_
  refine s_goto (tgt := 58) (show decode (am_cc m9_rank) 153 = .ok (.goto (-95), 3) by decide +kernel) (by decide) ?_
  refine am_fg 6 ?_
  exact k
theorem g9_rank_156 {a1 a2 a4 a5 : Int} {M : am_M} {Q : Option am_V → am_M → Prop} (k : Q (some (vl a2)) M) : am_AtN m9_rank 156 [some (vr 86), some (vi a1), some (vl a2), none, some (vi a4), some (vi a5), none] [] KS M Q := by
  refine s_lload_n (show decode (am_cc m9_rank) 156 = .ok (.lload_n 2, 1) by decide +kernel) rfl ?_
  exact s_lreturn (show decode (am_cc m9_rank) 157 = .ok (.lreturn, 1) by decide +kernel) rfl k
theorem g9_letter_0 {a1 : Int} {M : am_M} {Q : Option am_V → am_M → Prop} (k : am_CallN m9_noLetter [vr 86, vi a1] KS (am_up M 86 0 0) (fun r M' => am_AtN m9_letter 10 [some (vr 86), some (vi a1)] (r.toList ++ []) KS M' Q)) : am_AtN m9_letter 0 [some (vr 86), some (vi a1)] [] KS M Q := by
  refine s_aload_n (show decode (am_cc m9_letter) 0 = .ok (.aload_n 0, 1) by decide +kernel) rfl ?_
  refine s_iconst (show decode (am_cc m9_letter) 1 = .ok (.iconst 0, 1) by decide +kernel) ⟨by decide, by decide⟩ ?_
  refine s_putf (k := 0) (x := 0) (ty0 := tyX9) (show decode (am_cc m9_letter) 2 = .ok (.putfield 95, 3) by decide +kernel) kd86 (by decide) rfl jnX9 tyX9_ok nmX9 (by decide) lf_RX9_95 rfl (Or.inl ⟨rfl, rfl, rfl⟩) ?_
  refine s_aload_n (show decode (am_cc m9_letter) 5 = .ok (.aload_n 0, 1) by decide +kernel) rfl ?_
  refine s_iload_n (show decode (am_cc m9_letter) 6 = .ok (.iload_n 1, 1) by decide +kernel) rfl ?_
  exact n_callV (as := [vi a1]) (stk := []) (show decode (am_cc m9_letter) 7 = .ok (.invokevirtual 129, 3) by decide +kernel) lk_RX9_129 kd86 (by decide) rfl rfl (by decide) (Nat.le_of_ble_eq_true rfl) ⟨rfl, rfl⟩ k
theorem g9_letter_10 {a1 t0 : Int} {M : am_M} {Q : Option am_V → am_M → Prop} (k1 : t0 = 0 → am_AtN m9_letter 15 [some (vr 86), some (vi a1)] [] KS M Q) (k2 : ¬ (t0 = 0) → am_AtN m9_letter 13 [some (vr 86), some (vi a1)] [] KS M Q) : am_AtN m9_letter 10 [some (vr 86), some (vi a1)] [vi t0] KS M Q := by
  exact s_if_eq (tgt := 15) (show decode (am_cc m9_letter) 10 = .ok (.ifCond .eq 5, 3) by decide +kernel) (by decide) k1 k2
theorem g9_letter_13 {a1 : Int} {M : am_M} {Q : Option am_V → am_M → Prop} (k : Q (some (vi (-1))) M) : am_AtN m9_letter 13 [some (vr 86), some (vi a1)] [] KS M Q := by
  refine s_iconst (show decode (am_cc m9_letter) 13 = .ok (.iconst (-1), 1) by decide +kernel) ⟨by decide, by decide⟩ ?_
  exact s_ireturn (show decode (am_cc m9_letter) 14 = .ok (.ireturn, 1) by decide +kernel) rfl k
theorem g9_letter_15 {a1 : Int} {M : am_M} {Q : Option am_V → am_M → Prop} (k1 : ¬ M 86 31 = 24 → am_AtN m9_letter 27 [some (vr 86), some (vi a1)] [] KS M Q) (k2 : M 86 31 = 24 → am_AtN m9_letter 24 [some (vr 86), some (vi a1)] [] KS M Q) : am_AtN m9_letter 15 [some (vr 86), some (vi a1)] [] KS M Q := by
  refine s_aload_n (show decode (am_cc m9_letter) 15 = .ok (.aload_n 0, 1) by decide +kernel) rfl ?_
  refine s_getf (k := 31) (v := vi (M 86 31)) (show decode (am_cc m9_letter) 16 = .ok (.getfield 105, 3) by decide +kernel) kd86 (by decide) rfl jnX9 (by decide) lf_RX9_105 rfl ?_
  refine s_bipush (show decode (am_cc m9_letter) 19 = .ok (.bipush 24, 2) by decide +kernel) ⟨by decide, by decide⟩ (by decide) ?_
  exact s_icmp_ne (tgt := 27) (show decode (am_cc m9_letter) 21 = .ok (.if_icmp .ne 6, 3) by decide +kernel) (by decide) k1 k2
theorem g9_letter_24 {a1 : Int} {M : am_M} {Q : Option am_V → am_M → Prop} (k : Q (some (vi (-4))) M) : am_AtN m9_letter 24 [some (vr 86), some (vi a1)] [] KS M Q := by
  refine s_bipush (show decode (am_cc m9_letter) 24 = .ok (.bipush (-4), 2) by decide +kernel) ⟨by decide, by decide⟩ (by decide) ?_
  exact s_ireturn (show decode (am_cc m9_letter) 26 = .ok (.ireturn, 1) by decide +kernel) rfl k
theorem g9_letter_27 {a1 : Int} {M : am_M} {Q : Option am_V → am_M → Prop} (h1 : 0 ≤ M 86 31) (h2 : M 86 31 < 64) (h3 : -2147483648 ≤ ((am_up M 109 (M 86 31) a1) 86 31) + 1 ∧ ((am_up M 109 (M 86 31) a1) 86 31) + 1 ≤ 2147483647) (k : Q (some (vi ((am_up (am_up M 109 (M 86 31) a1) 86 31 (((am_up M 109 (M 86 31) a1) 86 31) + 1)) 86 31))) (am_up (am_up M 109 (M 86 31) a1) 86 31 (((am_up M 109 (M 86 31) a1) 86 31) + 1))) : am_AtN m9_letter 27 [some (vr 86), some (vi a1)] [] KS M Q := by
  refine s_aload_n (show decode (am_cc m9_letter) 27 = .ok (.aload_n 0, 1) by decide +kernel) rfl ?_
  refine s_getf (k := 30) (v := vr 109) (show decode (am_cc m9_letter) 28 = .ok (.getfield 79, 3) by decide +kernel) kd86 (by decide) rfl jnX9 (by decide) lf_RX9_79 rfl ?_
  refine s_aload_n (show decode (am_cc m9_letter) 31 = .ok (.aload_n 0, 1) by decide +kernel) rfl ?_
  refine s_getf (k := 31) (v := vi (M 86 31)) (show decode (am_cc m9_letter) 32 = .ok (.getfield 105, 3) by decide +kernel) kd86 (by decide) rfl jnX9 (by decide) lf_RX9_105 rfl ?_
  refine s_iload_n (show decode (am_cc m9_letter) 35 = .ok (.iload_n 1, 1) by decide +kernel) rfl ?_
  refine s_iastore (show decode (am_cc m9_letter) 36 = .ok (.iastore, 1) by decide +kernel) kd109 h1 h2 ?_
  refine s_aload_n (show decode (am_cc m9_letter) 37 = .ok (.aload_n 0, 1) by decide +kernel) rfl ?_
  refine s_dupr (show decode (am_cc m9_letter) 38 = .ok (.dup, 1) by decide +kernel) ?_
  refine s_getf (k := 31) (v := vi ((am_up M 109 (M 86 31) a1) 86 31)) (show decode (am_cc m9_letter) 39 = .ok (.getfield 105, 3) by decide +kernel) kd86 (by decide) rfl jnX9 (by decide) lf_RX9_105 rfl ?_
  refine s_iconst (show decode (am_cc m9_letter) 42 = .ok (.iconst 1, 1) by decide +kernel) ⟨by decide, by decide⟩ ?_
  refine s_iadd (show decode (am_cc m9_letter) 43 = .ok (.iadd, 1) by decide +kernel) h3 ?_
  refine s_putf (k := 31) (x := ((am_up M 109 (M 86 31) a1) 86 31) + 1) (ty0 := tyX9) (show decode (am_cc m9_letter) 44 = .ok (.putfield 105, 3) by decide +kernel) kd86 (by decide) rfl jnX9 tyX9_ok nmX9 (by decide) lf_RX9_105 rfl (Or.inl ⟨rfl, rfl, rfl⟩) ?_
  refine s_aload_n (show decode (am_cc m9_letter) 47 = .ok (.aload_n 0, 1) by decide +kernel) rfl ?_
  refine s_getf (k := 31) (v := vi ((am_up (am_up M 109 (M 86 31) a1) 86 31 (((am_up M 109 (M 86 31) a1) 86 31) + 1)) 86 31)) (show decode (am_cc m9_letter) 48 = .ok (.getfield 105, 3) by decide +kernel) kd86 (by decide) rfl jnX9 (by decide) lf_RX9_105 rfl ?_
  exact s_ireturn (show decode (am_cc m9_letter) 51 = .ok (.ireturn, 1) by decide +kernel) rfl k
theorem g9_clear_0 {M : am_M} {Q : Option am_V → am_M → Prop} (k : Q (some (vi ((am_up M 86 0 0) 86 31))) (am_up (am_up M 86 0 0) 86 31 0)) : am_AtN m9_clear 0 [some (vr 86), none] [] KS M Q := by
  refine s_aload_n (show decode (am_cc m9_clear) 0 = .ok (.aload_n 0, 1) by decide +kernel) rfl ?_
  refine s_iconst (show decode (am_cc m9_clear) 1 = .ok (.iconst 0, 1) by decide +kernel) ⟨by decide, by decide⟩ ?_
  refine s_putf (k := 0) (x := 0) (ty0 := tyX9) (show decode (am_cc m9_clear) 2 = .ok (.putfield 95, 3) by decide +kernel) kd86 (by decide) rfl jnX9 tyX9_ok nmX9 (by decide) lf_RX9_95 rfl (Or.inl ⟨rfl, rfl, rfl⟩) ?_
  refine s_aload_n (show decode (am_cc m9_clear) 5 = .ok (.aload_n 0, 1) by decide +kernel) rfl ?_
  refine s_getf (k := 31) (v := vi ((am_up M 86 0 0) 86 31)) (show decode (am_cc m9_clear) 6 = .ok (.getfield 105, 3) by decide +kernel) kd86 (by decide) rfl jnX9 (by decide) lf_RX9_105 rfl ?_
  refine s_istore_n (show decode (am_cc m9_clear) 9 = .ok (.istore_n 1, 1) by decide +kernel) (by decide) ?_
  refine s_aload_n (show decode (am_cc m9_clear) 10 = .ok (.aload_n 0, 1) by decide +kernel) rfl ?_
  refine s_iconst (show decode (am_cc m9_clear) 11 = .ok (.iconst 0, 1) by decide +kernel) ⟨by decide, by decide⟩ ?_
  refine s_putf (k := 31) (x := 0) (ty0 := tyX9) (show decode (am_cc m9_clear) 12 = .ok (.putfield 105, 3) by decide +kernel) kd86 (by decide) rfl jnX9 tyX9_ok nmX9 (by decide) lf_RX9_105 rfl (Or.inl ⟨rfl, rfl, rfl⟩) ?_
  refine s_iload_n (show decode (am_cc m9_clear) 15 = .ok (.iload_n 1, 1) by decide +kernel) rfl ?_
  exact s_ireturn (show decode (am_cc m9_clear) 16 = .ok (.ireturn, 1) by decide +kernel) rfl k
theorem g9_at_0 {a1 : Int} {M : am_M} {Q : Option am_V → am_M → Prop} (h1 : -2147483648 ≤ ((am_up M 86 0 0) 86 31) - 1 ∧ ((am_up M 86 0 0) 86 31) - 1 ≤ 2147483647) (k : am_CallN m9_in [vl a1, vl 0, vl (((am_up M 86 0 0) 86 31) - 1)] KS (am_up M 86 0 0) (fun r M' => am_AtN m9_at 18 [some (vr 86), some (vi a1)] (r.toList ++ []) KS M' Q)) : am_AtN m9_at 0 [some (vr 86), some (vi a1)] [] KS M Q := by
  refine s_aload_n (show decode (am_cc m9_at) 0 = .ok (.aload_n 0, 1) by decide +kernel) rfl ?_
  refine s_iconst (show decode (am_cc m9_at) 1 = .ok (.iconst 0, 1) by decide +kernel) ⟨by decide, by decide⟩ ?_
  refine s_putf (k := 0) (x := 0) (ty0 := tyX9) (show decode (am_cc m9_at) 2 = .ok (.putfield 95, 3) by decide +kernel) kd86 (by decide) rfl jnX9 tyX9_ok nmX9 (by decide) lf_RX9_95 rfl (Or.inl ⟨rfl, rfl, rfl⟩) ?_
  refine s_iload_n (show decode (am_cc m9_at) 5 = .ok (.iload_n 1, 1) by decide +kernel) rfl ?_
  refine s_i2l (show decode (am_cc m9_at) 6 = .ok (.i2l, 1) by decide +kernel) ?_
  refine s_lconst (v := 0) (show decode (am_cc m9_at) 7 = .ok (.lconst 0, 1) by decide +kernel) (by decide) ⟨by decide, by decide⟩ ?_
  refine s_aload_n (show decode (am_cc m9_at) 8 = .ok (.aload_n 0, 1) by decide +kernel) rfl ?_
  refine s_getf (k := 31) (v := vi ((am_up M 86 0 0) 86 31)) (show decode (am_cc m9_at) 9 = .ok (.getfield 105, 3) by decide +kernel) kd86 (by decide) rfl jnX9 (by decide) lf_RX9_105 rfl ?_
  refine s_iconst (show decode (am_cc m9_at) 12 = .ok (.iconst 1, 1) by decide +kernel) ⟨by decide, by decide⟩ ?_
  refine s_isub (show decode (am_cc m9_at) 13 = .ok (.isub, 1) by decide +kernel) h1 ?_
  refine s_i2l (show decode (am_cc m9_at) 14 = .ok (.i2l, 1) by decide +kernel) ?_
  exact n_callS (as := [vl a1, vl 0, vl (((am_up M 86 0 0) 86 31) - 1)]) (stk := []) (show decode (am_cc m9_at) 15 = .ok (.invokestatic 110, 3) by decide +kernel) lk_RX9_110 (by decide) (Nat.le_of_ble_eq_true rfl) ⟨rfl, rfl⟩ k
theorem g9_at_18 {a1 t0 : Int} {M : am_M} {Q : Option am_V → am_M → Prop} (k1 : t0 = 0 → am_AtN m9_at 30 [some (vr 86), some (vi a1)] [] KS M Q) (k2 : ¬ (t0 = 0) → am_AtN m9_at 21 [some (vr 86), some (vi a1)] [] KS M Q) : am_AtN m9_at 18 [some (vr 86), some (vi a1)] [vi t0] KS M Q := by
  exact s_if_eq (tgt := 30) (show decode (am_cc m9_at) 18 = .ok (.ifCond .eq 12, 3) by decide +kernel) (by decide) k1 k2
theorem g9_at_21 {a1 : Int} {M : am_M} {Q : Option am_V → am_M → Prop} (h1 : 0 ≤ a1) (h2 : a1 < 64) (k : am_AtN m9_at 32 [some (vr 86), some (vi a1)] [vi (M 109 a1)] KS M Q) : am_AtN m9_at 21 [some (vr 86), some (vi a1)] [] KS M Q := by
  refine s_aload_n (show decode (am_cc m9_at) 21 = .ok (.aload_n 0, 1) by decide +kernel) rfl ?_
  refine s_getf (k := 30) (v := vr 109) (show decode (am_cc m9_at) 22 = .ok (.getfield 79, 3) by decide +kernel) kd86 (by decide) rfl jnX9 (by decide) lf_RX9_79 rfl ?_
  refine s_iload_n (show decode (am_cc m9_at) 25 = .ok (.iload_n 1, 1) by decide +kernel) rfl ?_
  refine s_iaload (show decode (am_cc m9_at) 26 = .ok (.iaload, 1) by decide +kernel) kd109 h1 h2 ?_
  refine s_goto (tgt := 32) (show decode (am_cc m9_at) 27 = .ok (.goto 5, 3) by decide +kernel) (by decide) ?_
  exact k
theorem g9_at_30 {a1 : Int} {M : am_M} {Q : Option am_V → am_M → Prop} (k : am_AtN m9_at 32 [some (vr 86), some (vi a1)] [vi (-9)] KS M Q) : am_AtN m9_at 30 [some (vr 86), some (vi a1)] [] KS M Q := by
  refine s_bipush (show decode (am_cc m9_at) 30 = .ok (.bipush (-9), 2) by decide +kernel) ⟨by decide, by decide⟩ (by decide) ?_
  exact k
theorem g9_at_32 {a1 t0 : Int} {M : am_M} {Q : Option am_V → am_M → Prop} (k : Q (some (vi t0)) M) : am_AtN m9_at 32 [some (vr 86), some (vi a1)] [vi t0] KS M Q := by
  exact s_ireturn (show decode (am_cc m9_at) 32 = .ok (.ireturn, 1) by decide +kernel) rfl k
theorem g9_is_0 {a1 : Int} {M : am_M} {Q : Option am_V → am_M → Prop} (k : am_CallN m9_noSentence [vi a1] KS (am_up M 86 0 0) (fun r M' => am_AtN m9_is 9 [some (vr 86), some (vi a1)] (r.toList ++ []) KS M' Q)) : am_AtN m9_is 0 [some (vr 86), some (vi a1)] [] KS M Q := by
  refine s_aload_n (show decode (am_cc m9_is) 0 = .ok (.aload_n 0, 1) by decide +kernel) rfl ?_
  refine s_iconst (show decode (am_cc m9_is) 1 = .ok (.iconst 0, 1) by decide +kernel) ⟨by decide, by decide⟩ ?_
  refine s_putf (k := 0) (x := 0) (ty0 := tyX9) (show decode (am_cc m9_is) 2 = .ok (.putfield 95, 3) by decide +kernel) kd86 (by decide) rfl jnX9 tyX9_ok nmX9 (by decide) lf_RX9_95 rfl (Or.inl ⟨rfl, rfl, rfl⟩) ?_
  refine s_iload_n (show decode (am_cc m9_is) 5 = .ok (.iload_n 1, 1) by decide +kernel) rfl ?_
  exact n_callS (as := [vi a1]) (stk := []) (show decode (am_cc m9_is) 6 = .ok (.invokestatic 122, 3) by decide +kernel) lk_RX9_122 (by decide) (Nat.le_of_ble_eq_true rfl) ⟨rfl, rfl⟩ k
theorem g9_is_9 {a1 t0 : Int} {M : am_M} {Q : Option am_V → am_M → Prop} (k1 : t0 = 0 → am_AtN m9_is 16 [some (vr 86), some (vi a1)] [] KS M Q) (k2 : ¬ (t0 = 0) → am_AtN m9_is 12 [some (vr 86), some (vi a1)] [] KS M Q) : am_AtN m9_is 9 [some (vr 86), some (vi a1)] [vi t0] KS M Q := by
  exact s_if_eq (tgt := 16) (show decode (am_cc m9_is) 9 = .ok (.ifCond .eq 7, 3) by decide +kernel) (by decide) k1 k2
theorem g9_is_12 {a1 : Int} {M : am_M} {Q : Option am_V → am_M → Prop} (k : am_AtN m9_is 29 [some (vr 86), some (vi a1)] [vi (-1)] KS M Q) : am_AtN m9_is 12 [some (vr 86), some (vi a1)] [] KS M Q := by
  refine s_iconst (show decode (am_cc m9_is) 12 = .ok (.iconst (-1), 1) by decide +kernel) ⟨by decide, by decide⟩ ?_
  refine s_goto (tgt := 29) (show decode (am_cc m9_is) 13 = .ok (.goto 16, 3) by decide +kernel) (by decide) ?_
  exact k
theorem g9_is_16 {a1 : Int} {M : am_M} {Q : Option am_V → am_M → Prop} (k : am_CallN m9_isSo [vr 86, vi a1] KS M (fun r M' => am_AtN m9_is 21 [some (vr 86), some (vi a1)] (r.toList ++ []) KS M' Q)) : am_AtN m9_is 16 [some (vr 86), some (vi a1)] [] KS M Q := by
  refine s_aload_n (show decode (am_cc m9_is) 16 = .ok (.aload_n 0, 1) by decide +kernel) rfl ?_
  refine s_iload_n (show decode (am_cc m9_is) 17 = .ok (.iload_n 1, 1) by decide +kernel) rfl ?_
  exact n_callV (as := [vi a1]) (stk := []) (show decode (am_cc m9_is) 18 = .ok (.invokevirtual 240, 3) by decide +kernel) lk_RX9_240 kd86 (by decide) rfl rfl (by decide) (Nat.le_of_ble_eq_true rfl) ⟨rfl, rfl⟩ k
theorem g9_is_21 {a1 t0 : Int} {M : am_M} {Q : Option am_V → am_M → Prop} (k1 : t0 = 0 → am_AtN m9_is 28 [some (vr 86), some (vi a1)] [] KS M Q) (k2 : ¬ (t0 = 0) → am_AtN m9_is 24 [some (vr 86), some (vi a1)] [] KS M Q) : am_AtN m9_is 21 [some (vr 86), some (vi a1)] [vi t0] KS M Q := by
  exact s_if_eq (tgt := 28) (show decode (am_cc m9_is) 21 = .ok (.ifCond .eq 7, 3) by decide +kernel) (by decide) k1 k2
theorem g9_is_24 {a1 : Int} {M : am_M} {Q : Option am_V → am_M → Prop} (k : am_AtN m9_is 29 [some (vr 86), some (vi a1)] [vi 1] KS M Q) : am_AtN m9_is 24 [some (vr 86), some (vi a1)] [] KS M Q := by
  refine s_iconst (show decode (am_cc m9_is) 24 = .ok (.iconst 1, 1) by decide +kernel) ⟨by decide, by decide⟩ ?_
  refine s_goto (tgt := 29) (show decode (am_cc m9_is) 25 = .ok (.goto 4, 3) by decide +kernel) (by decide) ?_
  exact k
theorem g9_is_28 {a1 : Int} {M : am_M} {Q : Option am_V → am_M → Prop} (k : am_AtN m9_is 29 [some (vr 86), some (vi a1)] [vi 0] KS M Q) : am_AtN m9_is 28 [some (vr 86), some (vi a1)] [] KS M Q := by
  refine s_iconst (show decode (am_cc m9_is) 28 = .ok (.iconst 0, 1) by decide +kernel) ⟨by decide, by decide⟩ ?_
  exact k
theorem g9_is_29 {a1 t0 : Int} {M : am_M} {Q : Option am_V → am_M → Prop} (k : Q (some (vi t0)) M) : am_AtN m9_is 29 [some (vr 86), some (vi a1)] [vi t0] KS M Q := by
  exact s_ireturn (show decode (am_cc m9_is) 29 = .ok (.ireturn, 1) by decide +kernel) rfl k
theorem g9_add_0 {a1 : Int} {M : am_M} {Q : Option am_V → am_M → Prop} (k : am_AtN m9_add 2 [some (vr 86), some (vi a1), some (vi 0)] [] KS M Q) : am_AtN m9_add 0 [some (vr 86), some (vi a1), none] [] KS M Q := by
  refine s_iconst (show decode (am_cc m9_add) 0 = .ok (.iconst 0, 1) by decide +kernel) ⟨by decide, by decide⟩ ?_
  refine s_istore_n (show decode (am_cc m9_add) 1 = .ok (.istore_n 2, 1) by decide +kernel) (by decide) ?_
  exact k
theorem g9_add_2 {a1 a2 : Int} {M : am_M} {Q : Option am_V → am_M → Prop} (k : am_CallN m9_longOf [vi a1] KS M (fun r M' => am_AtN m9_add 7 [some (vr 86), some (vi a1), some (vi a2)] (r.toList ++ [vi a2]) KS M' Q)) : am_AtN m9_add 2 [some (vr 86), some (vi a1), some (vi a2)] [] KS M Q := by
  refine s_iload_n (show decode (am_cc m9_add) 2 = .ok (.iload_n 2, 1) by decide +kernel) rfl ?_
  refine s_iload_n (show decode (am_cc m9_add) 3 = .ok (.iload_n 1, 1) by decide +kernel) rfl ?_
  exact n_callS (as := [vi a1]) (stk := [vi a2]) (show decode (am_cc m9_add) 4 = .ok (.invokestatic 152, 3) by decide +kernel) lk_RX9_152 (by decide) (Nat.le_of_ble_eq_true rfl) ⟨rfl, rfl⟩ k
theorem g9_add_7 {a1 a2 t0 t1 : Int} {M : am_M} {Q : Option am_V → am_M → Prop} (k1 : t1 ≤ t0 → am_AtN m9_add 40 [some (vr 86), some (vi a1), some (vi a2)] [] KS M Q) (k2 : ¬ (t1 ≤ t0) → am_AtN m9_add 10 [some (vr 86), some (vi a1), some (vi a2)] [] KS M Q) : am_AtN m9_add 7 [some (vr 86), some (vi a1), some (vi a2)] [vi t1, vi t0] KS M Q := by
  exact s_icmp_ge (tgt := 40) (show decode (am_cc m9_add) 7 = .ok (.if_icmp .ge 33, 3) by decide +kernel) (by decide) k1 k2
theorem g9_add_10 {a1 a2 : Int} {M : am_M} {Q : Option am_V → am_M → Prop} (k : am_CallN m9_letterOf [vi a1, vi a2] KS M (fun r M' => am_AtN m9_add 23 [some (vr 86), some (vi a1), some (vi a2)] (r.toList ++ [vi (M 86 33), vr 110]) KS M' Q)) : am_AtN m9_add 10 [some (vr 86), some (vi a1), some (vi a2)] [] KS M Q := by
  refine s_aload_n (show decode (am_cc m9_add) 10 = .ok (.aload_n 0, 1) by decide +kernel) rfl ?_
  refine s_getf (k := 32) (v := vr 110) (show decode (am_cc m9_add) 11 = .ok (.getfield 82, 3) by decide +kernel) kd86 (by decide) rfl jnX9 (by decide) lf_RX9_82 rfl ?_
  refine s_aload_n (show decode (am_cc m9_add) 14 = .ok (.aload_n 0, 1) by decide +kernel) rfl ?_
  refine s_getf (k := 33) (v := vi (M 86 33)) (show decode (am_cc m9_add) 15 = .ok (.getfield 247, 3) by decide +kernel) kd86 (by decide) rfl jnX9 (by decide) lf_RX9_247 rfl ?_
  refine s_iload_n (show decode (am_cc m9_add) 18 = .ok (.iload_n 1, 1) by decide +kernel) rfl ?_
  refine s_iload_n (show decode (am_cc m9_add) 19 = .ok (.iload_n 2, 1) by decide +kernel) rfl ?_
  exact n_callS (as := [vi a1, vi a2]) (stk := [vi (M 86 33), vr 110]) (show decode (am_cc m9_add) 20 = .ok (.invokestatic 156, 3) by decide +kernel) lk_RX9_156 (by decide) (Nat.le_of_ble_eq_true rfl) ⟨rfl, rfl⟩ k
theorem g9_add_23 {a1 a2 t0 t1 t2 : Int} {M : am_M} {Q : Option am_V → am_M → Prop} {n0 : Nat} {q0 : List Int} (h1 : am_kd KS t0 = some (11, n0, q0)) (h2 : 0 ≤ t1) (h3 : t1 < (n0 : Int)) (h4 : -2147483648 ≤ ((am_up M t0 t1 t2) 86 33) + 1 ∧ ((am_up M t0 t1 t2) 86 33) + 1 ≤ 2147483647) (h5 : -2147483648 ≤ a2 + 1 ∧ a2 + 1 ≤ 2147483647) (k : am_AtN m9_add 2 [some (vr 86), some (vi a1), some (vi (a2 + 1))] [] KS (am_up (am_up M t0 t1 t2) 86 33 (((am_up M t0 t1 t2) 86 33) + 1)) Q) : am_AtN m9_add 23 [some (vr 86), some (vi a1), some (vi a2)] [vi t2, vi t1, vr t0] KS M Q := by
  refine s_iastore (show decode (am_cc m9_add) 23 = .ok (.iastore, 1) by decide +kernel) h1 h2 h3 ?_
  refine s_aload_n (show decode (am_cc m9_add) 24 = .ok (.aload_n 0, 1) by decide +kernel) rfl ?_
  refine s_dupr (show decode (am_cc m9_add) 25 = .ok (.dup, 1) by decide +kernel) ?_
  refine s_getf (k := 33) (v := vi ((am_up M t0 t1 t2) 86 33)) (show decode (am_cc m9_add) 26 = .ok (.getfield 247, 3) by decide +kernel) kd86 (by decide) rfl jnX9 (by decide) lf_RX9_247 rfl ?_
  refine s_iconst (show decode (am_cc m9_add) 29 = .ok (.iconst 1, 1) by decide +kernel) ⟨by decide, by decide⟩ ?_
  refine s_iadd (show decode (am_cc m9_add) 30 = .ok (.iadd, 1) by decide +kernel) h4 ?_
  refine s_putf (k := 33) (x := ((am_up M t0 t1 t2) 86 33) + 1) (ty0 := tyX9) (show decode (am_cc m9_add) 31 = .ok (.putfield 247, 3) by decide +kernel) kd86 (by decide) rfl jnX9 tyX9_ok nmX9 (by decide) lf_RX9_247 rfl (Or.inl ⟨rfl, rfl, rfl⟩) ?_
  refine s_iinc (show decode (am_cc m9_add) 34 = .ok (.iinc 2 1, 3) by decide +kernel) rfl (by decide) h5 ?_
  refine s_goto (tgt := 2) (show decode (am_cc m9_add) 37 = .ok (.goto (-35), 3) by decide +kernel) (by decide) ?_
  exact k
theorem g9_add_40 {a1 a2 : Int} {M : am_M} {Q : Option am_V → am_M → Prop} (k : Q none M) : am_AtN m9_add 40 [some (vr 86), some (vi a1), some (vi a2)] [] KS M Q := by
  exact s_return (show decode (am_cc m9_add) 40 = .ok (.return_, 1) by decide +kernel) rfl k
theorem g9_writes_0 {a1 : Int} {M : am_M} {Q : Option am_V → am_M → Prop} (k : am_AtN m9_writes 9 [some (vr 86), some (vi a1), some (vi 0), some (vi 0), none] [] KS (am_up M 86 33 0) Q) : am_AtN m9_writes 0 [some (vr 86), some (vi a1), none, none, none] [] KS M Q := by
  refine s_aload_n (show decode (am_cc m9_writes) 0 = .ok (.aload_n 0, 1) by decide +kernel) rfl ?_
  refine s_iconst (show decode (am_cc m9_writes) 1 = .ok (.iconst 0, 1) by decide +kernel) ⟨by decide, by decide⟩ ?_
  refine s_putf (k := 33) (x := 0) (ty0 := tyX9) (show decode (am_cc m9_writes) 2 = .ok (.putfield 247, 3) by decide +kernel) kd86 (by decide) rfl jnX9 tyX9_ok nmX9 (by decide) lf_RX9_247 rfl (Or.inl ⟨rfl, rfl, rfl⟩) ?_
  refine s_iconst (show decode (am_cc m9_writes) 5 = .ok (.iconst 0, 1) by decide +kernel) ⟨by decide, by decide⟩ ?_
  refine s_istore_n (show decode (am_cc m9_writes) 6 = .ok (.istore_n 2, 1) by decide +kernel) (by decide) ?_
  refine s_iconst (show decode (am_cc m9_writes) 7 = .ok (.iconst 0, 1) by decide +kernel) ⟨by decide, by decide⟩ ?_
  refine s_istore_n (show decode (am_cc m9_writes) 8 = .ok (.istore_n 3, 1) by decide +kernel) (by decide) ?_
  exact k
theorem g9_writes_9 {a1 a2 a3 : Int} {M : am_M} {Q : Option am_V → am_M → Prop} (k1 : M 86 31 ≤ a3 → am_AtN m9_writes 59 [some (vr 86), some (vi a1), some (vi a2), some (vi a3), none] [] KS M Q) (k2 : ¬ (M 86 31 ≤ a3) → am_AtN m9_writes 17 [some (vr 86), some (vi a1), some (vi a2), some (vi a3), none] [] KS M Q) : am_AtN m9_writes 9 [some (vr 86), some (vi a1), some (vi a2), some (vi a3), none] [] KS M Q := by
  refine s_iload_n (show decode (am_cc m9_writes) 9 = .ok (.iload_n 3, 1) by decide +kernel) rfl ?_
  refine s_aload_n (show decode (am_cc m9_writes) 10 = .ok (.aload_n 0, 1) by decide +kernel) rfl ?_
  refine s_getf (k := 31) (v := vi (M 86 31)) (show decode (am_cc m9_writes) 11 = .ok (.getfield 105, 3) by decide +kernel) kd86 (by decide) rfl jnX9 (by decide) lf_RX9_105 rfl ?_
  exact s_icmp_ge (tgt := 59) (show decode (am_cc m9_writes) 14 = .ok (.if_icmp .ge 45, 3) by decide +kernel) (by decide) k1 k2
theorem g9_writes_17 {a1 a2 a3 : Int} {M : am_M} {Q : Option am_V → am_M → Prop} (h1 : -2147483648 ≤ 24 * a1 ∧ 24 * a1 ≤ 2147483647) (h2 : -2147483648 ≤ 4 * a2 ∧ 4 * a2 ≤ 2147483647) (h3 : -2147483648 ≤ (24 * a1) + (4 * a2) ∧ (24 * a1) + (4 * a2) ≤ 2147483647) (h4 : 0 ≤ a3) (h5 : a3 < 64) (h6 : -2147483648 ≤ ((24 * a1) + (4 * a2)) + (M 109 a3) ∧ ((24 * a1) + (4 * a2)) + (M 109 a3) ≤ 2147483647) (h7 : 0 ≤ ((24 * a1) + (4 * a2)) + (M 109 a3)) (h8 : ((24 * a1) + (4 * a2)) + (M 109 a3) < 96) (k : am_CallN m9_add [vr 86, vi (M 93 (((24 * a1) + (4 * a2)) + (M 109 a3)))] KS M (fun r M' => am_AtN m9_writes 45 [some (vr 86), some (vi a1), some (vi a2), some (vi a3), some (vi (((24 * a1) + (4 * a2)) + (M 109 a3)))] (r.toList ++ []) KS M' Q)) : am_AtN m9_writes 17 [some (vr 86), some (vi a1), some (vi a2), some (vi a3), none] [] KS M Q := by
  refine s_bipush (show decode (am_cc m9_writes) 17 = .ok (.bipush 24, 2) by decide +kernel) ⟨by decide, by decide⟩ (by decide) ?_
  refine s_iload_n (show decode (am_cc m9_writes) 19 = .ok (.iload_n 1, 1) by decide +kernel) rfl ?_
  refine s_imul (show decode (am_cc m9_writes) 20 = .ok (.imul, 1) by decide +kernel) h1 ?_
  refine s_iconst (show decode (am_cc m9_writes) 21 = .ok (.iconst 4, 1) by decide +kernel) ⟨by decide, by decide⟩ ?_
  refine s_iload_n (show decode (am_cc m9_writes) 22 = .ok (.iload_n 2, 1) by decide +kernel) rfl ?_
  refine s_imul (show decode (am_cc m9_writes) 23 = .ok (.imul, 1) by decide +kernel) h2 ?_
  refine s_iadd (show decode (am_cc m9_writes) 24 = .ok (.iadd, 1) by decide +kernel) h3 ?_
  refine s_aload_n (show decode (am_cc m9_writes) 25 = .ok (.aload_n 0, 1) by decide +kernel) rfl ?_
  refine s_getf (k := 30) (v := vr 109) (show decode (am_cc m9_writes) 26 = .ok (.getfield 79, 3) by decide +kernel) kd86 (by decide) rfl jnX9 (by decide) lf_RX9_79 rfl ?_
  refine s_iload_n (show decode (am_cc m9_writes) 29 = .ok (.iload_n 3, 1) by decide +kernel) rfl ?_
  refine s_iaload (show decode (am_cc m9_writes) 30 = .ok (.iaload, 1) by decide +kernel) kd109 h4 h5 ?_
  refine s_iadd (show decode (am_cc m9_writes) 31 = .ok (.iadd, 1) by decide +kernel) h6 ?_
  refine s_istore (show decode (am_cc m9_writes) 32 = .ok (.istore 4, 2) by decide +kernel) (by decide) ?_
  refine s_aload_n (show decode (am_cc m9_writes) 34 = .ok (.aload_n 0, 1) by decide +kernel) rfl ?_
  refine s_aload_n (show decode (am_cc m9_writes) 35 = .ok (.aload_n 0, 1) by decide +kernel) rfl ?_
  refine s_getf (k := 8) (v := vr 93) (show decode (am_cc m9_writes) 36 = .ok (.getfield 29, 3) by decide +kernel) kd86 (by decide) rfl jnX9 (by decide) lf_RX9_29 rfl ?_
  refine s_iload (show decode (am_cc m9_writes) 39 = .ok (.iload 4, 2) by decide +kernel) rfl ?_
  refine s_iaload (show decode (am_cc m9_writes) 41 = .ok (.iaload, 1) by decide +kernel) kd93 h7 h8 ?_
  exact n_callV (as := [vi (M 93 (((24 * a1) + (4 * a2)) + (M 109 a3)))]) (stk := []) (show decode (am_cc m9_writes) 42 = .ok (.invokevirtual 250, 3) by decide +kernel) lk_RX9_250 kd86 (by decide) rfl rfl (by decide) (Nat.le_of_ble_eq_true rfl) ⟨rfl, rfl⟩ k
theorem g9_writes_45 {a1 a2 a3 a4 : Int} {M : am_M} {Q : Option am_V → am_M → Prop} (h1 : 0 ≤ a4) (h2 : a4 < 96) (h3 : -2147483648 ≤ a3 + 1 ∧ a3 + 1 ≤ 2147483647) (k : am_AtN m9_writes 9 [some (vr 86), some (vi a1), some (vi (M 92 a4)), some (vi (a3 + 1)), none] [] KS M Q) : am_AtN m9_writes 45 [some (vr 86), some (vi a1), some (vi a2), some (vi a3), some (vi a4)] [] KS M Q := by
  refine s_aload_n (show decode (am_cc m9_writes) 45 = .ok (.aload_n 0, 1) by decide +kernel) rfl ?_
  refine s_getf (k := 7) (v := vr 92) (show decode (am_cc m9_writes) 46 = .ok (.getfield 26, 3) by decide +kernel) kd86 (by decide) rfl jnX9 (by decide) lf_RX9_26 rfl ?_
  refine s_iload (show decode (am_cc m9_writes) 49 = .ok (.iload 4, 2) by decide +kernel) rfl ?_
  refine s_iaload (show decode (am_cc m9_writes) 51 = .ok (.iaload, 1) by decide +kernel) kd92 h1 h2 ?_
  refine s_istore_n (show decode (am_cc m9_writes) 52 = .ok (.istore_n 2, 1) by decide +kernel) (by decide) ?_
  refine s_iinc (show decode (am_cc m9_writes) 53 = .ok (.iinc 3 1, 3) by decide +kernel) rfl (by decide) h3 ?_
  refine s_goto (tgt := 9) (show decode (am_cc m9_writes) 56 = .ok (.goto (-47), 3) by decide +kernel) (by decide) ?_
  refine am_fg 4 ?_
  exact k
theorem g9_writes_59 {a1 a2 a3 : Int} {M : am_M} {Q : Option am_V → am_M → Prop} (h1 : -2147483648 ≤ 6 * a1 ∧ 6 * a1 ≤ 2147483647) (h2 : -2147483648 ≤ (6 * a1) + a2 ∧ (6 * a1) + a2 ≤ 2147483647) (h3 : 0 ≤ (6 * a1) + a2) (h4 : (6 * a1) + a2 < 24) (k1 : M 94 ((6 * a1) + a2) = -1 → am_AtN m9_writes 79 [some (vr 86), some (vi a1), some (vi a2), some (vi a3), none] [vr 86] KS M Q) (k2 : ¬ (M 94 ((6 * a1) + a2) = -1) → am_AtN m9_writes 75 [some (vr 86), some (vi a1), some (vi a2), some (vi a3), none] [vr 86] KS M Q) : am_AtN m9_writes 59 [some (vr 86), some (vi a1), some (vi a2), some (vi a3), none] [] KS M Q := by
  refine s_aload_n (show decode (am_cc m9_writes) 59 = .ok (.aload_n 0, 1) by decide +kernel) rfl ?_
  refine s_aload_n (show decode (am_cc m9_writes) 60 = .ok (.aload_n 0, 1) by decide +kernel) rfl ?_
  refine s_getf (k := 9) (v := vr 94) (show decode (am_cc m9_writes) 61 = .ok (.getfield 32, 3) by decide +kernel) kd86 (by decide) rfl jnX9 (by decide) lf_RX9_32 rfl ?_
  refine s_bipush (show decode (am_cc m9_writes) 64 = .ok (.bipush 6, 2) by decide +kernel) ⟨by decide, by decide⟩ (by decide) ?_
  refine s_iload_n (show decode (am_cc m9_writes) 66 = .ok (.iload_n 1, 1) by decide +kernel) rfl ?_
  refine s_imul (show decode (am_cc m9_writes) 67 = .ok (.imul, 1) by decide +kernel) h1 ?_
  refine s_iload_n (show decode (am_cc m9_writes) 68 = .ok (.iload_n 2, 1) by decide +kernel) rfl ?_
  refine s_iadd (show decode (am_cc m9_writes) 69 = .ok (.iadd, 1) by decide +kernel) h2 ?_
  refine s_iaload (show decode (am_cc m9_writes) 70 = .ok (.iaload, 1) by decide +kernel) kd94 h3 h4 ?_
  refine s_iconst (show decode (am_cc m9_writes) 71 = .ok (.iconst (-1), 1) by decide +kernel) ⟨by decide, by decide⟩ ?_
  exact s_icmp_eq (tgt := 79) (show decode (am_cc m9_writes) 72 = .ok (.if_icmp .eq 7, 3) by decide +kernel) (by decide) k1 k2
theorem g9_writes_75 {a1 a2 a3 t0 : Int} {M : am_M} {Q : Option am_V → am_M → Prop} (k : am_AtN m9_writes 80 [some (vr 86), some (vi a1), some (vi a2), some (vi a3), none] [vi 1, vr t0] KS M Q) : am_AtN m9_writes 75 [some (vr 86), some (vi a1), some (vi a2), some (vi a3), none] [vr t0] KS M Q := by
  refine s_iconst (show decode (am_cc m9_writes) 75 = .ok (.iconst 1, 1) by decide +kernel) ⟨by decide, by decide⟩ ?_
  refine s_goto (tgt := 80) (show decode (am_cc m9_writes) 76 = .ok (.goto 4, 3) by decide +kernel) (by decide) ?_
  exact k
theorem g9_writes_79 {a1 a2 a3 t0 : Int} {M : am_M} {Q : Option am_V → am_M → Prop} (k : am_AtN m9_writes 80 [some (vr 86), some (vi a1), some (vi a2), some (vi a3), none] [vi 0, vr t0] KS M Q) : am_AtN m9_writes 79 [some (vr 86), some (vi a1), some (vi a2), some (vi a3), none] [vr t0] KS M Q := by
  refine s_iconst (show decode (am_cc m9_writes) 79 = .ok (.iconst 0, 1) by decide +kernel) ⟨by decide, by decide⟩ ?_
  exact k
theorem g9_writes_80 {a1 a2 a3 t0 t1 : Int} {M : am_M} {Q : Option am_V → am_M → Prop} {r0_0 : Int} {r0_1 : Int} {r0_2 : Int} {r0_3 : Int} {r0_4 : Int} {r0_5 : Int} {r0_6 : Int} {r0_7 : Int} {r0_8 : Int} {r0_9 : Int} {r0_10 : Int} {r0_11 : Int} {r0_12 : Int} {r0_13 : Int} {r0_14 : Int} {r0_15 : Int} {r0_16 : Int} {r0_17 : Int} {r0_18 : Int} {r0_19 : Int} {r0_20 : Int} {r0_21 : Int} {r0_22 : Int} {r0_23 : Int} {r0_24 : Int} {r0_25 : Int} {r0_26 : Int} {r0_27 : Int} {r0_28 : Int} {r0_29 : Int} {r0_30 : Int} {r0_31 : Int} {r0_32 : Int} {r0_33 : Int} {r0_34 : Int} {r0_35 : Int} (h1 : am_kd KS t0 = some (9, 36, [r0_0, r0_1, r0_2, r0_3, r0_4, r0_5, r0_6, r0_7, r0_8, r0_9, r0_10, r0_11, r0_12, r0_13, r0_14, r0_15, r0_16, r0_17, r0_18, r0_19, r0_20, r0_21, r0_22, r0_23, r0_24, r0_25, r0_26, r0_27, r0_28, r0_29, r0_30, r0_31, r0_32, r0_33, r0_34, r0_35])) (h2 : t1 = 0 ∨ t1 = 1) (k1 : (am_up M t0 18 t1) 86 18 = 0 → am_AtN m9_writes 105 [some (vr 86), some (vi a1), some (vi a2), some (vi a3), none] [] KS (am_up M t0 18 t1) Q) (k2 : ¬ ((am_up M t0 18 t1) 86 18 = 0) → am_AtN m9_writes 90 [some (vr 86), some (vi a1), some (vi a2), some (vi a3), none] [] KS (am_up M t0 18 t1) Q) : am_AtN m9_writes 80 [some (vr 86), some (vi a1), some (vi a2), some (vi a3), none] [vi t1, vr t0] KS M Q := by
  refine s_putf (k := 18) (x := t1) (ty0 := tyX9) (show decode (am_cc m9_writes) 80 = .ok (.putfield 253, 3) by decide +kernel) h1 (by decide) rfl jnX9 tyX9_ok nmX9 (by decide) lf_RX9_253 rfl (Or.inr (Or.inl ⟨rfl, rfl, rfl, h2⟩)) ?_
  refine s_aload_n (show decode (am_cc m9_writes) 83 = .ok (.aload_n 0, 1) by decide +kernel) rfl ?_
  refine s_getf (k := 18) (v := vi ((am_up M t0 18 t1) 86 18)) (show decode (am_cc m9_writes) 84 = .ok (.getfield 253, 3) by decide +kernel) kd86 (by decide) rfl jnX9 (by decide) lf_RX9_253 rfl ?_
  exact s_if_eq (tgt := 105) (show decode (am_cc m9_writes) 87 = .ok (.ifCond .eq 18, 3) by decide +kernel) (by decide) k1 k2
theorem g9_writes_90 {a1 a2 a3 : Int} {M : am_M} {Q : Option am_V → am_M → Prop} (h1 : -2147483648 ≤ 6 * a1 ∧ 6 * a1 ≤ 2147483647) (h2 : -2147483648 ≤ (6 * a1) + a2 ∧ (6 * a1) + a2 ≤ 2147483647) (h3 : 0 ≤ (6 * a1) + a2) (h4 : (6 * a1) + a2 < 24) (k : am_CallN m9_add [vr 86, vi (M 94 ((6 * a1) + a2))] KS M (fun r M' => am_AtN m9_writes 105 [some (vr 86), some (vi a1), some (vi a2), some (vi a3), none] (r.toList ++ []) KS M' Q)) : am_AtN m9_writes 90 [some (vr 86), some (vi a1), some (vi a2), some (vi a3), none] [] KS M Q := by
  refine s_aload_n (show decode (am_cc m9_writes) 90 = .ok (.aload_n 0, 1) by decide +kernel) rfl ?_
  refine s_aload_n (show decode (am_cc m9_writes) 91 = .ok (.aload_n 0, 1) by decide +kernel) rfl ?_
  refine s_getf (k := 9) (v := vr 94) (show decode (am_cc m9_writes) 92 = .ok (.getfield 32, 3) by decide +kernel) kd86 (by decide) rfl jnX9 (by decide) lf_RX9_32 rfl ?_
  refine s_bipush (show decode (am_cc m9_writes) 95 = .ok (.bipush 6, 2) by decide +kernel) ⟨by decide, by decide⟩ (by decide) ?_
  refine s_iload_n (show decode (am_cc m9_writes) 97 = .ok (.iload_n 1, 1) by decide +kernel) rfl ?_
  refine s_imul (show decode (am_cc m9_writes) 98 = .ok (.imul, 1) by decide +kernel) h1 ?_
  refine s_iload_n (show decode (am_cc m9_writes) 99 = .ok (.iload_n 2, 1) by decide +kernel) rfl ?_
  refine s_iadd (show decode (am_cc m9_writes) 100 = .ok (.iadd, 1) by decide +kernel) h2 ?_
  refine s_iaload (show decode (am_cc m9_writes) 101 = .ok (.iaload, 1) by decide +kernel) kd94 h3 h4 ?_
  exact n_callV (as := [vi (M 94 ((6 * a1) + a2))]) (stk := []) (show decode (am_cc m9_writes) 102 = .ok (.invokevirtual 250, 3) by decide +kernel) lk_RX9_250 kd86 (by decide) rfl rfl (by decide) (Nat.le_of_ble_eq_true rfl) ⟨rfl, rfl⟩ k
theorem g9_writes_105 {a1 a2 a3 : Int} {M : am_M} {Q : Option am_V → am_M → Prop} (h1 : M 86 18 = 0 ∨ M 86 18 = 1) (k : Q (some (vi (M 86 18))) M) : am_AtN m9_writes 105 [some (vr 86), some (vi a1), some (vi a2), some (vi a3), none] [] KS M Q := by
  refine s_aload_n (show decode (am_cc m9_writes) 105 = .ok (.aload_n 0, 1) by decide +kernel) rfl ?_
  refine s_getf (k := 18) (v := vi (M 86 18)) (show decode (am_cc m9_writes) 106 = .ok (.getfield 253, 3) by decide +kernel) kd86 (by decide) rfl jnX9 (by decide) lf_RX9_253 rfl ?_
  exact s_zreturn (show decode (am_cc m9_writes) 109 = .ok (.ireturn, 1) by decide +kernel) rfl h1 k
theorem g9_take_0 {M : am_M} {Q : Option am_V → am_M → Prop} (k : am_AtN m9_take 10 [some (vr 86), some (vi 0)] [] KS (am_up M 86 31 (M 86 33)) Q) : am_AtN m9_take 0 [some (vr 86), none] [] KS M Q := by
  refine s_aload_n (show decode (am_cc m9_take) 0 = .ok (.aload_n 0, 1) by decide +kernel) rfl ?_
  refine s_aload_n (show decode (am_cc m9_take) 1 = .ok (.aload_n 0, 1) by decide +kernel) rfl ?_
  refine s_getf (k := 33) (v := vi (M 86 33)) (show decode (am_cc m9_take) 2 = .ok (.getfield 247, 3) by decide +kernel) kd86 (by decide) rfl jnX9 (by decide) lf_RX9_247 rfl ?_
  refine s_putf (k := 31) (x := M 86 33) (ty0 := tyX9) (show decode (am_cc m9_take) 5 = .ok (.putfield 105, 3) by decide +kernel) kd86 (by decide) rfl jnX9 tyX9_ok nmX9 (by decide) lf_RX9_105 rfl (Or.inl ⟨rfl, rfl, rfl⟩) ?_
  refine s_iconst (show decode (am_cc m9_take) 8 = .ok (.iconst 0, 1) by decide +kernel) ⟨by decide, by decide⟩ ?_
  refine s_istore_n (show decode (am_cc m9_take) 9 = .ok (.istore_n 1, 1) by decide +kernel) (by decide) ?_
  exact k
theorem g9_take_10 {a1 : Int} {M : am_M} {Q : Option am_V → am_M → Prop} (k1 : M 86 31 ≤ a1 → am_AtN m9_take 36 [some (vr 86), some (vi a1)] [] KS M Q) (k2 : ¬ (M 86 31 ≤ a1) → am_AtN m9_take 18 [some (vr 86), some (vi a1)] [] KS M Q) : am_AtN m9_take 10 [some (vr 86), some (vi a1)] [] KS M Q := by
  refine s_iload_n (show decode (am_cc m9_take) 10 = .ok (.iload_n 1, 1) by decide +kernel) rfl ?_
  refine s_aload_n (show decode (am_cc m9_take) 11 = .ok (.aload_n 0, 1) by decide +kernel) rfl ?_
  refine s_getf (k := 31) (v := vi (M 86 31)) (show decode (am_cc m9_take) 12 = .ok (.getfield 105, 3) by decide +kernel) kd86 (by decide) rfl jnX9 (by decide) lf_RX9_105 rfl ?_
  exact s_icmp_ge (tgt := 36) (show decode (am_cc m9_take) 15 = .ok (.if_icmp .ge 21, 3) by decide +kernel) (by decide) k1 k2
theorem g9_take_18 {a1 : Int} {M : am_M} {Q : Option am_V → am_M → Prop} (h1 : 0 ≤ a1) (h2 : a1 < 64) (h3 : 0 ≤ a1) (h4 : a1 < 64) (h5 : -2147483648 ≤ a1 + 1 ∧ a1 + 1 ≤ 2147483647) (k : am_AtN m9_take 10 [some (vr 86), some (vi (a1 + 1))] [] KS (am_up M 109 a1 (M 110 a1)) Q) : am_AtN m9_take 18 [some (vr 86), some (vi a1)] [] KS M Q := by
  refine s_aload_n (show decode (am_cc m9_take) 18 = .ok (.aload_n 0, 1) by decide +kernel) rfl ?_
  refine s_getf (k := 30) (v := vr 109) (show decode (am_cc m9_take) 19 = .ok (.getfield 79, 3) by decide +kernel) kd86 (by decide) rfl jnX9 (by decide) lf_RX9_79 rfl ?_
  refine s_iload_n (show decode (am_cc m9_take) 22 = .ok (.iload_n 1, 1) by decide +kernel) rfl ?_
  refine s_aload_n (show decode (am_cc m9_take) 23 = .ok (.aload_n 0, 1) by decide +kernel) rfl ?_
  refine s_getf (k := 32) (v := vr 110) (show decode (am_cc m9_take) 24 = .ok (.getfield 82, 3) by decide +kernel) kd86 (by decide) rfl jnX9 (by decide) lf_RX9_82 rfl ?_
  refine s_iload_n (show decode (am_cc m9_take) 27 = .ok (.iload_n 1, 1) by decide +kernel) rfl ?_
  refine s_iaload (show decode (am_cc m9_take) 28 = .ok (.iaload, 1) by decide +kernel) kd110 h1 h2 ?_
  refine s_iastore (show decode (am_cc m9_take) 29 = .ok (.iastore, 1) by decide +kernel) kd109 h3 h4 ?_
  refine s_iinc (show decode (am_cc m9_take) 30 = .ok (.iinc 1 1, 3) by decide +kernel) rfl (by decide) h5 ?_
  refine s_goto (tgt := 10) (show decode (am_cc m9_take) 33 = .ok (.goto (-23), 3) by decide +kernel) (by decide) ?_
  exact k
theorem g9_take_36 {a1 : Int} {M : am_M} {Q : Option am_V → am_M → Prop} (k : Q none M) : am_AtN m9_take 36 [some (vr 86), some (vi a1)] [] KS M Q := by
  exact s_return (show decode (am_cc m9_take) 36 = .ok (.return_, 1) by decide +kernel) rfl k
theorem g9_run_0 {a1 : Int} {M : am_M} {Q : Option am_V → am_M → Prop} (k : am_CallN m9_noProgram [vi a1] KS (am_up M 86 0 0) (fun r M' => am_AtN m9_run 9 [some (vr 86), some (vi a1)] (r.toList ++ []) KS M' Q)) : am_AtN m9_run 0 [some (vr 86), some (vi a1)] [] KS M Q := by
  refine s_aload_n (show decode (am_cc m9_run) 0 = .ok (.aload_n 0, 1) by decide +kernel) rfl ?_
  refine s_iconst (show decode (am_cc m9_run) 1 = .ok (.iconst 0, 1) by decide +kernel) ⟨by decide, by decide⟩ ?_
  refine s_putf (k := 0) (x := 0) (ty0 := tyX9) (show decode (am_cc m9_run) 2 = .ok (.putfield 95, 3) by decide +kernel) kd86 (by decide) rfl jnX9 tyX9_ok nmX9 (by decide) lf_RX9_95 rfl (Or.inl ⟨rfl, rfl, rfl⟩) ?_
  refine s_iload_n (show decode (am_cc m9_run) 5 = .ok (.iload_n 1, 1) by decide +kernel) rfl ?_
  exact n_callS (as := [vi a1]) (stk := []) (show decode (am_cc m9_run) 6 = .ok (.invokestatic 144, 3) by decide +kernel) lk_RX9_144 (by decide) (Nat.le_of_ble_eq_true rfl) ⟨rfl, rfl⟩ k
theorem g9_run_9 {a1 t0 : Int} {M : am_M} {Q : Option am_V → am_M → Prop} (k1 : t0 = 0 → am_AtN m9_run 14 [some (vr 86), some (vi a1)] [] KS M Q) (k2 : ¬ (t0 = 0) → am_AtN m9_run 12 [some (vr 86), some (vi a1)] [] KS M Q) : am_AtN m9_run 9 [some (vr 86), some (vi a1)] [vi t0] KS M Q := by
  exact s_if_eq (tgt := 14) (show decode (am_cc m9_run) 9 = .ok (.ifCond .eq 5, 3) by decide +kernel) (by decide) k1 k2
theorem g9_run_12 {a1 : Int} {M : am_M} {Q : Option am_V → am_M → Prop} (k : Q (some (vi (-1))) M) : am_AtN m9_run 12 [some (vr 86), some (vi a1)] [] KS M Q := by
  refine s_iconst (show decode (am_cc m9_run) 12 = .ok (.iconst (-1), 1) by decide +kernel) ⟨by decide, by decide⟩ ?_
  exact s_ireturn (show decode (am_cc m9_run) 13 = .ok (.ireturn, 1) by decide +kernel) rfl k
theorem g9_run_14 {a1 : Int} {M : am_M} {Q : Option am_V → am_M → Prop} (k : am_CallN m9_writes [vr 86, vi a1] KS M (fun r M' => am_AtN m9_run 19 [some (vr 86), some (vi a1)] (r.toList ++ []) KS M' Q)) : am_AtN m9_run 14 [some (vr 86), some (vi a1)] [] KS M Q := by
  refine s_aload_n (show decode (am_cc m9_run) 14 = .ok (.aload_n 0, 1) by decide +kernel) rfl ?_
  refine s_iload_n (show decode (am_cc m9_run) 15 = .ok (.iload_n 1, 1) by decide +kernel) rfl ?_
  exact n_callV (as := [vi a1]) (stk := []) (show decode (am_cc m9_run) 16 = .ok (.invokevirtual 257, 3) by decide +kernel) lk_RX9_257 kd86 (by decide) rfl rfl (by decide) (Nat.le_of_ble_eq_true rfl) ⟨rfl, rfl⟩ k
theorem g9_run_19 {a1 t0 : Int} {M : am_M} {Q : Option am_V → am_M → Prop} (k1 : ¬ t0 = 0 → am_AtN m9_run 25 [some (vr 86), some (vi a1)] [] KS M Q) (k2 : t0 = 0 → am_AtN m9_run 22 [some (vr 86), some (vi a1)] [] KS M Q) : am_AtN m9_run 19 [some (vr 86), some (vi a1)] [vi t0] KS M Q := by
  exact s_if_ne (tgt := 25) (show decode (am_cc m9_run) 19 = .ok (.ifCond .ne 6, 3) by decide +kernel) (by decide) k1 k2
theorem g9_run_22 {a1 : Int} {M : am_M} {Q : Option am_V → am_M → Prop} (k : Q (some (vi (-3))) M) : am_AtN m9_run 22 [some (vr 86), some (vi a1)] [] KS M Q := by
  refine s_bipush (show decode (am_cc m9_run) 22 = .ok (.bipush (-3), 2) by decide +kernel) ⟨by decide, by decide⟩ (by decide) ?_
  exact s_ireturn (show decode (am_cc m9_run) 24 = .ok (.ireturn, 1) by decide +kernel) rfl k
theorem g9_run_25 {a1 : Int} {M : am_M} {Q : Option am_V → am_M → Prop} (k1 : M 86 33 ≤ 24 → am_AtN m9_run 37 [some (vr 86), some (vi a1)] [] KS M Q) (k2 : ¬ (M 86 33 ≤ 24) → am_AtN m9_run 34 [some (vr 86), some (vi a1)] [] KS M Q) : am_AtN m9_run 25 [some (vr 86), some (vi a1)] [] KS M Q := by
  refine s_aload_n (show decode (am_cc m9_run) 25 = .ok (.aload_n 0, 1) by decide +kernel) rfl ?_
  refine s_getf (k := 33) (v := vi (M 86 33)) (show decode (am_cc m9_run) 26 = .ok (.getfield 247, 3) by decide +kernel) kd86 (by decide) rfl jnX9 (by decide) lf_RX9_247 rfl ?_
  refine s_bipush (show decode (am_cc m9_run) 29 = .ok (.bipush 24, 2) by decide +kernel) ⟨by decide, by decide⟩ (by decide) ?_
  exact s_icmp_le (tgt := 37) (show decode (am_cc m9_run) 31 = .ok (.if_icmp .le 6, 3) by decide +kernel) (by decide) k1 k2
theorem g9_run_34 {a1 : Int} {M : am_M} {Q : Option am_V → am_M → Prop} (k : Q (some (vi (-4))) M) : am_AtN m9_run 34 [some (vr 86), some (vi a1)] [] KS M Q := by
  refine s_bipush (show decode (am_cc m9_run) 34 = .ok (.bipush (-4), 2) by decide +kernel) ⟨by decide, by decide⟩ (by decide) ?_
  exact s_ireturn (show decode (am_cc m9_run) 36 = .ok (.ireturn, 1) by decide +kernel) rfl k
theorem g9_run_37 {a1 : Int} {M : am_M} {Q : Option am_V → am_M → Prop} (k : am_CallN m9_take [vr 86] KS M (fun r M' => am_AtN m9_run 41 [some (vr 86), some (vi a1)] (r.toList ++ []) KS M' Q)) : am_AtN m9_run 37 [some (vr 86), some (vi a1)] [] KS M Q := by
  refine s_aload_n (show decode (am_cc m9_run) 37 = .ok (.aload_n 0, 1) by decide +kernel) rfl ?_
  exact n_callV (as := []) (stk := []) (show decode (am_cc m9_run) 38 = .ok (.invokevirtual 260, 3) by decide +kernel) lk_RX9_260 kd86 (by decide) rfl rfl (by decide) (Nat.le_of_ble_eq_true rfl) ⟨rfl, rfl⟩ k
theorem g9_run_41 {a1 : Int} {M : am_M} {Q : Option am_V → am_M → Prop} (k : Q (some (vi (M 86 31))) M) : am_AtN m9_run 41 [some (vr 86), some (vi a1)] [] KS M Q := by
  refine s_aload_n (show decode (am_cc m9_run) 41 = .ok (.aload_n 0, 1) by decide +kernel) rfl ?_
  refine s_getf (k := 31) (v := vi (M 86 31)) (show decode (am_cc m9_run) 42 = .ok (.getfield 105, 3) by decide +kernel) kd86 (by decide) rfl jnX9 (by decide) lf_RX9_105 rfl ?_
  exact s_ireturn (show decode (am_cc m9_run) 45 = .ok (.ireturn, 1) by decide +kernel) rfl k
theorem g9_rounds_0 {a1 : Int} {M : am_M} {Q : Option am_V → am_M → Prop} (k : am_CallN m9_noProgram [vi a1] KS (am_up M 86 0 0) (fun r M' => am_AtN m9_rounds 9 [some (vr 86), some (vi a1), none, none, none, none, none, none] (r.toList ++ []) KS M' Q)) : am_AtN m9_rounds 0 [some (vr 86), some (vi a1), none, none, none, none, none, none] [] KS M Q := by
  refine s_aload_n (show decode (am_cc m9_rounds) 0 = .ok (.aload_n 0, 1) by decide +kernel) rfl ?_
  refine s_iconst (show decode (am_cc m9_rounds) 1 = .ok (.iconst 0, 1) by decide +kernel) ⟨by decide, by decide⟩ ?_
  refine s_putf (k := 0) (x := 0) (ty0 := tyX9) (show decode (am_cc m9_rounds) 2 = .ok (.putfield 95, 3) by decide +kernel) kd86 (by decide) rfl jnX9 tyX9_ok nmX9 (by decide) lf_RX9_95 rfl (Or.inl ⟨rfl, rfl, rfl⟩) ?_
  refine s_iload_n (show decode (am_cc m9_rounds) 5 = .ok (.iload_n 1, 1) by decide +kernel) rfl ?_
  exact n_callS (as := [vi a1]) (stk := []) (show decode (am_cc m9_rounds) 6 = .ok (.invokestatic 144, 3) by decide +kernel) lk_RX9_144 (by decide) (Nat.le_of_ble_eq_true rfl) ⟨rfl, rfl⟩ k
theorem g9_rounds_9 {a1 t0 : Int} {M : am_M} {Q : Option am_V → am_M → Prop} (k1 : t0 = 0 → am_AtN m9_rounds 14 [some (vr 86), some (vi a1), none, none, none, none, none, none] [] KS M Q) (k2 : ¬ (t0 = 0) → am_AtN m9_rounds 12 [some (vr 86), some (vi a1), none, none, none, none, none, none] [] KS M Q) : am_AtN m9_rounds 9 [some (vr 86), some (vi a1), none, none, none, none, none, none] [vi t0] KS M Q := by
  exact s_if_eq (tgt := 14) (show decode (am_cc m9_rounds) 9 = .ok (.ifCond .eq 5, 3) by decide +kernel) (by decide) k1 k2
theorem g9_rounds_12 {a1 : Int} {M : am_M} {Q : Option am_V → am_M → Prop} (k : Q (some (vi (-1))) M) : am_AtN m9_rounds 12 [some (vr 86), some (vi a1), none, none, none, none, none, none] [] KS M Q := by
  refine s_iconst (show decode (am_cc m9_rounds) 12 = .ok (.iconst (-1), 1) by decide +kernel) ⟨by decide, by decide⟩ ?_
  exact s_ireturn (show decode (am_cc m9_rounds) 13 = .ok (.ireturn, 1) by decide +kernel) rfl k
theorem g9_rounds_14 {a1 : Int} {M : am_M} {Q : Option am_V → am_M → Prop} (k : am_AtN m9_rounds 21 [some (vr 86), some (vi a1), some (vi (M 86 31)), some (vi 0), none, none, none, none] [] KS M Q) : am_AtN m9_rounds 14 [some (vr 86), some (vi a1), none, none, none, none, none, none] [] KS M Q := by
  refine s_aload_n (show decode (am_cc m9_rounds) 14 = .ok (.aload_n 0, 1) by decide +kernel) rfl ?_
  refine s_getf (k := 31) (v := vi (M 86 31)) (show decode (am_cc m9_rounds) 15 = .ok (.getfield 105, 3) by decide +kernel) kd86 (by decide) rfl jnX9 (by decide) lf_RX9_105 rfl ?_
  refine s_istore_n (show decode (am_cc m9_rounds) 18 = .ok (.istore_n 2, 1) by decide +kernel) (by decide) ?_
  refine s_iconst (show decode (am_cc m9_rounds) 19 = .ok (.iconst 0, 1) by decide +kernel) ⟨by decide, by decide⟩ ?_
  refine s_istore_n (show decode (am_cc m9_rounds) 20 = .ok (.istore_n 3, 1) by decide +kernel) (by decide) ?_
  exact k
theorem g9_rounds_21 {a1 a2 a3 : Int} {M : am_M} {Q : Option am_V → am_M → Prop} (k1 : M 86 31 ≤ a3 → am_AtN m9_rounds 47 [some (vr 86), some (vi a1), some (vi a2), some (vi a3), none, none, none, none] [] KS M Q) (k2 : ¬ (M 86 31 ≤ a3) → am_AtN m9_rounds 29 [some (vr 86), some (vi a1), some (vi a2), some (vi a3), none, none, none, none] [] KS M Q) : am_AtN m9_rounds 21 [some (vr 86), some (vi a1), some (vi a2), some (vi a3), none, none, none, none] [] KS M Q := by
  refine s_iload_n (show decode (am_cc m9_rounds) 21 = .ok (.iload_n 3, 1) by decide +kernel) rfl ?_
  refine s_aload_n (show decode (am_cc m9_rounds) 22 = .ok (.aload_n 0, 1) by decide +kernel) rfl ?_
  refine s_getf (k := 31) (v := vi (M 86 31)) (show decode (am_cc m9_rounds) 23 = .ok (.getfield 105, 3) by decide +kernel) kd86 (by decide) rfl jnX9 (by decide) lf_RX9_105 rfl ?_
  exact s_icmp_ge (tgt := 47) (show decode (am_cc m9_rounds) 26 = .ok (.if_icmp .ge 21, 3) by decide +kernel) (by decide) k1 k2
theorem g9_rounds_29 {a1 a2 a3 : Int} {M : am_M} {Q : Option am_V → am_M → Prop} (h1 : 0 ≤ a3) (h2 : a3 < 64) (h3 : 0 ≤ a3) (h4 : a3 < 64) (h5 : -2147483648 ≤ a3 + 1 ∧ a3 + 1 ≤ 2147483647) (k : am_AtN m9_rounds 21 [some (vr 86), some (vi a1), some (vi a2), some (vi (a3 + 1)), none, none, none, none] [] KS (am_up M 111 a3 (M 109 a3)) Q) : am_AtN m9_rounds 29 [some (vr 86), some (vi a1), some (vi a2), some (vi a3), none, none, none, none] [] KS M Q := by
  refine s_aload_n (show decode (am_cc m9_rounds) 29 = .ok (.aload_n 0, 1) by decide +kernel) rfl ?_
  refine s_getf (k := 34) (v := vr 111) (show decode (am_cc m9_rounds) 30 = .ok (.getfield 85, 3) by decide +kernel) kd86 (by decide) rfl jnX9 (by decide) lf_RX9_85 rfl ?_
  refine s_iload_n (show decode (am_cc m9_rounds) 33 = .ok (.iload_n 3, 1) by decide +kernel) rfl ?_
  refine s_aload_n (show decode (am_cc m9_rounds) 34 = .ok (.aload_n 0, 1) by decide +kernel) rfl ?_
  refine s_getf (k := 30) (v := vr 109) (show decode (am_cc m9_rounds) 35 = .ok (.getfield 79, 3) by decide +kernel) kd86 (by decide) rfl jnX9 (by decide) lf_RX9_79 rfl ?_
  refine s_iload_n (show decode (am_cc m9_rounds) 38 = .ok (.iload_n 3, 1) by decide +kernel) rfl ?_
  refine s_iaload (show decode (am_cc m9_rounds) 39 = .ok (.iaload, 1) by decide +kernel) kd109 h1 h2 ?_
  refine s_iastore (show decode (am_cc m9_rounds) 40 = .ok (.iastore, 1) by decide +kernel) kd111 h3 h4 ?_
  refine s_iinc (show decode (am_cc m9_rounds) 41 = .ok (.iinc 3 1, 3) by decide +kernel) rfl (by decide) h5 ?_
  refine s_goto (tgt := 21) (show decode (am_cc m9_rounds) 44 = .ok (.goto (-23), 3) by decide +kernel) (by decide) ?_
  exact k
theorem g9_rounds_47 {a1 a2 a3 : Int} {M : am_M} {Q : Option am_V → am_M → Prop} (k : am_AtN m9_rounds 56 [some (vr 86), some (vi a1), some (vi a2), some (vi (-9)), some (vi 1), some (vi 0), none, none] [] KS M Q) : am_AtN m9_rounds 47 [some (vr 86), some (vi a1), some (vi a2), some (vi a3), none, none, none, none] [] KS M Q := by
  refine s_bipush (show decode (am_cc m9_rounds) 47 = .ok (.bipush (-9), 2) by decide +kernel) ⟨by decide, by decide⟩ (by decide) ?_
  refine s_istore_n (show decode (am_cc m9_rounds) 49 = .ok (.istore_n 3, 1) by decide +kernel) (by decide) ?_
  refine s_iconst (show decode (am_cc m9_rounds) 50 = .ok (.iconst 1, 1) by decide +kernel) ⟨by decide, by decide⟩ ?_
  refine s_istore (show decode (am_cc m9_rounds) 51 = .ok (.istore 4, 2) by decide +kernel) (by decide) ?_
  refine s_iconst (show decode (am_cc m9_rounds) 53 = .ok (.iconst 0, 1) by decide +kernel) ⟨by decide, by decide⟩ ?_
  refine s_istore (show decode (am_cc m9_rounds) 54 = .ok (.istore 5, 2) by decide +kernel) (by decide) ?_
  exact k
theorem g9_rounds_56 {a1 a2 a3 a4 a5 : Int} {M : am_M} {Q : Option am_V → am_M → Prop} (k1 : 60 ≤ a5 → am_AtN m9_rounds 206 [some (vr 86), some (vi a1), some (vi a2), some (vi a3), some (vi a4), some (vi a5), none, none] [] KS M Q) (k2 : ¬ (60 ≤ a5) → am_AtN m9_rounds 63 [some (vr 86), some (vi a1), some (vi a2), some (vi a3), some (vi a4), some (vi a5), none, none] [] KS M Q) : am_AtN m9_rounds 56 [some (vr 86), some (vi a1), some (vi a2), some (vi a3), some (vi a4), some (vi a5), none, none] [] KS M Q := by
  refine s_iload (show decode (am_cc m9_rounds) 56 = .ok (.iload 5, 2) by decide +kernel) rfl ?_
  refine s_bipush (show decode (am_cc m9_rounds) 58 = .ok (.bipush 60, 2) by decide +kernel) ⟨by decide, by decide⟩ (by decide) ?_
  exact s_icmp_ge (tgt := 206) (show decode (am_cc m9_rounds) 60 = .ok (.if_icmp .ge 146, 3) by decide +kernel) (by decide) k1 k2
theorem g9_rounds_63 {a1 a2 a3 a4 a5 : Int} {M : am_M} {Q : Option am_V → am_M → Prop} (k1 : a4 = 0 → am_AtN m9_rounds 206 [some (vr 86), some (vi a1), some (vi a2), some (vi a3), some (vi a4), some (vi a5), none, none] [] KS M Q) (k2 : ¬ (a4 = 0) → am_AtN m9_rounds 68 [some (vr 86), some (vi a1), some (vi a2), some (vi a3), some (vi a4), some (vi a5), none, none] [] KS M Q) : am_AtN m9_rounds 63 [some (vr 86), some (vi a1), some (vi a2), some (vi a3), some (vi a4), some (vi a5), none, none] [] KS M Q := by
  refine s_iload (show decode (am_cc m9_rounds) 63 = .ok (.iload 4, 2) by decide +kernel) rfl ?_
  exact s_if_eq (tgt := 206) (show decode (am_cc m9_rounds) 65 = .ok (.ifCond .eq 141, 3) by decide +kernel) (by decide) k1 k2
theorem g9_rounds_68 {a1 a2 a3 a4 a5 : Int} {M : am_M} {Q : Option am_V → am_M → Prop} (k : am_CallN m9_writes [vr 86, vi a1] KS M (fun r M' => am_AtN m9_rounds 73 [some (vr 86), some (vi a1), some (vi a2), some (vi a3), some (vi a4), some (vi a5), none, none] (r.toList ++ []) KS M' Q)) : am_AtN m9_rounds 68 [some (vr 86), some (vi a1), some (vi a2), some (vi a3), some (vi a4), some (vi a5), none, none] [] KS M Q := by
  refine s_aload_n (show decode (am_cc m9_rounds) 68 = .ok (.aload_n 0, 1) by decide +kernel) rfl ?_
  refine s_iload_n (show decode (am_cc m9_rounds) 69 = .ok (.iload_n 1, 1) by decide +kernel) rfl ?_
  exact n_callV (as := [vi a1]) (stk := []) (show decode (am_cc m9_rounds) 70 = .ok (.invokevirtual 257, 3) by decide +kernel) lk_RX9_257 kd86 (by decide) rfl rfl (by decide) (Nat.le_of_ble_eq_true rfl) ⟨rfl, rfl⟩ k
theorem g9_rounds_73 {a1 a2 a3 a4 a5 t0 : Int} {M : am_M} {Q : Option am_V → am_M → Prop} (k1 : t0 = 0 → am_AtN m9_rounds 89 [some (vr 86), some (vi a1), some (vi a2), some (vi a3), some (vi a4), some (vi a5), none, none] [] KS M Q) (k2 : ¬ (t0 = 0) → am_AtN m9_rounds 76 [some (vr 86), some (vi a1), some (vi a2), some (vi a3), some (vi a4), some (vi a5), none, none] [] KS M Q) : am_AtN m9_rounds 73 [some (vr 86), some (vi a1), some (vi a2), some (vi a3), some (vi a4), some (vi a5), none, none] [vi t0] KS M Q := by
  exact s_if_eq (tgt := 89) (show decode (am_cc m9_rounds) 73 = .ok (.ifCond .eq 16, 3) by decide +kernel) (by decide) k1 k2
theorem g9_rounds_76 {a1 a2 a3 a4 a5 : Int} {M : am_M} {Q : Option am_V → am_M → Prop} (k1 : 24 < M 86 33 → am_AtN m9_rounds 89 [some (vr 86), some (vi a1), some (vi a2), some (vi a3), some (vi a4), some (vi a5), none, none] [] KS M Q) (k2 : ¬ (24 < M 86 33) → am_AtN m9_rounds 85 [some (vr 86), some (vi a1), some (vi a2), some (vi a3), some (vi a4), some (vi a5), none, none] [] KS M Q) : am_AtN m9_rounds 76 [some (vr 86), some (vi a1), some (vi a2), some (vi a3), some (vi a4), some (vi a5), none, none] [] KS M Q := by
  refine s_aload_n (show decode (am_cc m9_rounds) 76 = .ok (.aload_n 0, 1) by decide +kernel) rfl ?_
  refine s_getf (k := 33) (v := vi (M 86 33)) (show decode (am_cc m9_rounds) 77 = .ok (.getfield 247, 3) by decide +kernel) kd86 (by decide) rfl jnX9 (by decide) lf_RX9_247 rfl ?_
  refine s_bipush (show decode (am_cc m9_rounds) 80 = .ok (.bipush 24, 2) by decide +kernel) ⟨by decide, by decide⟩ (by decide) ?_
  exact s_icmp_gt (tgt := 89) (show decode (am_cc m9_rounds) 82 = .ok (.if_icmp .gt 7, 3) by decide +kernel) (by decide) k1 k2
theorem g9_rounds_85 {a1 a2 a3 a4 a5 : Int} {M : am_M} {Q : Option am_V → am_M → Prop} (k : am_AtN m9_rounds 90 [some (vr 86), some (vi a1), some (vi a2), some (vi a3), some (vi a4), some (vi a5), none, none] [vi 1] KS M Q) : am_AtN m9_rounds 85 [some (vr 86), some (vi a1), some (vi a2), some (vi a3), some (vi a4), some (vi a5), none, none] [] KS M Q := by
  refine s_iconst (show decode (am_cc m9_rounds) 85 = .ok (.iconst 1, 1) by decide +kernel) ⟨by decide, by decide⟩ ?_
  refine s_goto (tgt := 90) (show decode (am_cc m9_rounds) 86 = .ok (.goto 4, 3) by decide +kernel) (by decide) ?_
  exact k
theorem g9_rounds_89 {a1 a2 a3 a4 a5 : Int} {M : am_M} {Q : Option am_V → am_M → Prop} (k : am_AtN m9_rounds 90 [some (vr 86), some (vi a1), some (vi a2), some (vi a3), some (vi a4), some (vi a5), none, none] [vi 0] KS M Q) : am_AtN m9_rounds 89 [some (vr 86), some (vi a1), some (vi a2), some (vi a3), some (vi a4), some (vi a5), none, none] [] KS M Q := by
  refine s_iconst (show decode (am_cc m9_rounds) 89 = .ok (.iconst 0, 1) by decide +kernel) ⟨by decide, by decide⟩ ?_
  exact k
theorem g9_rounds_90 {a1 a2 a3 a4 a5 t0 : Int} {M : am_M} {Q : Option am_V → am_M → Prop} (k1 : t0 = 0 → am_AtN m9_rounds 112 [some (vr 86), some (vi a1), some (vi a2), some (vi a3), some (vi t0), some (vi a5), none, none] [] KS M Q) (k2 : ¬ (t0 = 0) → am_AtN m9_rounds 97 [some (vr 86), some (vi a1), some (vi a2), some (vi a3), some (vi t0), some (vi a5), none, none] [] KS M Q) : am_AtN m9_rounds 90 [some (vr 86), some (vi a1), some (vi a2), some (vi a3), some (vi a4), some (vi a5), none, none] [vi t0] KS M Q := by
  refine s_istore (show decode (am_cc m9_rounds) 90 = .ok (.istore 4, 2) by decide +kernel) (by decide) ?_
  refine s_iload (show decode (am_cc m9_rounds) 92 = .ok (.iload 4, 2) by decide +kernel) rfl ?_
  exact s_if_eq (tgt := 112) (show decode (am_cc m9_rounds) 94 = .ok (.ifCond .eq 18, 3) by decide +kernel) (by decide) k1 k2
theorem g9_rounds_97 {a1 a2 a3 a4 a5 : Int} {M : am_M} {Q : Option am_V → am_M → Prop} (k1 : ¬ M 86 33 = M 86 31 → am_AtN m9_rounds 112 [some (vr 86), some (vi a1), some (vi a2), some (vi a3), some (vi a4), some (vi a5), none, none] [] KS M Q) (k2 : M 86 33 = M 86 31 → am_AtN m9_rounds 108 [some (vr 86), some (vi a1), some (vi a2), some (vi a3), some (vi a4), some (vi a5), none, none] [] KS M Q) : am_AtN m9_rounds 97 [some (vr 86), some (vi a1), some (vi a2), some (vi a3), some (vi a4), some (vi a5), none, none] [] KS M Q := by
  refine s_aload_n (show decode (am_cc m9_rounds) 97 = .ok (.aload_n 0, 1) by decide +kernel) rfl ?_
  refine s_getf (k := 33) (v := vi (M 86 33)) (show decode (am_cc m9_rounds) 98 = .ok (.getfield 247, 3) by decide +kernel) kd86 (by decide) rfl jnX9 (by decide) lf_RX9_247 rfl ?_
  refine s_aload_n (show decode (am_cc m9_rounds) 101 = .ok (.aload_n 0, 1) by decide +kernel) rfl ?_
  refine s_getf (k := 31) (v := vi (M 86 31)) (show decode (am_cc m9_rounds) 102 = .ok (.getfield 105, 3) by decide +kernel) kd86 (by decide) rfl jnX9 (by decide) lf_RX9_105 rfl ?_
  exact s_icmp_ne (tgt := 112) (show decode (am_cc m9_rounds) 105 = .ok (.if_icmp .ne 7, 3) by decide +kernel) (by decide) k1 k2
theorem g9_rounds_108 {a1 a2 a3 a4 a5 : Int} {M : am_M} {Q : Option am_V → am_M → Prop} (k : am_AtN m9_rounds 113 [some (vr 86), some (vi a1), some (vi a2), some (vi a3), some (vi a4), some (vi a5), none, none] [vi 1] KS M Q) : am_AtN m9_rounds 108 [some (vr 86), some (vi a1), some (vi a2), some (vi a3), some (vi a4), some (vi a5), none, none] [] KS M Q := by
  refine s_iconst (show decode (am_cc m9_rounds) 108 = .ok (.iconst 1, 1) by decide +kernel) ⟨by decide, by decide⟩ ?_
  refine s_goto (tgt := 113) (show decode (am_cc m9_rounds) 109 = .ok (.goto 4, 3) by decide +kernel) (by decide) ?_
  exact k
theorem g9_rounds_112 {a1 a2 a3 a4 a5 : Int} {M : am_M} {Q : Option am_V → am_M → Prop} (k : am_AtN m9_rounds 113 [some (vr 86), some (vi a1), some (vi a2), some (vi a3), some (vi a4), some (vi a5), none, none] [vi 0] KS M Q) : am_AtN m9_rounds 112 [some (vr 86), some (vi a1), some (vi a2), some (vi a3), some (vi a4), some (vi a5), none, none] [] KS M Q := by
  refine s_iconst (show decode (am_cc m9_rounds) 112 = .ok (.iconst 0, 1) by decide +kernel) ⟨by decide, by decide⟩ ?_
  exact k
theorem g9_rounds_113 {a1 a2 a3 a4 a5 t0 : Int} {M : am_M} {Q : Option am_V → am_M → Prop} (k : am_AtN m9_rounds 118 [some (vr 86), some (vi a1), some (vi a2), some (vi a3), some (vi a4), some (vi a5), some (vi t0), some (vi 0)] [] KS M Q) : am_AtN m9_rounds 113 [some (vr 86), some (vi a1), some (vi a2), some (vi a3), some (vi a4), some (vi a5), none, none] [vi t0] KS M Q := by
  refine s_istore (show decode (am_cc m9_rounds) 113 = .ok (.istore 6, 2) by decide +kernel) (by decide) ?_
  refine s_iconst (show decode (am_cc m9_rounds) 115 = .ok (.iconst 0, 1) by decide +kernel) ⟨by decide, by decide⟩ ?_
  refine s_istore (show decode (am_cc m9_rounds) 116 = .ok (.istore 7, 2) by decide +kernel) (by decide) ?_
  exact k
theorem g9_rounds_118 {a1 a2 a3 a4 a5 a6 a7 : Int} {M : am_M} {Q : Option am_V → am_M → Prop} (k1 : M 86 31 ≤ a7 → am_AtN m9_rounds 162 [some (vr 86), some (vi a1), some (vi a2), some (vi a3), some (vi a4), some (vi a5), some (vi a6), some (vi a7)] [] KS M Q) (k2 : ¬ (M 86 31 ≤ a7) → am_AtN m9_rounds 127 [some (vr 86), some (vi a1), some (vi a2), some (vi a3), some (vi a4), some (vi a5), some (vi a6), some (vi a7)] [] KS M Q) : am_AtN m9_rounds 118 [some (vr 86), some (vi a1), some (vi a2), some (vi a3), some (vi a4), some (vi a5), some (vi a6), some (vi a7)] [] KS M Q := by
  refine s_iload (show decode (am_cc m9_rounds) 118 = .ok (.iload 7, 2) by decide +kernel) rfl ?_
  refine s_aload_n (show decode (am_cc m9_rounds) 120 = .ok (.aload_n 0, 1) by decide +kernel) rfl ?_
  refine s_getf (k := 31) (v := vi (M 86 31)) (show decode (am_cc m9_rounds) 121 = .ok (.getfield 105, 3) by decide +kernel) kd86 (by decide) rfl jnX9 (by decide) lf_RX9_105 rfl ?_
  exact s_icmp_ge (tgt := 162) (show decode (am_cc m9_rounds) 124 = .ok (.if_icmp .ge 38, 3) by decide +kernel) (by decide) k1 k2
theorem g9_rounds_127 {a1 a2 a3 a4 a5 a6 a7 : Int} {M : am_M} {Q : Option am_V → am_M → Prop} (k1 : a6 = 0 → am_AtN m9_rounds 162 [some (vr 86), some (vi a1), some (vi a2), some (vi a3), some (vi a4), some (vi a5), some (vi a6), some (vi a7)] [] KS M Q) (k2 : ¬ (a6 = 0) → am_AtN m9_rounds 132 [some (vr 86), some (vi a1), some (vi a2), some (vi a3), some (vi a4), some (vi a5), some (vi a6), some (vi a7)] [] KS M Q) : am_AtN m9_rounds 127 [some (vr 86), some (vi a1), some (vi a2), some (vi a3), some (vi a4), some (vi a5), some (vi a6), some (vi a7)] [] KS M Q := by
  refine s_iload (show decode (am_cc m9_rounds) 127 = .ok (.iload 6, 2) by decide +kernel) rfl ?_
  exact s_if_eq (tgt := 162) (show decode (am_cc m9_rounds) 129 = .ok (.ifCond .eq 33, 3) by decide +kernel) (by decide) k1 k2
theorem g9_rounds_132 {a1 a2 a3 a4 a5 a6 a7 : Int} {M : am_M} {Q : Option am_V → am_M → Prop} (h1 : 0 ≤ a7) (h2 : a7 < 64) (h3 : 0 ≤ a7) (h4 : a7 < 64) (k1 : ¬ M 110 a7 = M 109 a7 → am_AtN m9_rounds 153 [some (vr 86), some (vi a1), some (vi a2), some (vi a3), some (vi a4), some (vi a5), some (vi a6), some (vi a7)] [] KS M Q) (k2 : M 110 a7 = M 109 a7 → am_AtN m9_rounds 149 [some (vr 86), some (vi a1), some (vi a2), some (vi a3), some (vi a4), some (vi a5), some (vi a6), some (vi a7)] [] KS M Q) : am_AtN m9_rounds 132 [some (vr 86), some (vi a1), some (vi a2), some (vi a3), some (vi a4), some (vi a5), some (vi a6), some (vi a7)] [] KS M Q := by
  refine s_aload_n (show decode (am_cc m9_rounds) 132 = .ok (.aload_n 0, 1) by decide +kernel) rfl ?_
  refine s_getf (k := 32) (v := vr 110) (show decode (am_cc m9_rounds) 133 = .ok (.getfield 82, 3) by decide +kernel) kd86 (by decide) rfl jnX9 (by decide) lf_RX9_82 rfl ?_
  refine s_iload (show decode (am_cc m9_rounds) 136 = .ok (.iload 7, 2) by decide +kernel) rfl ?_
  refine s_iaload (show decode (am_cc m9_rounds) 138 = .ok (.iaload, 1) by decide +kernel) kd110 h1 h2 ?_
  refine s_aload_n (show decode (am_cc m9_rounds) 139 = .ok (.aload_n 0, 1) by decide +kernel) rfl ?_
  refine s_getf (k := 30) (v := vr 109) (show decode (am_cc m9_rounds) 140 = .ok (.getfield 79, 3) by decide +kernel) kd86 (by decide) rfl jnX9 (by decide) lf_RX9_79 rfl ?_
  refine s_iload (show decode (am_cc m9_rounds) 143 = .ok (.iload 7, 2) by decide +kernel) rfl ?_
  refine s_iaload (show decode (am_cc m9_rounds) 145 = .ok (.iaload, 1) by decide +kernel) kd109 h3 h4 ?_
  exact s_icmp_ne (tgt := 153) (show decode (am_cc m9_rounds) 146 = .ok (.if_icmp .ne 7, 3) by decide +kernel) (by decide) k1 k2
theorem g9_rounds_149 {a1 a2 a3 a4 a5 a6 a7 : Int} {M : am_M} {Q : Option am_V → am_M → Prop} (k : am_AtN m9_rounds 154 [some (vr 86), some (vi a1), some (vi a2), some (vi a3), some (vi a4), some (vi a5), some (vi a6), some (vi a7)] [vi 1] KS M Q) : am_AtN m9_rounds 149 [some (vr 86), some (vi a1), some (vi a2), some (vi a3), some (vi a4), some (vi a5), some (vi a6), some (vi a7)] [] KS M Q := by
  refine s_iconst (show decode (am_cc m9_rounds) 149 = .ok (.iconst 1, 1) by decide +kernel) ⟨by decide, by decide⟩ ?_
  refine s_goto (tgt := 154) (show decode (am_cc m9_rounds) 150 = .ok (.goto 4, 3) by decide +kernel) (by decide) ?_
  exact k
theorem g9_rounds_153 {a1 a2 a3 a4 a5 a6 a7 : Int} {M : am_M} {Q : Option am_V → am_M → Prop} (k : am_AtN m9_rounds 154 [some (vr 86), some (vi a1), some (vi a2), some (vi a3), some (vi a4), some (vi a5), some (vi a6), some (vi a7)] [vi 0] KS M Q) : am_AtN m9_rounds 153 [some (vr 86), some (vi a1), some (vi a2), some (vi a3), some (vi a4), some (vi a5), some (vi a6), some (vi a7)] [] KS M Q := by
  refine s_iconst (show decode (am_cc m9_rounds) 153 = .ok (.iconst 0, 1) by decide +kernel) ⟨by decide, by decide⟩ ?_
  exact k
theorem g9_rounds_154 {a1 a2 a3 a4 a5 a6 a7 t0 : Int} {M : am_M} {Q : Option am_V → am_M → Prop} (h1 : -2147483648 ≤ a7 + 1 ∧ a7 + 1 ≤ 2147483647) (k : am_AtN m9_rounds 118 [some (vr 86), some (vi a1), some (vi a2), some (vi a3), some (vi a4), some (vi a5), some (vi t0), some (vi (a7 + 1))] [] KS M Q) : am_AtN m9_rounds 154 [some (vr 86), some (vi a1), some (vi a2), some (vi a3), some (vi a4), some (vi a5), some (vi a6), some (vi a7)] [vi t0] KS M Q := by
  refine s_istore (show decode (am_cc m9_rounds) 154 = .ok (.istore 6, 2) by decide +kernel) (by decide) ?_
  refine s_iinc (show decode (am_cc m9_rounds) 156 = .ok (.iinc 7 1, 3) by decide +kernel) rfl (by decide) h1 ?_
  refine s_goto (tgt := 118) (show decode (am_cc m9_rounds) 159 = .ok (.goto (-41), 3) by decide +kernel) (by decide) ?_
  exact k
theorem g9_rounds_162 {a1 a2 a3 a4 a5 a6 a7 : Int} {M : am_M} {Q : Option am_V → am_M → Prop} (k1 : a6 = 0 → am_AtN m9_rounds 172 [some (vr 86), some (vi a1), some (vi a2), some (vi a3), some (vi a4), some (vi a5), some (vi a6), some (vi a7)] [] KS M Q) (k2 : ¬ (a6 = 0) → am_AtN m9_rounds 167 [some (vr 86), some (vi a1), some (vi a2), some (vi a3), some (vi a4), some (vi a5), some (vi a6), some (vi a7)] [] KS M Q) : am_AtN m9_rounds 162 [some (vr 86), some (vi a1), some (vi a2), some (vi a3), some (vi a4), some (vi a5), some (vi a6), some (vi a7)] [] KS M Q := by
  refine s_iload (show decode (am_cc m9_rounds) 162 = .ok (.iload 6, 2) by decide +kernel) rfl ?_
  exact s_if_eq (tgt := 172) (show decode (am_cc m9_rounds) 164 = .ok (.ifCond .eq 8, 3) by decide +kernel) (by decide) k1 k2
theorem g9_rounds_167 {a1 a2 a3 a4 a5 a6 a7 : Int} {M : am_M} {Q : Option am_V → am_M → Prop} (k : am_AtN m9_rounds 173 [some (vr 86), some (vi a1), some (vi a2), some (vi a3), some (vi a4), some (vi a5), some (vi a6), some (vi a7)] [vi a5] KS M Q) : am_AtN m9_rounds 167 [some (vr 86), some (vi a1), some (vi a2), some (vi a3), some (vi a4), some (vi a5), some (vi a6), some (vi a7)] [] KS M Q := by
  refine s_iload (show decode (am_cc m9_rounds) 167 = .ok (.iload 5, 2) by decide +kernel) rfl ?_
  refine s_goto (tgt := 173) (show decode (am_cc m9_rounds) 169 = .ok (.goto 4, 3) by decide +kernel) (by decide) ?_
  exact k
theorem g9_rounds_172 {a1 a2 a3 a4 a5 a6 a7 : Int} {M : am_M} {Q : Option am_V → am_M → Prop} (k : am_AtN m9_rounds 173 [some (vr 86), some (vi a1), some (vi a2), some (vi a3), some (vi a4), some (vi a5), some (vi a6), some (vi a7)] [vi a3] KS M Q) : am_AtN m9_rounds 172 [some (vr 86), some (vi a1), some (vi a2), some (vi a3), some (vi a4), some (vi a5), some (vi a6), some (vi a7)] [] KS M Q := by
  refine s_iload_n (show decode (am_cc m9_rounds) 172 = .ok (.iload_n 3, 1) by decide +kernel) rfl ?_
  exact k
theorem g9_rounds_173 {a1 a2 a3 a4 a5 a6 a7 t0 : Int} {M : am_M} {Q : Option am_V → am_M → Prop} (k1 : a4 = 0 → am_AtN m9_rounds 188 [some (vr 86), some (vi a1), some (vi a2), some (vi t0), some (vi a4), some (vi a5), some (vi a6), some (vi a7)] [] KS M Q) (k2 : ¬ (a4 = 0) → am_AtN m9_rounds 179 [some (vr 86), some (vi a1), some (vi a2), some (vi t0), some (vi a4), some (vi a5), some (vi a6), some (vi a7)] [] KS M Q) : am_AtN m9_rounds 173 [some (vr 86), some (vi a1), some (vi a2), some (vi a3), some (vi a4), some (vi a5), some (vi a6), some (vi a7)] [vi t0] KS M Q := by
  refine s_istore_n (show decode (am_cc m9_rounds) 173 = .ok (.istore_n 3, 1) by decide +kernel) (by decide) ?_
  refine s_iload (show decode (am_cc m9_rounds) 174 = .ok (.iload 4, 2) by decide +kernel) rfl ?_
  exact s_if_eq (tgt := 188) (show decode (am_cc m9_rounds) 176 = .ok (.ifCond .eq 12, 3) by decide +kernel) (by decide) k1 k2
theorem g9_rounds_179 {a1 a2 a3 a4 a5 a6 a7 : Int} {M : am_M} {Q : Option am_V → am_M → Prop} (k1 : ¬ a6 = 0 → am_AtN m9_rounds 188 [some (vr 86), some (vi a1), some (vi a2), some (vi a3), some (vi a4), some (vi a5), some (vi a6), some (vi a7)] [] KS M Q) (k2 : a6 = 0 → am_AtN m9_rounds 184 [some (vr 86), some (vi a1), some (vi a2), some (vi a3), some (vi a4), some (vi a5), some (vi a6), some (vi a7)] [] KS M Q) : am_AtN m9_rounds 179 [some (vr 86), some (vi a1), some (vi a2), some (vi a3), some (vi a4), some (vi a5), some (vi a6), some (vi a7)] [] KS M Q := by
  refine s_iload (show decode (am_cc m9_rounds) 179 = .ok (.iload 6, 2) by decide +kernel) rfl ?_
  exact s_if_ne (tgt := 188) (show decode (am_cc m9_rounds) 181 = .ok (.ifCond .ne 7, 3) by decide +kernel) (by decide) k1 k2
theorem g9_rounds_184 {a1 a2 a3 a4 a5 a6 a7 : Int} {M : am_M} {Q : Option am_V → am_M → Prop} (k : am_AtN m9_rounds 189 [some (vr 86), some (vi a1), some (vi a2), some (vi a3), some (vi a4), some (vi a5), some (vi a6), some (vi a7)] [vi 1] KS M Q) : am_AtN m9_rounds 184 [some (vr 86), some (vi a1), some (vi a2), some (vi a3), some (vi a4), some (vi a5), some (vi a6), some (vi a7)] [] KS M Q := by
  refine s_iconst (show decode (am_cc m9_rounds) 184 = .ok (.iconst 1, 1) by decide +kernel) ⟨by decide, by decide⟩ ?_
  refine s_goto (tgt := 189) (show decode (am_cc m9_rounds) 185 = .ok (.goto 4, 3) by decide +kernel) (by decide) ?_
  exact k
theorem g9_rounds_188 {a1 a2 a3 a4 a5 a6 a7 : Int} {M : am_M} {Q : Option am_V → am_M → Prop} (k : am_AtN m9_rounds 189 [some (vr 86), some (vi a1), some (vi a2), some (vi a3), some (vi a4), some (vi a5), some (vi a6), some (vi a7)] [vi 0] KS M Q) : am_AtN m9_rounds 188 [some (vr 86), some (vi a1), some (vi a2), some (vi a3), some (vi a4), some (vi a5), some (vi a6), some (vi a7)] [] KS M Q := by
  refine s_iconst (show decode (am_cc m9_rounds) 188 = .ok (.iconst 0, 1) by decide +kernel) ⟨by decide, by decide⟩ ?_
  exact k
theorem g9_rounds_189 {a1 a2 a3 a4 a5 a6 a7 t0 : Int} {M : am_M} {Q : Option am_V → am_M → Prop} (k1 : t0 = 0 → am_AtN m9_rounds 200 [some (vr 86), some (vi a1), some (vi a2), some (vi a3), some (vi t0), some (vi a5), some (vi a6), some (vi a7)] [] KS M Q) (k2 : ¬ (t0 = 0) → am_AtN m9_rounds 196 [some (vr 86), some (vi a1), some (vi a2), some (vi a3), some (vi t0), some (vi a5), some (vi a6), some (vi a7)] [] KS M Q) : am_AtN m9_rounds 189 [some (vr 86), some (vi a1), some (vi a2), some (vi a3), some (vi a4), some (vi a5), some (vi a6), some (vi a7)] [vi t0] KS M Q := by
  refine s_istore (show decode (am_cc m9_rounds) 189 = .ok (.istore 4, 2) by decide +kernel) (by decide) ?_
  refine s_iload (show decode (am_cc m9_rounds) 191 = .ok (.iload 4, 2) by decide +kernel) rfl ?_
  exact s_if_eq (tgt := 200) (show decode (am_cc m9_rounds) 193 = .ok (.ifCond .eq 7, 3) by decide +kernel) (by decide) k1 k2
theorem g9_rounds_196 {a1 a2 a3 a4 a5 a6 a7 : Int} {M : am_M} {Q : Option am_V → am_M → Prop} (k : am_CallN m9_take [vr 86] KS M (fun r M' => am_AtN m9_rounds 200 [some (vr 86), some (vi a1), some (vi a2), some (vi a3), some (vi a4), some (vi a5), some (vi a6), some (vi a7)] (r.toList ++ []) KS M' Q)) : am_AtN m9_rounds 196 [some (vr 86), some (vi a1), some (vi a2), some (vi a3), some (vi a4), some (vi a5), some (vi a6), some (vi a7)] [] KS M Q := by
  refine s_aload_n (show decode (am_cc m9_rounds) 196 = .ok (.aload_n 0, 1) by decide +kernel) rfl ?_
  exact n_callV (as := []) (stk := []) (show decode (am_cc m9_rounds) 197 = .ok (.invokevirtual 260, 3) by decide +kernel) lk_RX9_260 kd86 (by decide) rfl rfl (by decide) (Nat.le_of_ble_eq_true rfl) ⟨rfl, rfl⟩ k
theorem g9_rounds_200 {a1 a2 a3 a4 a5 a6 a7 : Int} {M : am_M} {Q : Option am_V → am_M → Prop} (h1 : -2147483648 ≤ a5 + 1 ∧ a5 + 1 ≤ 2147483647) (k : am_AtN m9_rounds 56 [some (vr 86), some (vi a1), some (vi a2), some (vi a3), some (vi a4), some (vi (a5 + 1)), none, none] [] KS M Q) : am_AtN m9_rounds 200 [some (vr 86), some (vi a1), some (vi a2), some (vi a3), some (vi a4), some (vi a5), some (vi a6), some (vi a7)] [] KS M Q := by
  refine s_iinc (show decode (am_cc m9_rounds) 200 = .ok (.iinc 5 1, 3) by decide +kernel) rfl (by decide) h1 ?_
  refine s_goto (tgt := 56) (show decode (am_cc m9_rounds) 203 = .ok (.goto (-147), 3) by decide +kernel) (by decide) ?_
  refine am_fg 6 ?_
  refine am_fg 7 ?_
  exact k
theorem g9_rounds_206 {a1 a2 a3 a4 a5 : Int} {M : am_M} {Q : Option am_V → am_M → Prop} (k : am_AtN m9_rounds 214 [some (vr 86), some (vi a1), some (vi a2), some (vi a3), some (vi a4), some (vi 0), none, none] [] KS (am_up M 86 31 a2) Q) : am_AtN m9_rounds 206 [some (vr 86), some (vi a1), some (vi a2), some (vi a3), some (vi a4), some (vi a5), none, none] [] KS M Q := by
  refine s_aload_n (show decode (am_cc m9_rounds) 206 = .ok (.aload_n 0, 1) by decide +kernel) rfl ?_
  refine s_iload_n (show decode (am_cc m9_rounds) 207 = .ok (.iload_n 2, 1) by decide +kernel) rfl ?_
  refine s_putf (k := 31) (x := a2) (ty0 := tyX9) (show decode (am_cc m9_rounds) 208 = .ok (.putfield 105, 3) by decide +kernel) kd86 (by decide) rfl jnX9 tyX9_ok nmX9 (by decide) lf_RX9_105 rfl (Or.inl ⟨rfl, rfl, rfl⟩) ?_
  refine s_iconst (show decode (am_cc m9_rounds) 211 = .ok (.iconst 0, 1) by decide +kernel) ⟨by decide, by decide⟩ ?_
  refine s_istore (show decode (am_cc m9_rounds) 212 = .ok (.istore 5, 2) by decide +kernel) (by decide) ?_
  exact k
theorem g9_rounds_214 {a1 a2 a3 a4 a5 : Int} {M : am_M} {Q : Option am_V → am_M → Prop} (k1 : M 86 31 ≤ a5 → am_AtN m9_rounds 243 [some (vr 86), some (vi a1), some (vi a2), some (vi a3), some (vi a4), some (vi a5), none, none] [] KS M Q) (k2 : ¬ (M 86 31 ≤ a5) → am_AtN m9_rounds 223 [some (vr 86), some (vi a1), some (vi a2), some (vi a3), some (vi a4), some (vi a5), none, none] [] KS M Q) : am_AtN m9_rounds 214 [some (vr 86), some (vi a1), some (vi a2), some (vi a3), some (vi a4), some (vi a5), none, none] [] KS M Q := by
  refine s_iload (show decode (am_cc m9_rounds) 214 = .ok (.iload 5, 2) by decide +kernel) rfl ?_
  refine s_aload_n (show decode (am_cc m9_rounds) 216 = .ok (.aload_n 0, 1) by decide +kernel) rfl ?_
  refine s_getf (k := 31) (v := vi (M 86 31)) (show decode (am_cc m9_rounds) 217 = .ok (.getfield 105, 3) by decide +kernel) kd86 (by decide) rfl jnX9 (by decide) lf_RX9_105 rfl ?_
  exact s_icmp_ge (tgt := 243) (show decode (am_cc m9_rounds) 220 = .ok (.if_icmp .ge 23, 3) by decide +kernel) (by decide) k1 k2
theorem g9_rounds_223 {a1 a2 a3 a4 a5 : Int} {M : am_M} {Q : Option am_V → am_M → Prop} (h1 : 0 ≤ a5) (h2 : a5 < 64) (h3 : 0 ≤ a5) (h4 : a5 < 64) (h5 : -2147483648 ≤ a5 + 1 ∧ a5 + 1 ≤ 2147483647) (k : am_AtN m9_rounds 214 [some (vr 86), some (vi a1), some (vi a2), some (vi a3), some (vi a4), some (vi (a5 + 1)), none, none] [] KS (am_up M 109 a5 (M 111 a5)) Q) : am_AtN m9_rounds 223 [some (vr 86), some (vi a1), some (vi a2), some (vi a3), some (vi a4), some (vi a5), none, none] [] KS M Q := by
  refine s_aload_n (show decode (am_cc m9_rounds) 223 = .ok (.aload_n 0, 1) by decide +kernel) rfl ?_
  refine s_getf (k := 30) (v := vr 109) (show decode (am_cc m9_rounds) 224 = .ok (.getfield 79, 3) by decide +kernel) kd86 (by decide) rfl jnX9 (by decide) lf_RX9_79 rfl ?_
  refine s_iload (show decode (am_cc m9_rounds) 227 = .ok (.iload 5, 2) by decide +kernel) rfl ?_
  refine s_aload_n (show decode (am_cc m9_rounds) 229 = .ok (.aload_n 0, 1) by decide +kernel) rfl ?_
  refine s_getf (k := 34) (v := vr 111) (show decode (am_cc m9_rounds) 230 = .ok (.getfield 85, 3) by decide +kernel) kd86 (by decide) rfl jnX9 (by decide) lf_RX9_85 rfl ?_
  refine s_iload (show decode (am_cc m9_rounds) 233 = .ok (.iload 5, 2) by decide +kernel) rfl ?_
  refine s_iaload (show decode (am_cc m9_rounds) 235 = .ok (.iaload, 1) by decide +kernel) kd111 h1 h2 ?_
  refine s_iastore (show decode (am_cc m9_rounds) 236 = .ok (.iastore, 1) by decide +kernel) kd109 h3 h4 ?_
  refine s_iinc (show decode (am_cc m9_rounds) 237 = .ok (.iinc 5 1, 3) by decide +kernel) rfl (by decide) h5 ?_
  refine s_goto (tgt := 214) (show decode (am_cc m9_rounds) 240 = .ok (.goto (-26), 3) by decide +kernel) (by decide) ?_
  exact k
theorem g9_rounds_243 {a1 a2 a3 a4 a5 : Int} {M : am_M} {Q : Option am_V → am_M → Prop} (k : Q (some (vi a3)) M) : am_AtN m9_rounds 243 [some (vr 86), some (vi a1), some (vi a2), some (vi a3), some (vi a4), some (vi a5), none, none] [] KS M Q := by
  refine s_iload_n (show decode (am_cc m9_rounds) 243 = .ok (.iload_n 3, 1) by decide +kernel) rfl ?_
  exact s_ireturn (show decode (am_cc m9_rounds) 244 = .ok (.ireturn, 1) by decide +kernel) rfl k
theorem g9_count_0 {a1 : Int} {M : am_M} {Q : Option am_V → am_M → Prop} (k : am_AtN m9_count 9 [some (vr 86), some (vi a1), some (vi 0), some (vi 0)] [] KS (am_up M 86 0 0) Q) : am_AtN m9_count 0 [some (vr 86), some (vi a1), none, none] [] KS M Q := by
  refine s_aload_n (show decode (am_cc m9_count) 0 = .ok (.aload_n 0, 1) by decide +kernel) rfl ?_
  refine s_iconst (show decode (am_cc m9_count) 1 = .ok (.iconst 0, 1) by decide +kernel) ⟨by decide, by decide⟩ ?_
  refine s_putf (k := 0) (x := 0) (ty0 := tyX9) (show decode (am_cc m9_count) 2 = .ok (.putfield 95, 3) by decide +kernel) kd86 (by decide) rfl jnX9 tyX9_ok nmX9 (by decide) lf_RX9_95 rfl (Or.inl ⟨rfl, rfl, rfl⟩) ?_
  refine s_iconst (show decode (am_cc m9_count) 5 = .ok (.iconst 0, 1) by decide +kernel) ⟨by decide, by decide⟩ ?_
  refine s_istore_n (show decode (am_cc m9_count) 6 = .ok (.istore_n 2, 1) by decide +kernel) (by decide) ?_
  refine s_iconst (show decode (am_cc m9_count) 7 = .ok (.iconst 0, 1) by decide +kernel) ⟨by decide, by decide⟩ ?_
  refine s_istore_n (show decode (am_cc m9_count) 8 = .ok (.istore_n 3, 1) by decide +kernel) (by decide) ?_
  exact k
theorem g9_count_9 {a1 a2 a3 : Int} {M : am_M} {Q : Option am_V → am_M → Prop} (k1 : 1296 ≤ a3 → am_AtN m9_count 39 [some (vr 86), some (vi a1), some (vi a2), some (vi a3)] [] KS M Q) (k2 : ¬ (1296 ≤ a3) → am_AtN m9_count 16 [some (vr 86), some (vi a1), some (vi a2), some (vi a3)] [] KS M Q) : am_AtN m9_count 9 [some (vr 86), some (vi a1), some (vi a2), some (vi a3)] [] KS M Q := by
  refine s_iload_n (show decode (am_cc m9_count) 9 = .ok (.iload_n 3, 1) by decide +kernel) rfl ?_
  refine s_sipush (show decode (am_cc m9_count) 10 = .ok (.sipush 1296, 3) by decide +kernel) ⟨by decide, by decide⟩ (by decide) ?_
  exact s_icmp_ge (tgt := 39) (show decode (am_cc m9_count) 13 = .ok (.if_icmp .ge 26, 3) by decide +kernel) (by decide) k1 k2
theorem g9_count_16 {a1 a2 a3 : Int} {M : am_M} {Q : Option am_V → am_M → Prop} (h1 : 0 ≤ a3) (h2 : a3 < 1296) (k1 : M 99 a3 = 0 → am_AtN m9_count 30 [some (vr 86), some (vi a1), some (vi a2), some (vi a3)] [vi a2] KS M Q) (k2 : ¬ (M 99 a3 = 0) → am_AtN m9_count 26 [some (vr 86), some (vi a1), some (vi a2), some (vi a3)] [vi a2] KS M Q) : am_AtN m9_count 16 [some (vr 86), some (vi a1), some (vi a2), some (vi a3)] [] KS M Q := by
  refine s_iload_n (show decode (am_cc m9_count) 16 = .ok (.iload_n 2, 1) by decide +kernel) rfl ?_
  refine s_aload_n (show decode (am_cc m9_count) 17 = .ok (.aload_n 0, 1) by decide +kernel) rfl ?_
  refine s_getf (k := 14) (v := vr 99) (show decode (am_cc m9_count) 18 = .ok (.getfield 47, 3) by decide +kernel) kd86 (by decide) rfl jnX9 (by decide) lf_RX9_47 rfl ?_
  refine s_iload_n (show decode (am_cc m9_count) 21 = .ok (.iload_n 3, 1) by decide +kernel) rfl ?_
  refine s_baload (show decode (am_cc m9_count) 22 = .ok (.baload, 1) by decide +kernel) kd99 h1 h2 ?_
  exact s_if_eq (tgt := 30) (show decode (am_cc m9_count) 23 = .ok (.ifCond .eq 7, 3) by decide +kernel) (by decide) k1 k2
theorem g9_count_26 {a1 a2 a3 t0 : Int} {M : am_M} {Q : Option am_V → am_M → Prop} (k : am_AtN m9_count 31 [some (vr 86), some (vi a1), some (vi a2), some (vi a3)] [vi 1, vi t0] KS M Q) : am_AtN m9_count 26 [some (vr 86), some (vi a1), some (vi a2), some (vi a3)] [vi t0] KS M Q := by
  refine s_iconst (show decode (am_cc m9_count) 26 = .ok (.iconst 1, 1) by decide +kernel) ⟨by decide, by decide⟩ ?_
  refine s_goto (tgt := 31) (show decode (am_cc m9_count) 27 = .ok (.goto 4, 3) by decide +kernel) (by decide) ?_
  exact k
theorem g9_count_30 {a1 a2 a3 t0 : Int} {M : am_M} {Q : Option am_V → am_M → Prop} (k : am_AtN m9_count 31 [some (vr 86), some (vi a1), some (vi a2), some (vi a3)] [vi 0, vi t0] KS M Q) : am_AtN m9_count 30 [some (vr 86), some (vi a1), some (vi a2), some (vi a3)] [vi t0] KS M Q := by
  refine s_iconst (show decode (am_cc m9_count) 30 = .ok (.iconst 0, 1) by decide +kernel) ⟨by decide, by decide⟩ ?_
  exact k
theorem g9_count_31 {a1 a2 a3 t0 t1 : Int} {M : am_M} {Q : Option am_V → am_M → Prop} (h1 : -2147483648 ≤ t0 + t1 ∧ t0 + t1 ≤ 2147483647) (h2 : -2147483648 ≤ a3 + 1 ∧ a3 + 1 ≤ 2147483647) (k : am_AtN m9_count 9 [some (vr 86), some (vi a1), some (vi (t0 + t1)), some (vi (a3 + 1))] [] KS M Q) : am_AtN m9_count 31 [some (vr 86), some (vi a1), some (vi a2), some (vi a3)] [vi t1, vi t0] KS M Q := by
  refine s_iadd (show decode (am_cc m9_count) 31 = .ok (.iadd, 1) by decide +kernel) h1 ?_
  refine s_istore_n (show decode (am_cc m9_count) 32 = .ok (.istore_n 2, 1) by decide +kernel) (by decide) ?_
  refine s_iinc (show decode (am_cc m9_count) 33 = .ok (.iinc 3 1, 3) by decide +kernel) rfl (by decide) h2 ?_
  refine s_goto (tgt := 9) (show decode (am_cc m9_count) 36 = .ok (.goto (-27), 3) by decide +kernel) (by decide) ?_
  exact k
theorem g9_count_39 {a1 a2 a3 : Int} {M : am_M} {Q : Option am_V → am_M → Prop} (k1 : ¬ a1 = 0 → am_AtN m9_count 50 [some (vr 86), some (vi a1), some (vi a2), some (vi a3)] [] KS M Q) (k2 : a1 = 0 → am_AtN m9_count 43 [some (vr 86), some (vi a1), some (vi a2), some (vi a3)] [] KS M Q) : am_AtN m9_count 39 [some (vr 86), some (vi a1), some (vi a2), some (vi a3)] [] KS M Q := by
  refine s_iload_n (show decode (am_cc m9_count) 39 = .ok (.iload_n 1, 1) by decide +kernel) rfl ?_
  exact s_if_ne (tgt := 50) (show decode (am_cc m9_count) 40 = .ok (.ifCond .ne 10, 3) by decide +kernel) (by decide) k1 k2
theorem g9_count_43 {a1 a2 a3 : Int} {M : am_M} {Q : Option am_V → am_M → Prop} (k : am_AtN m9_count 73 [some (vr 86), some (vi a1), some (vi a2), some (vi a3)] [vi (M 86 1)] KS M Q) : am_AtN m9_count 43 [some (vr 86), some (vi a1), some (vi a2), some (vi a3)] [] KS M Q := by
  refine s_aload_n (show decode (am_cc m9_count) 43 = .ok (.aload_n 0, 1) by decide +kernel) rfl ?_
  refine s_getf (k := 1) (v := vi (M 86 1)) (show decode (am_cc m9_count) 44 = .ok (.getfield 99, 3) by decide +kernel) kd86 (by decide) rfl jnX9 (by decide) lf_RX9_99 rfl ?_
  refine s_goto (tgt := 73) (show decode (am_cc m9_count) 47 = .ok (.goto 26, 3) by decide +kernel) (by decide) ?_
  exact k
theorem g9_count_50 {a1 a2 a3 : Int} {M : am_M} {Q : Option am_V → am_M → Prop} (k1 : ¬ a1 = 1 → am_AtN m9_count 59 [some (vr 86), some (vi a1), some (vi a2), some (vi a3)] [] KS M Q) (k2 : a1 = 1 → am_AtN m9_count 55 [some (vr 86), some (vi a1), some (vi a2), some (vi a3)] [] KS M Q) : am_AtN m9_count 50 [some (vr 86), some (vi a1), some (vi a2), some (vi a3)] [] KS M Q := by
  refine s_iload_n (show decode (am_cc m9_count) 50 = .ok (.iload_n 1, 1) by decide +kernel) rfl ?_
  refine s_iconst (show decode (am_cc m9_count) 51 = .ok (.iconst 1, 1) by decide +kernel) ⟨by decide, by decide⟩ ?_
  exact s_icmp_ne (tgt := 59) (show decode (am_cc m9_count) 52 = .ok (.if_icmp .ne 7, 3) by decide +kernel) (by decide) k1 k2
theorem g9_count_55 {a1 a2 a3 : Int} {M : am_M} {Q : Option am_V → am_M → Prop} (k : am_AtN m9_count 73 [some (vr 86), some (vi a1), some (vi a2), some (vi a3)] [vi a2] KS M Q) : am_AtN m9_count 55 [some (vr 86), some (vi a1), some (vi a2), some (vi a3)] [] KS M Q := by
  refine s_iload_n (show decode (am_cc m9_count) 55 = .ok (.iload_n 2, 1) by decide +kernel) rfl ?_
  refine s_goto (tgt := 73) (show decode (am_cc m9_count) 56 = .ok (.goto 17, 3) by decide +kernel) (by decide) ?_
  exact k
theorem g9_count_59 {a1 a2 a3 : Int} {M : am_M} {Q : Option am_V → am_M → Prop} (k1 : ¬ a1 = 2 → am_AtN m9_count 71 [some (vr 86), some (vi a1), some (vi a2), some (vi a3)] [] KS M Q) (k2 : a1 = 2 → am_AtN m9_count 64 [some (vr 86), some (vi a1), some (vi a2), some (vi a3)] [] KS M Q) : am_AtN m9_count 59 [some (vr 86), some (vi a1), some (vi a2), some (vi a3)] [] KS M Q := by
  refine s_iload_n (show decode (am_cc m9_count) 59 = .ok (.iload_n 1, 1) by decide +kernel) rfl ?_
  refine s_iconst (show decode (am_cc m9_count) 60 = .ok (.iconst 2, 1) by decide +kernel) ⟨by decide, by decide⟩ ?_
  exact s_icmp_ne (tgt := 71) (show decode (am_cc m9_count) 61 = .ok (.if_icmp .ne 10, 3) by decide +kernel) (by decide) k1 k2
theorem g9_count_64 {a1 a2 a3 : Int} {M : am_M} {Q : Option am_V → am_M → Prop} (k : am_AtN m9_count 73 [some (vr 86), some (vi a1), some (vi a2), some (vi a3)] [vi (M 86 31)] KS M Q) : am_AtN m9_count 64 [some (vr 86), some (vi a1), some (vi a2), some (vi a3)] [] KS M Q := by
  refine s_aload_n (show decode (am_cc m9_count) 64 = .ok (.aload_n 0, 1) by decide +kernel) rfl ?_
  refine s_getf (k := 31) (v := vi (M 86 31)) (show decode (am_cc m9_count) 65 = .ok (.getfield 105, 3) by decide +kernel) kd86 (by decide) rfl jnX9 (by decide) lf_RX9_105 rfl ?_
  refine s_goto (tgt := 73) (show decode (am_cc m9_count) 68 = .ok (.goto 5, 3) by decide +kernel) (by decide) ?_
  exact k
theorem g9_count_71 {a1 a2 a3 : Int} {M : am_M} {Q : Option am_V → am_M → Prop} (k : am_AtN m9_count 73 [some (vr 86), some (vi a1), some (vi a2), some (vi a3)] [vi (-2)] KS M Q) : am_AtN m9_count 71 [some (vr 86), some (vi a1), some (vi a2), some (vi a3)] [] KS M Q := by
  refine s_bipush (show decode (am_cc m9_count) 71 = .ok (.bipush (-2), 2) by decide +kernel) ⟨by decide, by decide⟩ (by decide) ?_
  exact k
theorem g9_count_73 {a1 a2 a3 t0 : Int} {M : am_M} {Q : Option am_V → am_M → Prop} (k : Q (some (vi t0)) M) : am_AtN m9_count 73 [some (vr 86), some (vi a1), some (vi a2), some (vi a3)] [vi t0] KS M Q := by
  exact s_ireturn (show decode (am_cc m9_count) 73 = .ok (.ireturn, 1) by decide +kernel) rfl k
