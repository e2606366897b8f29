theorem g8_letters_0 {a1 : Int} {M : am_M} {Q : Option am_V → am_M → Prop} (k1 : a1 < 2 → am_AtN m8_letters 10 [some (vr 0), some (vi a1), none, none] [] KS M Q) (k2 : ¬ (a1 < 2) → am_AtN m8_letters 5 [some (vr 0), some (vi a1), none, none] [] KS M Q) : am_AtN m8_letters 0 [some (vr 0), some (vi a1), none, none] [] KS M Q := by
  refine s_iload_n (show decode (am_cc m8_letters) 0 = .ok (.iload_n 1, 1) by decide +kernel) rfl ?_
  refine s_iconst (show decode (am_cc m8_letters) 1 = .ok (.iconst 2, 1) by decide +kernel) ⟨by decide, by decide⟩ ?_
  exact s_icmp_lt (tgt := 10) (show decode (am_cc m8_letters) 2 = .ok (.if_icmp .lt 8, 3) by decide +kernel) (by decide) k1 k2
theorem g8_letters_5 {a1 : Int} {M : am_M} {Q : Option am_V → am_M → Prop} (k1 : a1 ≤ 4 → am_AtN m8_letters 13 [some (vr 0), some (vi a1), none, none] [] KS M Q) (k2 : ¬ (a1 ≤ 4) → am_AtN m8_letters 10 [some (vr 0), some (vi a1), none, none] [] KS M Q) : am_AtN m8_letters 5 [some (vr 0), some (vi a1), none, none] [] KS M Q := by
  refine s_iload_n (show decode (am_cc m8_letters) 5 = .ok (.iload_n 1, 1) by decide +kernel) rfl ?_
  refine s_iconst (show decode (am_cc m8_letters) 6 = .ok (.iconst 4, 1) by decide +kernel) ⟨by decide, by decide⟩ ?_
  exact s_icmp_le (tgt := 13) (show decode (am_cc m8_letters) 7 = .ok (.if_icmp .le 6, 3) by decide +kernel) (by decide) k1 k2
theorem g8_letters_10 {a1 : Int} {M : am_M} {Q : Option am_V → am_M → Prop} (k : Q (some (vi (-2))) M) : am_AtN m8_letters 10 [some (vr 0), some (vi a1), none, none] [] KS M Q := by
  refine s_bipush (show decode (am_cc m8_letters) 10 = .ok (.bipush (-2), 2) by decide +kernel) ⟨by decide, by decide⟩ (by decide) ?_
  exact s_ireturn (show decode (am_cc m8_letters) 12 = .ok (.ireturn, 1) by decide +kernel) rfl k
theorem g8_letters_13 {a1 : Int} {M : am_M} {Q : Option am_V → am_M → Prop} (k : am_AtN m8_letters 25 [some (vr 0), some (vi a1), some (vi (M 0 0)), some (vi 0)] [] KS (am_up M 0 0 a1) Q) : am_AtN m8_letters 13 [some (vr 0), some (vi a1), none, none] [] KS M Q := by
  refine s_aload_n (show decode (am_cc m8_letters) 13 = .ok (.aload_n 0, 1) by decide +kernel) rfl ?_
  refine s_getf (k := 0) (v := vi (M 0 0)) (show decode (am_cc m8_letters) 14 = .ok (.getfield 9, 3) by decide +kernel) kd0 (by decide) rfl jnX8 (by decide) lf_RX8_9 rfl ?_
  refine s_istore_n (show decode (am_cc m8_letters) 17 = .ok (.istore_n 2, 1) by decide +kernel) (by decide) ?_
  refine s_aload_n (show decode (am_cc m8_letters) 18 = .ok (.aload_n 0, 1) by decide +kernel) rfl ?_
  refine s_iload_n (show decode (am_cc m8_letters) 19 = .ok (.iload_n 1, 1) by decide +kernel) rfl ?_
  refine s_putf (k := 0) (x := a1) (ty0 := tyX8) (show decode (am_cc m8_letters) 20 = .ok (.putfield 9, 3) by decide +kernel) kd0 (by decide) rfl jnX8 tyX8_ok nmX8 (by decide) lf_RX8_9 rfl (Or.inl ⟨rfl, rfl, rfl⟩) ?_
  refine s_iconst (show decode (am_cc m8_letters) 23 = .ok (.iconst 0, 1) by decide +kernel) ⟨by decide, by decide⟩ ?_
  refine s_istore_n (show decode (am_cc m8_letters) 24 = .ok (.istore_n 3, 1) by decide +kernel) (by decide) ?_
  exact k
theorem g8_letters_25 {a1 a2 a3 : Int} {M : am_M} {Q : Option am_V → am_M → Prop} (k1 : 8 ≤ a3 → am_AtN m8_letters 46 [some (vr 0), some (vi a1), some (vi a2), some (vi a3)] [] KS M Q) (k2 : ¬ (8 ≤ a3) → am_AtN m8_letters 31 [some (vr 0), some (vi a1), some (vi a2), some (vi a3)] [] KS M Q) : am_AtN m8_letters 25 [some (vr 0), some (vi a1), some (vi a2), some (vi a3)] [] KS M Q := by
  refine s_iload_n (show decode (am_cc m8_letters) 25 = .ok (.iload_n 3, 1) by decide +kernel) rfl ?_
  refine s_bipush (show decode (am_cc m8_letters) 26 = .ok (.bipush 8, 2) by decide +kernel) ⟨by decide, by decide⟩ (by decide) ?_
  exact s_icmp_ge (tgt := 46) (show decode (am_cc m8_letters) 28 = .ok (.if_icmp .ge 18, 3) by decide +kernel) (by decide) k1 k2
theorem g8_letters_31 {a1 a2 a3 : Int} {M : am_M} {Q : Option am_V → am_M → Prop} {r0 : List Int} (h1 : 0 ≤ a3) (h2 : a3 < 8) (h3 : am_kd KS (([3, 6, 9, 12, 15, 18, 21, 24] : List Int).getD (Int.toNat a3) (-1)) = some (6, 2, r0)) (k : am_CallN m6_startAnew [vr (([3, 6, 9, 12, 15, 18, 21, 24] : List Int).getD (Int.toNat a3) (-1))] KS M (fun r M' => am_AtN m8_letters 40 [some (vr 0), some (vi a1), some (vi a2), some (vi a3)] (r.toList ++ []) KS M' Q)) : am_AtN m8_letters 31 [some (vr 0), some (vi a1), some (vi a2), some (vi a3)] [] KS M Q := by
  refine s_aload_n (show decode (am_cc m8_letters) 31 = .ok (.aload_n 0, 1) by decide +kernel) rfl ?_
  refine s_getf (k := 3) (v := vr 2) (show decode (am_cc m8_letters) 32 = .ok (.getfield 22, 3) by decide +kernel) kd0 (by decide) rfl jnX8 (by decide) lf_RX8_22 rfl ?_
  refine s_iload_n (show decode (am_cc m8_letters) 35 = .ok (.iload_n 3, 1) by decide +kernel) rfl ?_
  refine s_aaload (show decode (am_cc m8_letters) 36 = .ok (.aaload, 1) by decide +kernel) kd2 (by decide) h1 h2 ?_
  exact n_callV (as := []) (stk := []) (show decode (am_cc m8_letters) 37 = .ok (.invokevirtual 97, 3) by decide +kernel) lk_RX8_97 h3 (by decide) rfl rfl (by decide) (Nat.le_of_ble_eq_true rfl) ⟨rfl, rfl⟩ k
theorem g8_letters_40 {a1 a2 a3 : Int} {M : am_M} {Q : Option am_V → am_M → Prop} (h1 : -2147483648 ≤ a3 + 1 ∧ a3 + 1 ≤ 2147483647) (k : am_AtN m8_letters 25 [some (vr 0), some (vi a1), some (vi a2), some (vi (a3 + 1))] [] KS M Q) : am_AtN m8_letters 40 [some (vr 0), some (vi a1), some (vi a2), some (vi a3)] [] KS M Q := by
  refine s_iinc (show decode (am_cc m8_letters) 40 = .ok (.iinc 3 1, 3) by decide +kernel) rfl (by decide) h1 ?_
  refine s_goto (tgt := 25) (show decode (am_cc m8_letters) 43 = .ok (.goto (-18), 3) by decide +kernel) (by decide) ?_
  exact k
theorem g8_letters_46 {a1 a2 a3 : Int} {M : am_M} {Q : Option am_V → am_M → Prop} (k : am_AtN m8_letters 48 [some (vr 0), some (vi a1), some (vi a2), some (vi 0)] [] KS M Q) : am_AtN m8_letters 46 [some (vr 0), some (vi a1), some (vi a2), some (vi a3)] [] KS M Q := by
  refine s_iconst (show decode (am_cc m8_letters) 46 = .ok (.iconst 0, 1) by decide +kernel) ⟨by decide, by decide⟩ ?_
  refine s_istore_n (show decode (am_cc m8_letters) 47 = .ok (.istore_n 3, 1) by decide +kernel) (by decide) ?_
  exact k
theorem g8_letters_48 {a1 a2 a3 : Int} {M : am_M} {Q : Option am_V → am_M → Prop} (k1 : 4 ≤ a3 → am_AtN m8_letters 68 [some (vr 0), some (vi a1), some (vi a2), some (vi a3)] [] KS M Q) (k2 : ¬ (4 ≤ a3) → am_AtN m8_letters 53 [some (vr 0), some (vi a1), some (vi a2), some (vi a3)] [] KS M Q) : am_AtN m8_letters 48 [some (vr 0), some (vi a1), some (vi a2), some (vi a3)] [] KS M Q := by
  refine s_iload_n (show decode (am_cc m8_letters) 48 = .ok (.iload_n 3, 1) by decide +kernel) rfl ?_
  refine s_iconst (show decode (am_cc m8_letters) 49 = .ok (.iconst 4, 1) by decide +kernel) ⟨by decide, by decide⟩ ?_
  exact s_icmp_ge (tgt := 68) (show decode (am_cc m8_letters) 50 = .ok (.if_icmp .ge 18, 3) by decide +kernel) (by decide) k1 k2
theorem g8_letters_53 {a1 a2 a3 : Int} {M : am_M} {Q : Option am_V → am_M → Prop} {r0 : List Int} (h1 : 0 ≤ a3) (h2 : a3 < 4) (h3 : am_kd KS (([28, 32, 36, 40] : List Int).getD (Int.toNat a3) (-1)) = some (4, 3, r0)) (k : am_CallN m4_startAnew [vr (([28, 32, 36, 40] : List Int).getD (Int.toNat a3) (-1))] KS M (fun r M' => am_AtN m8_letters 62 [some (vr 0), some (vi a1), some (vi a2), some (vi a3)] (r.toList ++ []) KS M' Q)) : am_AtN m8_letters 53 [some (vr 0), some (vi a1), some (vi a2), some (vi a3)] [] KS M Q := by
  refine s_aload_n (show decode (am_cc m8_letters) 53 = .ok (.aload_n 0, 1) by decide +kernel) rfl ?_
  refine s_getf (k := 4) (v := vr 27) (show decode (am_cc m8_letters) 54 = .ok (.getfield 29, 3) by decide +kernel) kd0 (by decide) rfl jnX8 (by decide) lf_RX8_29 rfl ?_
  refine s_iload_n (show decode (am_cc m8_letters) 57 = .ok (.iload_n 3, 1) by decide +kernel) rfl ?_
  refine s_aaload (show decode (am_cc m8_letters) 58 = .ok (.aaload, 1) by decide +kernel) kd27 (by decide) h1 h2 ?_
  exact n_callV (as := []) (stk := []) (show decode (am_cc m8_letters) 59 = .ok (.invokevirtual 100, 3) by decide +kernel) lk_RX8_100 h3 (by decide) rfl rfl (by decide) (Nat.le_of_ble_eq_true rfl) ⟨rfl, rfl⟩ k
theorem g8_letters_62 {a1 a2 a3 : Int} {M : am_M} {Q : Option am_V → am_M → Prop} (h1 : -2147483648 ≤ a3 + 1 ∧ a3 + 1 ≤ 2147483647) (k : am_AtN m8_letters 48 [some (vr 0), some (vi a1), some (vi a2), some (vi (a3 + 1))] [] KS M Q) : am_AtN m8_letters 62 [some (vr 0), some (vi a1), some (vi a2), some (vi a3)] [] KS M Q := by
  refine s_iinc (show decode (am_cc m8_letters) 62 = .ok (.iinc 3 1, 3) by decide +kernel) rfl (by decide) h1 ?_
  refine s_goto (tgt := 48) (show decode (am_cc m8_letters) 65 = .ok (.goto (-17), 3) by decide +kernel) (by decide) ?_
  exact k
theorem g8_letters_68 {a1 a2 a3 : Int} {M : am_M} {Q : Option am_V → am_M → Prop} (k : am_CallN mJ_fill [vr 1, vi 0] KS M (fun r M' => am_AtN m8_letters 76 [some (vr 0), some (vi a1), some (vi a2), some (vi a3)] (r.toList ++ []) KS M' Q)) : am_AtN m8_letters 68 [some (vr 0), some (vi a1), some (vi a2), some (vi a3)] [] KS M Q := by
  refine s_aload_n (show decode (am_cc m8_letters) 68 = .ok (.aload_n 0, 1) by decide +kernel) rfl ?_
  refine s_getf (k := 2) (v := vr 1) (show decode (am_cc m8_letters) 69 = .ok (.getfield 16, 3) by decide +kernel) kd0 (by decide) rfl jnX8 (by decide) lf_RX8_16 rfl ?_
  refine s_iconst (show decode (am_cc m8_letters) 72 = .ok (.iconst 0, 1) by decide +kernel) ⟨by decide, by decide⟩ ?_
  exact n_callS (as := [vr 1, vi 0]) (stk := []) (show decode (am_cc m8_letters) 73 = .ok (.invokestatic 101, 3) by decide +kernel) lk_RX8_101 (by decide) (Nat.le_of_ble_eq_true rfl) ⟨rfl, rfl⟩ k
theorem g8_letters_76 {a1 a2 a3 : Int} {M : am_M} {Q : Option am_V → am_M → Prop} (k : am_CallN m5_empty [vr 54] KS (am_up M 0 1 0) (fun r M' => am_AtN m8_letters 88 [some (vr 0), some (vi a1), some (vi a2), some (vi a3)] (r.toList ++ []) KS M' Q)) : am_AtN m8_letters 76 [some (vr 0), some (vi a1), some (vi a2), some (vi a3)] [] KS M Q := by
  refine s_aload_n (show decode (am_cc m8_letters) 76 = .ok (.aload_n 0, 1) by decide +kernel) rfl ?_
  refine s_iconst (show decode (am_cc m8_letters) 77 = .ok (.iconst 0, 1) by decide +kernel) ⟨by decide, by decide⟩ ?_
  refine s_putf (k := 1) (x := 0) (ty0 := tyX8) (show decode (am_cc m8_letters) 78 = .ok (.putfield 13, 3) by decide +kernel) kd0 (by decide) rfl jnX8 tyX8_ok nmX8 (by decide) lf_RX8_13 rfl (Or.inl ⟨rfl, rfl, rfl⟩) ?_
  refine s_aload_n (show decode (am_cc m8_letters) 81 = .ok (.aload_n 0, 1) by decide +kernel) rfl ?_
  refine s_getf (k := 8) (v := vr 54) (show decode (am_cc m8_letters) 82 = .ok (.getfield 50, 3) by decide +kernel) kd0 (by decide) rfl jnX8 (by decide) lf_RX8_50 rfl ?_
  exact n_callV (as := []) (stk := []) (show decode (am_cc m8_letters) 85 = .ok (.invokevirtual 107, 3) by decide +kernel) lk_RX8_107 kd54 (by decide) rfl rfl (by decide) (Nat.le_of_ble_eq_true rfl) ⟨rfl, rfl⟩ k
theorem g8_letters_88 {a1 a2 a3 : Int} {M : am_M} {Q : Option am_V → am_M → Prop} (k : Q (some (vi a2)) M) : am_AtN m8_letters 88 [some (vr 0), some (vi a1), some (vi a2), some (vi a3)] [] KS M Q := by
  refine s_iload_n (show decode (am_cc m8_letters) 88 = .ok (.iload_n 2, 1) by decide +kernel) rfl ?_
  exact s_ireturn (show decode (am_cc m8_letters) 89 = .ok (.ireturn, 1) by decide +kernel) rfl k
theorem g8_point_0 {a1 a2 a3 a4 : Int} {M : am_M} {Q : Option am_V → am_M → Prop} (k : am_CallN m8_sentenceOf [vr 0, vi a1] KS M (fun r M' => am_AtN m8_point 5 [some (vr 0), some (vi a1), some (vi a2), some (vi a3), some (vi a4), none, none] (r.toList ++ []) KS M' Q)) : am_AtN m8_point 0 [some (vr 0), some (vi a1), some (vi a2), some (vi a3), some (vi a4), none, none] [] KS M Q := by
  refine s_aload_n (show decode (am_cc m8_point) 0 = .ok (.aload_n 0, 1) by decide +kernel) rfl ?_
  refine s_iload_n (show decode (am_cc m8_point) 1 = .ok (.iload_n 1, 1) by decide +kernel) rfl ?_
  exact n_callV (as := [vi a1]) (stk := []) (show decode (am_cc m8_point) 2 = .ok (.invokevirtual 110, 3) by decide +kernel) lk_RX8_110 kd0 (by decide) rfl rfl (by decide) (Nat.le_of_ble_eq_true rfl) ⟨rfl, rfl⟩ k
theorem g8_point_5 {a1 a2 a3 a4 t0 : Int} {M : am_M} {Q : Option am_V → am_M → Prop} (k1 : t0 = -1 → am_AtN m8_point 32 [some (vr 0), some (vi a1), some (vi a2), some (vi a3), some (vi a4), some (vr t0), none] [] KS M Q) (k2 : ¬ t0 = -1 → am_AtN m8_point 12 [some (vr 0), some (vi a1), some (vi a2), some (vi a3), some (vi a4), some (vr t0), none] [] KS M Q) : am_AtN m8_point 5 [some (vr 0), some (vi a1), some (vi a2), some (vi a3), some (vi a4), none, none] [vr t0] KS M Q := by
  refine s_astore (show decode (am_cc m8_point) 5 = .ok (.astore 5, 2) by decide +kernel) (by decide) ?_
  refine s_aload (show decode (am_cc m8_point) 7 = .ok (.aload 5, 2) by decide +kernel) rfl ?_
  exact s_ifnull (tgt := 32) (show decode (am_cc m8_point) 9 = .ok (.ifnull 23, 3) by decide +kernel) (by decide) k1 k2
theorem g8_point_12 {a1 a2 a3 a4 a5 : Int} {M : am_M} {Q : Option am_V → am_M → Prop} (k : am_CallN m8_within [vi a2, vi 6] KS M (fun r M' => am_AtN m8_point 18 [some (vr 0), some (vi a1), some (vi a2), some (vi a3), some (vi a4), some (vr a5), none] (r.toList ++ []) KS M' Q)) : am_AtN m8_point 12 [some (vr 0), some (vi a1), some (vi a2), some (vi a3), some (vi a4), some (vr a5), none] [] KS M Q := by
  refine s_iload_n (show decode (am_cc m8_point) 12 = .ok (.iload_n 2, 1) by decide +kernel) rfl ?_
  refine s_bipush (show decode (am_cc m8_point) 13 = .ok (.bipush 6, 2) by decide +kernel) ⟨by decide, by decide⟩ (by decide) ?_
  exact n_callS (as := [vi a2, vi 6]) (stk := []) (show decode (am_cc m8_point) 15 = .ok (.invokestatic 114, 3) by decide +kernel) lk_RX8_114 (by decide) (Nat.le_of_ble_eq_true rfl) ⟨rfl, rfl⟩ k
theorem g8_point_18 {a1 a2 a3 a4 a5 t0 : Int} {M : am_M} {Q : Option am_V → am_M → Prop} (k1 : t0 = 0 → am_AtN m8_point 32 [some (vr 0), some (vi a1), some (vi a2), some (vi a3), some (vi a4), some (vr a5), none] [] KS M Q) (k2 : ¬ (t0 = 0) → am_AtN m8_point 21 [some (vr 0), some (vi a1), some (vi a2), some (vi a3), some (vi a4), some (vr a5), none] [] KS M Q) : am_AtN m8_point 18 [some (vr 0), some (vi a1), some (vi a2), some (vi a3), some (vi a4), some (vr a5), none] [vi t0] KS M Q := by
  exact s_if_eq (tgt := 32) (show decode (am_cc m8_point) 18 = .ok (.ifCond .eq 14, 3) by decide +kernel) (by decide) k1 k2
theorem g8_point_21 {a1 a2 a3 a4 a5 : Int} {M : am_M} {Q : Option am_V → am_M → Prop} (k : am_CallN m8_within [vi a3, vi (M 0 0)] KS M (fun r M' => am_AtN m8_point 29 [some (vr 0), some (vi a1), some (vi a2), some (vi a3), some (vi a4), some (vr a5), none] (r.toList ++ []) KS M' Q)) : am_AtN m8_point 21 [some (vr 0), some (vi a1), some (vi a2), some (vi a3), some (vi a4), some (vr a5), none] [] KS M Q := by
  refine s_iload_n (show decode (am_cc m8_point) 21 = .ok (.iload_n 3, 1) by decide +kernel) rfl ?_
  refine s_aload_n (show decode (am_cc m8_point) 22 = .ok (.aload_n 0, 1) by decide +kernel) rfl ?_
  refine s_getf (k := 0) (v := vi (M 0 0)) (show decode (am_cc m8_point) 23 = .ok (.getfield 9, 3) by decide +kernel) kd0 (by decide) rfl jnX8 (by decide) lf_RX8_9 rfl ?_
  exact n_callS (as := [vi a3, vi (M 0 0)]) (stk := []) (show decode (am_cc m8_point) 26 = .ok (.invokestatic 114, 3) by decide +kernel) lk_RX8_114 (by decide) (Nat.le_of_ble_eq_true rfl) ⟨rfl, rfl⟩ k
theorem g8_point_29 {a1 a2 a3 a4 a5 t0 : Int} {M : am_M} {Q : Option am_V → am_M → Prop} (k1 : ¬ t0 = 0 → am_AtN m8_point 34 [some (vr 0), some (vi a1), some (vi a2), some (vi a3), some (vi a4), some (vr a5), none] [] KS M Q) (k2 : t0 = 0 → am_AtN m8_point 32 [some (vr 0), some (vi a1), some (vi a2), some (vi a3), some (vi a4), some (vr a5), none] [] KS M Q) : am_AtN m8_point 29 [some (vr 0), some (vi a1), some (vi a2), some (vi a3), some (vi a4), some (vr a5), none] [vi t0] KS M Q := by
  exact s_if_ne (tgt := 34) (show decode (am_cc m8_point) 29 = .ok (.ifCond .ne 5, 3) by decide +kernel) (by decide) k1 k2
theorem g8_point_32 {a1 a2 a3 a4 a5 : Int} {M : am_M} {Q : Option am_V → am_M → Prop} (k : Q (some (vi (-1))) M) : am_AtN m8_point 32 [some (vr 0), some (vi a1), some (vi a2), some (vi a3), some (vi a4), some (vr a5), none] [] KS M Q := by
  refine s_iconst (show decode (am_cc m8_point) 32 = .ok (.iconst (-1), 1) by decide +kernel) ⟨by decide, by decide⟩ ?_
  exact s_ireturn (show decode (am_cc m8_point) 33 = .ok (.ireturn, 1) by decide +kernel) rfl k
theorem g8_point_34 {a1 a2 a3 a4 a5 : Int} {M : am_M} {Q : Option am_V → am_M → Prop} (k : am_CallN m8_within [vi a4, vi 6] KS M (fun r M' => am_AtN m8_point 41 [some (vr 0), some (vi a1), some (vi a2), some (vi a3), some (vi a4), some (vr a5), none] (r.toList ++ []) KS M' Q)) : am_AtN m8_point 34 [some (vr 0), some (vi a1), some (vi a2), some (vi a3), some (vi a4), some (vr a5), none] [] KS M Q := by
  refine s_iload (show decode (am_cc m8_point) 34 = .ok (.iload 4, 2) by decide +kernel) rfl ?_
  refine s_bipush (show decode (am_cc m8_point) 36 = .ok (.bipush 6, 2) by decide +kernel) ⟨by decide, by decide⟩ (by decide) ?_
  exact n_callS (as := [vi a4, vi 6]) (stk := []) (show decode (am_cc m8_point) 38 = .ok (.invokestatic 114, 3) by decide +kernel) lk_RX8_114 (by decide) (Nat.le_of_ble_eq_true rfl) ⟨rfl, rfl⟩ k
theorem g8_point_41 {a1 a2 a3 a4 a5 t0 : Int} {M : am_M} {Q : Option am_V → am_M → Prop} (k1 : ¬ t0 = 0 → am_AtN m8_point 46 [some (vr 0), some (vi a1), some (vi a2), some (vi a3), some (vi a4), some (vr a5), none] [] KS M Q) (k2 : t0 = 0 → am_AtN m8_point 44 [some (vr 0), some (vi a1), some (vi a2), some (vi a3), some (vi a4), some (vr a5), none] [] KS M Q) : am_AtN m8_point 41 [some (vr 0), some (vi a1), some (vi a2), some (vi a3), some (vi a4), some (vr a5), none] [vi t0] KS M Q := by
  exact s_if_ne (tgt := 46) (show decode (am_cc m8_point) 41 = .ok (.ifCond .ne 5, 3) by decide +kernel) (by decide) k1 k2
theorem g8_point_44 {a1 a2 a3 a4 a5 : Int} {M : am_M} {Q : Option am_V → am_M → Prop} (k : Q (some (vi (-1))) M) : am_AtN m8_point 44 [some (vr 0), some (vi a1), some (vi a2), some (vi a3), some (vi a4), some (vr a5), none] [] KS M Q := by
  refine s_iconst (show decode (am_cc m8_point) 44 = .ok (.iconst (-1), 1) by decide +kernel) ⟨by decide, by decide⟩ ?_
  exact s_ireturn (show decode (am_cc m8_point) 45 = .ok (.ireturn, 1) by decide +kernel) rfl k
theorem g8_point_46 {a1 a2 a3 a4 a5 : Int} {M : am_M} {Q : Option am_V → am_M → Prop} {r0 : List Int} (h1 : am_kd KS a5 = some (6, 2, r0)) (k : am_CallN m6_nextOf [vr a5, vi a2, vi a3] KS M (fun r M' => am_AtN m8_point 53 [some (vr 0), some (vi a1), some (vi a2), some (vi a3), some (vi a4), some (vr a5), none] (r.toList ++ []) KS M' Q)) : am_AtN m8_point 46 [some (vr 0), some (vi a1), some (vi a2), some (vi a3), some (vi a4), some (vr a5), none] [] KS M Q := by
  refine s_aload (show decode (am_cc m8_point) 46 = .ok (.aload 5, 2) by decide +kernel) rfl ?_
  refine s_iload_n (show decode (am_cc m8_point) 48 = .ok (.iload_n 2, 1) by decide +kernel) rfl ?_
  refine s_iload_n (show decode (am_cc m8_point) 49 = .ok (.iload_n 3, 1) by decide +kernel) rfl ?_
  exact n_callV (as := [vi a2, vi a3]) (stk := []) (show decode (am_cc m8_point) 50 = .ok (.invokevirtual 118, 3) by decide +kernel) lk_RX8_118 h1 (by decide) rfl rfl (by decide) (Nat.le_of_ble_eq_true rfl) ⟨rfl, rfl⟩ k
theorem g8_point_53 {a1 a2 a3 a4 a5 t0 : Int} {M : am_M} {Q : Option am_V → am_M → Prop} {r0 : List Int} (h1 : am_kd KS a5 = some (6, 2, r0)) (k : am_CallN m6_lead [vr a5, vi a2, vi a3, vi a4] KS M (fun r M' => am_AtN m8_point 64 [some (vr 0), some (vi a1), some (vi a2), some (vi a3), some (vi a4), some (vr a5), some (vi t0)] (r.toList ++ []) KS M' Q)) : am_AtN m8_point 53 [some (vr 0), some (vi a1), some (vi a2), some (vi a3), some (vi a4), some (vr a5), none] [vi t0] KS M Q := by
  refine s_istore (show decode (am_cc m8_point) 53 = .ok (.istore 6, 2) by decide +kernel) (by decide) ?_
  refine s_aload (show decode (am_cc m8_point) 55 = .ok (.aload 5, 2) by decide +kernel) rfl ?_
  refine s_iload_n (show decode (am_cc m8_point) 57 = .ok (.iload_n 2, 1) by decide +kernel) rfl ?_
  refine s_iload_n (show decode (am_cc m8_point) 58 = .ok (.iload_n 3, 1) by decide +kernel) rfl ?_
  refine s_iload (show decode (am_cc m8_point) 59 = .ok (.iload 4, 2) by decide +kernel) rfl ?_
  exact n_callV (as := [vi a2, vi a3, vi a4]) (stk := []) (show decode (am_cc m8_point) 61 = .ok (.invokevirtual 122, 3) by decide +kernel) lk_RX8_122 h1 (by decide) rfl rfl (by decide) (Nat.le_of_ble_eq_true rfl) ⟨rfl, rfl⟩ k
theorem g8_point_64 {a1 a2 a3 a4 a5 a6 : Int} {M : am_M} {Q : Option am_V → am_M → Prop} (k : Q (some (vi a6)) M) : am_AtN m8_point 64 [some (vr 0), some (vi a1), some (vi a2), some (vi a3), some (vi a4), some (vr a5), some (vi a6)] [] KS M Q := by
  refine s_iload (show decode (am_cc m8_point) 64 = .ok (.iload 6, 2) by decide +kernel) rfl ?_
  exact s_ireturn (show decode (am_cc m8_point) 66 = .ok (.ireturn, 1) by decide +kernel) rfl k
theorem g8_holds_0 {a1 a2 a3 : Int} {M : am_M} {Q : Option am_V → am_M → Prop} (k : am_CallN m8_sentenceOf [vr 0, vi a1] KS M (fun r M' => am_AtN m8_holds 5 [some (vr 0), some (vi a1), some (vi a2), some (vi a3), none, none] (r.toList ++ []) KS M' Q)) : am_AtN m8_holds 0 [some (vr 0), some (vi a1), some (vi a2), some (vi a3), none, none] [] KS M Q := by
  refine s_aload_n (show decode (am_cc m8_holds) 0 = .ok (.aload_n 0, 1) by decide +kernel) rfl ?_
  refine s_iload_n (show decode (am_cc m8_holds) 1 = .ok (.iload_n 1, 1) by decide +kernel) rfl ?_
  exact n_callV (as := [vi a1]) (stk := []) (show decode (am_cc m8_holds) 2 = .ok (.invokevirtual 110, 3) by decide +kernel) lk_RX8_110 kd0 (by decide) rfl rfl (by decide) (Nat.le_of_ble_eq_true rfl) ⟨rfl, rfl⟩ k
theorem g8_holds_5 {a1 a2 a3 t0 : Int} {M : am_M} {Q : Option am_V → am_M → Prop} (k1 : t0 = -1 → am_AtN m8_holds 21 [some (vr 0), some (vi a1), some (vi a2), some (vi a3), some (vr t0), none] [] KS M Q) (k2 : ¬ t0 = -1 → am_AtN m8_holds 12 [some (vr 0), some (vi a1), some (vi a2), some (vi a3), some (vr t0), none] [] KS M Q) : am_AtN m8_holds 5 [some (vr 0), some (vi a1), some (vi a2), some (vi a3), none, none] [vr t0] KS M Q := by
  refine s_astore (show decode (am_cc m8_holds) 5 = .ok (.astore 4, 2) by decide +kernel) (by decide) ?_
  refine s_aload (show decode (am_cc m8_holds) 7 = .ok (.aload 4, 2) by decide +kernel) rfl ?_
  exact s_ifnull (tgt := 21) (show decode (am_cc m8_holds) 9 = .ok (.ifnull 12, 3) by decide +kernel) (by decide) k1 k2
theorem g8_holds_12 {a1 a2 a3 a4 : Int} {M : am_M} {Q : Option am_V → am_M → Prop} (k : am_CallN m8_within [vi a2, vi 6] KS M (fun r M' => am_AtN m8_holds 18 [some (vr 0), some (vi a1), some (vi a2), some (vi a3), some (vr a4), none] (r.toList ++ []) KS M' Q)) : am_AtN m8_holds 12 [some (vr 0), some (vi a1), some (vi a2), some (vi a3), some (vr a4), none] [] KS M Q := by
  refine s_iload_n (show decode (am_cc m8_holds) 12 = .ok (.iload_n 2, 1) by decide +kernel) rfl ?_
  refine s_bipush (show decode (am_cc m8_holds) 13 = .ok (.bipush 6, 2) by decide +kernel) ⟨by decide, by decide⟩ (by decide) ?_
  exact n_callS (as := [vi a2, vi 6]) (stk := []) (show decode (am_cc m8_holds) 15 = .ok (.invokestatic 114, 3) by decide +kernel) lk_RX8_114 (by decide) (Nat.le_of_ble_eq_true rfl) ⟨rfl, rfl⟩ k
theorem g8_holds_18 {a1 a2 a3 a4 t0 : Int} {M : am_M} {Q : Option am_V → am_M → Prop} (k1 : ¬ t0 = 0 → am_AtN m8_holds 23 [some (vr 0), some (vi a1), some (vi a2), some (vi a3), some (vr a4), none] [] KS M Q) (k2 : t0 = 0 → am_AtN m8_holds 21 [some (vr 0), some (vi a1), some (vi a2), some (vi a3), some (vr a4), none] [] KS M Q) : am_AtN m8_holds 18 [some (vr 0), some (vi a1), some (vi a2), some (vi a3), some (vr a4), none] [vi t0] KS M Q := by
  exact s_if_ne (tgt := 23) (show decode (am_cc m8_holds) 18 = .ok (.ifCond .ne 5, 3) by decide +kernel) (by decide) k1 k2
theorem g8_holds_21 {a1 a2 a3 a4 : Int} {M : am_M} {Q : Option am_V → am_M → Prop} (k : Q (some (vi (-1))) M) : am_AtN m8_holds 21 [some (vr 0), some (vi a1), some (vi a2), some (vi a3), some (vr a4), none] [] KS M Q := by
  refine s_iconst (show decode (am_cc m8_holds) 21 = .ok (.iconst (-1), 1) by decide +kernel) ⟨by decide, by decide⟩ ?_
  exact s_ireturn (show decode (am_cc m8_holds) 22 = .ok (.ireturn, 1) by decide +kernel) rfl k
theorem g8_holds_23 {a1 a2 a3 a4 : Int} {M : am_M} {Q : Option am_V → am_M → Prop} {r0 : List Int} (h1 : am_kd KS a4 = some (6, 2, r0)) (k : am_CallN m6_holdsAt [vr a4, vi a2] KS M (fun r M' => am_AtN m8_holds 29 [some (vr 0), some (vi a1), some (vi a2), some (vi a3), some (vr a4), none] (r.toList ++ []) KS M' Q)) : am_AtN m8_holds 23 [some (vr 0), some (vi a1), some (vi a2), some (vi a3), some (vr a4), none] [] KS M Q := by
  refine s_aload (show decode (am_cc m8_holds) 23 = .ok (.aload 4, 2) by decide +kernel) rfl ?_
  refine s_iload_n (show decode (am_cc m8_holds) 25 = .ok (.iload_n 2, 1) by decide +kernel) rfl ?_
  exact n_callV (as := [vi a2]) (stk := []) (show decode (am_cc m8_holds) 26 = .ok (.invokevirtual 126, 3) by decide +kernel) lk_RX8_126 h1 (by decide) rfl rfl (by decide) (Nat.le_of_ble_eq_true rfl) ⟨rfl, rfl⟩ k
theorem g8_holds_29 {a1 a2 a3 a4 t0 : Int} {M : am_M} {Q : Option am_V → am_M → Prop} (k : am_CallN m8_oneIf [vi t0] KS M (fun r M' => am_AtN m8_holds 32 [some (vr 0), some (vi a1), some (vi a2), some (vi a3), some (vr a4), none] (r.toList ++ []) KS M' Q)) : am_AtN m8_holds 29 [some (vr 0), some (vi a1), some (vi a2), some (vi a3), some (vr a4), none] [vi t0] KS M Q := by
  exact n_callS (as := [vi t0]) (stk := []) (show decode (am_cc m8_holds) 29 = .ok (.invokestatic 130, 3) by decide +kernel) lk_RX8_130 (by decide) (Nat.le_of_ble_eq_true rfl) ⟨rfl, rfl⟩ k
theorem g8_holds_32 {a1 a2 a3 a4 t0 : Int} {M : am_M} {Q : Option am_V → am_M → Prop} {r0 : List Int} (h1 : am_kd KS a4 = some (6, 2, r0)) (k : am_CallN m6_hold [vr a4, vi a2, vi a3] KS M (fun r M' => am_AtN m8_holds 41 [some (vr 0), some (vi a1), some (vi a2), some (vi a3), some (vr a4), some (vi t0)] (r.toList ++ []) KS M' Q)) : am_AtN m8_holds 32 [some (vr 0), some (vi a1), some (vi a2), some (vi a3), some (vr a4), none] [vi t0] KS M Q := by
  refine s_istore (show decode (am_cc m8_holds) 32 = .ok (.istore 5, 2) by decide +kernel) (by decide) ?_
  refine s_aload (show decode (am_cc m8_holds) 34 = .ok (.aload 4, 2) by decide +kernel) rfl ?_
  refine s_iload_n (show decode (am_cc m8_holds) 36 = .ok (.iload_n 2, 1) by decide +kernel) rfl ?_
  refine s_iload_n (show decode (am_cc m8_holds) 37 = .ok (.iload_n 3, 1) by decide +kernel) rfl ?_
  exact n_callV (as := [vi a2, vi a3]) (stk := []) (show decode (am_cc m8_holds) 38 = .ok (.invokevirtual 134, 3) by decide +kernel) lk_RX8_134 h1 (by decide) rfl rfl (by decide) (Nat.le_of_ble_eq_true rfl) ⟨rfl, rfl⟩ k
theorem g8_holds_41 {a1 a2 a3 a4 a5 : Int} {M : am_M} {Q : Option am_V → am_M → Prop} (k : Q (some (vi a5)) M) : am_AtN m8_holds 41 [some (vr 0), some (vi a1), some (vi a2), some (vi a3), some (vr a4), some (vi a5)] [] KS M Q := by
  refine s_iload (show decode (am_cc m8_holds) 41 = .ok (.iload 5, 2) by decide +kernel) rfl ?_
  exact s_ireturn (show decode (am_cc m8_holds) 43 = .ok (.ireturn, 1) by decide +kernel) rfl k
theorem g8_make_0 {a1 a2 a3 : Int} {M : am_M} {Q : Option am_V → am_M → Prop} (k : am_CallN m8_sentenceOf [vr 0, vi a1] KS M (fun r M' => am_AtN m8_make 5 [some (vr 0), some (vi a1), some (vi a2), some (vi a3), none, none] (r.toList ++ []) KS M' Q)) : am_AtN m8_make 0 [some (vr 0), some (vi a1), some (vi a2), some (vi a3), none, none] [] KS M Q := by
  refine s_aload_n (show decode (am_cc m8_make) 0 = .ok (.aload_n 0, 1) by decide +kernel) rfl ?_
  refine s_iload_n (show decode (am_cc m8_make) 1 = .ok (.iload_n 1, 1) by decide +kernel) rfl ?_
  exact n_callV (as := [vi a1]) (stk := []) (show decode (am_cc m8_make) 2 = .ok (.invokevirtual 110, 3) by decide +kernel) lk_RX8_110 kd0 (by decide) rfl rfl (by decide) (Nat.le_of_ble_eq_true rfl) ⟨rfl, rfl⟩ k
theorem g8_make_5 {a1 a2 a3 t0 : Int} {M : am_M} {Q : Option am_V → am_M → Prop} (k1 : ¬ t0 = -1 → am_AtN m8_make 14 [some (vr 0), some (vi a1), some (vi a2), some (vi a3), some (vr t0), none] [] KS M Q) (k2 : t0 = -1 → am_AtN m8_make 12 [some (vr 0), some (vi a1), some (vi a2), some (vi a3), some (vr t0), none] [] KS M Q) : am_AtN m8_make 5 [some (vr 0), some (vi a1), some (vi a2), some (vi a3), none, none] [vr t0] KS M Q := by
  refine s_astore (show decode (am_cc m8_make) 5 = .ok (.astore 4, 2) by decide +kernel) (by decide) ?_
  refine s_aload (show decode (am_cc m8_make) 7 = .ok (.aload 4, 2) by decide +kernel) rfl ?_
  exact s_ifnonnull (tgt := 14) (show decode (am_cc m8_make) 9 = .ok (.ifnonnull 5, 3) by decide +kernel) (by decide) k1 k2
theorem g8_make_12 {a1 a2 a3 a4 : Int} {M : am_M} {Q : Option am_V → am_M → Prop} (k : Q (some (vi (-1))) M) : am_AtN m8_make 12 [some (vr 0), some (vi a1), some (vi a2), some (vi a3), some (vr a4), none] [] KS M Q := by
  refine s_iconst (show decode (am_cc m8_make) 12 = .ok (.iconst (-1), 1) by decide +kernel) ⟨by decide, by decide⟩ ?_
  exact s_ireturn (show decode (am_cc m8_make) 13 = .ok (.ireturn, 1) by decide +kernel) rfl k
theorem g8_make_14 {a1 a2 a3 a4 : Int} {M : am_M} {Q : Option am_V → am_M → Prop} (k1 : a2 = 2 → am_AtN m8_make 35 [some (vr 0), some (vi a1), some (vi a2), some (vi a3), some (vr a4), none] [] KS M Q) (k2 : ¬ (a2 = 2) → am_AtN m8_make 19 [some (vr 0), some (vi a1), some (vi a2), some (vi a3), some (vr a4), none] [] KS M Q) : am_AtN m8_make 14 [some (vr 0), some (vi a1), some (vi a2), some (vi a3), some (vr a4), none] [] KS M Q := by
  refine s_iload_n (show decode (am_cc m8_make) 14 = .ok (.iload_n 2, 1) by decide +kernel) rfl ?_
  refine s_iconst (show decode (am_cc m8_make) 15 = .ok (.iconst 2, 1) by decide +kernel) ⟨by decide, by decide⟩ ?_
  exact s_icmp_eq (tgt := 35) (show decode (am_cc m8_make) 16 = .ok (.if_icmp .eq 19, 3) by decide +kernel) (by decide) k1 k2
theorem g8_make_19 {a1 a2 a3 a4 : Int} {M : am_M} {Q : Option am_V → am_M → Prop} (k1 : a2 = 4 → am_AtN m8_make 35 [some (vr 0), some (vi a1), some (vi a2), some (vi a3), some (vr a4), none] [] KS M Q) (k2 : ¬ (a2 = 4) → am_AtN m8_make 24 [some (vr 0), some (vi a1), some (vi a2), some (vi a3), some (vr a4), none] [] KS M Q) : am_AtN m8_make 19 [some (vr 0), some (vi a1), some (vi a2), some (vi a3), some (vr a4), none] [] KS M Q := by
  refine s_iload_n (show decode (am_cc m8_make) 19 = .ok (.iload_n 2, 1) by decide +kernel) rfl ?_
  refine s_iconst (show decode (am_cc m8_make) 20 = .ok (.iconst 4, 1) by decide +kernel) ⟨by decide, by decide⟩ ?_
  exact s_icmp_eq (tgt := 35) (show decode (am_cc m8_make) 21 = .ok (.if_icmp .eq 14, 3) by decide +kernel) (by decide) k1 k2
theorem g8_make_24 {a1 a2 a3 a4 : Int} {M : am_M} {Q : Option am_V → am_M → Prop} (k1 : a2 = 5 → am_AtN m8_make 35 [some (vr 0), some (vi a1), some (vi a2), some (vi a3), some (vr a4), none] [] KS M Q) (k2 : ¬ (a2 = 5) → am_AtN m8_make 29 [some (vr 0), some (vi a1), some (vi a2), some (vi a3), some (vr a4), none] [] KS M Q) : am_AtN m8_make 24 [some (vr 0), some (vi a1), some (vi a2), some (vi a3), some (vr a4), none] [] KS M Q := by
  refine s_iload_n (show decode (am_cc m8_make) 24 = .ok (.iload_n 2, 1) by decide +kernel) rfl ?_
  refine s_iconst (show decode (am_cc m8_make) 25 = .ok (.iconst 5, 1) by decide +kernel) ⟨by decide, by decide⟩ ?_
  exact s_icmp_eq (tgt := 35) (show decode (am_cc m8_make) 26 = .ok (.if_icmp .eq 9, 3) by decide +kernel) (by decide) k1 k2
theorem g8_make_29 {a1 a2 a3 a4 : Int} {M : am_M} {Q : Option am_V → am_M → Prop} (k1 : ¬ a2 = 6 → am_AtN m8_make 39 [some (vr 0), some (vi a1), some (vi a2), some (vi a3), some (vr a4), none] [] KS M Q) (k2 : a2 = 6 → am_AtN m8_make 35 [some (vr 0), some (vi a1), some (vi a2), some (vi a3), some (vr a4), none] [] KS M Q) : am_AtN m8_make 29 [some (vr 0), some (vi a1), some (vi a2), some (vi a3), some (vr a4), none] [] KS M Q := by
  refine s_iload_n (show decode (am_cc m8_make) 29 = .ok (.iload_n 2, 1) by decide +kernel) rfl ?_
  refine s_bipush (show decode (am_cc m8_make) 30 = .ok (.bipush 6, 2) by decide +kernel) ⟨by decide, by decide⟩ (by decide) ?_
  exact s_icmp_ne (tgt := 39) (show decode (am_cc m8_make) 32 = .ok (.if_icmp .ne 7, 3) by decide +kernel) (by decide) k1 k2
theorem g8_make_35 {a1 a2 a3 a4 : Int} {M : am_M} {Q : Option am_V → am_M → Prop} (k : am_AtN m8_make 40 [some (vr 0), some (vi a1), some (vi a2), some (vi a3), some (vr a4), none] [vi 1] KS M Q) : am_AtN m8_make 35 [some (vr 0), some (vi a1), some (vi a2), some (vi a3), some (vr a4), none] [] KS M Q := by
  refine s_iconst (show decode (am_cc m8_make) 35 = .ok (.iconst 1, 1) by decide +kernel) ⟨by decide, by decide⟩ ?_
  refine s_goto (tgt := 40) (show decode (am_cc m8_make) 36 = .ok (.goto 4, 3) by decide +kernel) (by decide) ?_
  exact k
theorem g8_make_39 {a1 a2 a3 a4 : Int} {M : am_M} {Q : Option am_V → am_M → Prop} (k : am_AtN m8_make 40 [some (vr 0), some (vi a1), some (vi a2), some (vi a3), some (vr a4), none] [vi 0] KS M Q) : am_AtN m8_make 39 [some (vr 0), some (vi a1), some (vi a2), some (vi a3), some (vr a4), none] [] KS M Q := by
  refine s_iconst (show decode (am_cc m8_make) 39 = .ok (.iconst 0, 1) by decide +kernel) ⟨by decide, by decide⟩ ?_
  exact k
theorem g8_make_40 {a1 a2 a3 a4 t0 : Int} {M : am_M} {Q : Option am_V → am_M → Prop} (k1 : t0 = 0 → am_AtN m8_make 60 [some (vr 0), some (vi a1), some (vi a2), some (vi a3), some (vr a4), some (vi t0)] [] KS M Q) (k2 : ¬ (t0 = 0) → am_AtN m8_make 47 [some (vr 0), some (vi a1), some (vi a2), some (vi a3), some (vr a4), some (vi t0)] [] KS M Q) : am_AtN m8_make 40 [some (vr 0), some (vi a1), some (vi a2), some (vi a3), some (vr a4), none] [vi t0] KS M Q := by
  refine s_istore (show decode (am_cc m8_make) 40 = .ok (.istore 5, 2) by decide +kernel) (by decide) ?_
  refine s_iload (show decode (am_cc m8_make) 42 = .ok (.iload 5, 2) by decide +kernel) rfl ?_
  exact s_if_eq (tgt := 60) (show decode (am_cc m8_make) 44 = .ok (.ifCond .eq 16, 3) by decide +kernel) (by decide) k1 k2
theorem g8_make_47 {a1 a2 a3 a4 a5 : Int} {M : am_M} {Q : Option am_V → am_M → Prop} (k : am_CallN m8_within [vi a3, vi (M 0 0)] KS M (fun r M' => am_AtN m8_make 55 [some (vr 0), some (vi a1), some (vi a2), some (vi a3), some (vr a4), some (vi a5)] (r.toList ++ []) KS M' Q)) : am_AtN m8_make 47 [some (vr 0), some (vi a1), some (vi a2), some (vi a3), some (vr a4), some (vi a5)] [] KS M Q := by
  refine s_iload_n (show decode (am_cc m8_make) 47 = .ok (.iload_n 3, 1) by decide +kernel) rfl ?_
  refine s_aload_n (show decode (am_cc m8_make) 48 = .ok (.aload_n 0, 1) by decide +kernel) rfl ?_
  refine s_getf (k := 0) (v := vi (M 0 0)) (show decode (am_cc m8_make) 49 = .ok (.getfield 9, 3) by decide +kernel) kd0 (by decide) rfl jnX8 (by decide) lf_RX8_9 rfl ?_
  exact n_callS (as := [vi a3, vi (M 0 0)]) (stk := []) (show decode (am_cc m8_make) 52 = .ok (.invokestatic 114, 3) by decide +kernel) lk_RX8_114 (by decide) (Nat.le_of_ble_eq_true rfl) ⟨rfl, rfl⟩ k
theorem g8_make_55 {a1 a2 a3 a4 a5 t0 : Int} {M : am_M} {Q : Option am_V → am_M → Prop} (k1 : ¬ t0 = 0 → am_AtN m8_make 60 [some (vr 0), some (vi a1), some (vi a2), some (vi a3), some (vr a4), some (vi a5)] [] KS M Q) (k2 : t0 = 0 → am_AtN m8_make 58 [some (vr 0), some (vi a1), some (vi a2), some (vi a3), some (vr a4), some (vi a5)] [] KS M Q) : am_AtN m8_make 55 [some (vr 0), some (vi a1), some (vi a2), some (vi a3), some (vr a4), some (vi a5)] [vi t0] KS M Q := by
  exact s_if_ne (tgt := 60) (show decode (am_cc m8_make) 55 = .ok (.ifCond .ne 5, 3) by decide +kernel) (by decide) k1 k2
theorem g8_make_58 {a1 a2 a3 a4 a5 : Int} {M : am_M} {Q : Option am_V → am_M → Prop} (k : Q (some (vi (-1))) M) : am_AtN m8_make 58 [some (vr 0), some (vi a1), some (vi a2), some (vi a3), some (vr a4), some (vi a5)] [] KS M Q := by
  refine s_iconst (show decode (am_cc m8_make) 58 = .ok (.iconst (-1), 1) by decide +kernel) ⟨by decide, by decide⟩ ?_
  exact s_ireturn (show decode (am_cc m8_make) 59 = .ok (.ireturn, 1) by decide +kernel) rfl k
theorem g8_make_60 {a1 a2 a3 a4 a5 : Int} {M : am_M} {Q : Option am_V → am_M → Prop} (k : am_CallN m8_within [vi a2, vi 8] KS M (fun r M' => am_AtN m8_make 66 [some (vr 0), some (vi a1), some (vi a2), some (vi a3), some (vr a4), some (vi a5)] (r.toList ++ []) KS M' Q)) : am_AtN m8_make 60 [some (vr 0), some (vi a1), some (vi a2), some (vi a3), some (vr a4), some (vi a5)] [] KS M Q := by
  refine s_iload_n (show decode (am_cc m8_make) 60 = .ok (.iload_n 2, 1) by decide +kernel) rfl ?_
  refine s_bipush (show decode (am_cc m8_make) 61 = .ok (.bipush 8, 2) by decide +kernel) ⟨by decide, by decide⟩ (by decide) ?_
  exact n_callS (as := [vi a2, vi 8]) (stk := []) (show decode (am_cc m8_make) 63 = .ok (.invokestatic 114, 3) by decide +kernel) lk_RX8_114 (by decide) (Nat.le_of_ble_eq_true rfl) ⟨rfl, rfl⟩ k
theorem g8_make_66 {a1 a2 a3 a4 a5 t0 : Int} {M : am_M} {Q : Option am_V → am_M → Prop} (k1 : ¬ t0 = 0 → am_AtN m8_make 72 [some (vr 0), some (vi a1), some (vi a2), some (vi a3), some (vr a4), some (vi a5)] [] KS M Q) (k2 : t0 = 0 → am_AtN m8_make 69 [some (vr 0), some (vi a1), some (vi a2), some (vi a3), some (vr a4), some (vi a5)] [] KS M Q) : am_AtN m8_make 66 [some (vr 0), some (vi a1), some (vi a2), some (vi a3), some (vr a4), some (vi a5)] [vi t0] KS M Q := by
  exact s_if_ne (tgt := 72) (show decode (am_cc m8_make) 66 = .ok (.ifCond .ne 6, 3) by decide +kernel) (by decide) k1 k2
theorem g8_make_69 {a1 a2 a3 a4 a5 : Int} {M : am_M} {Q : Option am_V → am_M → Prop} (k : Q (some (vi (-2))) M) : am_AtN m8_make 69 [some (vr 0), some (vi a1), some (vi a2), some (vi a3), some (vr a4), some (vi a5)] [] KS M Q := by
  refine s_bipush (show decode (am_cc m8_make) 69 = .ok (.bipush (-2), 2) by decide +kernel) ⟨by decide, by decide⟩ (by decide) ?_
  exact s_ireturn (show decode (am_cc m8_make) 71 = .ok (.ireturn, 1) by decide +kernel) rfl k
theorem g8_make_72 {a1 a2 a3 a4 a5 : Int} {M : am_M} {Q : Option am_V → am_M → Prop} (k1 : ¬ a2 = 3 → am_AtN m8_make 91 [some (vr 0), some (vi a1), some (vi a2), some (vi a3), some (vr a4), some (vi a5)] [] KS M Q) (k2 : a2 = 3 → am_AtN m8_make 77 [some (vr 0), some (vi a1), some (vi a2), some (vi a3), some (vr a4), some (vi a5)] [] KS M Q) : am_AtN m8_make 72 [some (vr 0), some (vi a1), some (vi a2), some (vi a3), some (vr a4), some (vi a5)] [] KS M Q := by
  refine s_iload_n (show decode (am_cc m8_make) 72 = .ok (.iload_n 2, 1) by decide +kernel) rfl ?_
  refine s_iconst (show decode (am_cc m8_make) 73 = .ok (.iconst 3, 1) by decide +kernel) ⟨by decide, by decide⟩ ?_
  exact s_icmp_ne (tgt := 91) (show decode (am_cc m8_make) 74 = .ok (.if_icmp .ne 17, 3) by decide +kernel) (by decide) k1 k2
theorem g8_make_77 {a1 a2 a3 a4 a5 : Int} {M : am_M} {Q : Option am_V → am_M → Prop} (k1 : a3 < 1 → am_AtN m8_make 88 [some (vr 0), some (vi a1), some (vi a2), some (vi a3), some (vr a4), some (vi a5)] [] KS M Q) (k2 : ¬ (a3 < 1) → am_AtN m8_make 82 [some (vr 0), some (vi a1), some (vi a2), some (vi a3), some (vr a4), some (vi a5)] [] KS M Q) : am_AtN m8_make 77 [some (vr 0), some (vi a1), some (vi a2), some (vi a3), some (vr a4), some (vi a5)] [] KS M Q := by
  refine s_iload_n (show decode (am_cc m8_make) 77 = .ok (.iload_n 3, 1) by decide +kernel) rfl ?_
  refine s_iconst (show decode (am_cc m8_make) 78 = .ok (.iconst 1, 1) by decide +kernel) ⟨by decide, by decide⟩ ?_
  exact s_icmp_lt (tgt := 88) (show decode (am_cc m8_make) 79 = .ok (.if_icmp .lt 9, 3) by decide +kernel) (by decide) k1 k2
theorem g8_make_82 {a1 a2 a3 a4 a5 : Int} {M : am_M} {Q : Option am_V → am_M → Prop} (k1 : a3 ≤ 6 → am_AtN m8_make 91 [some (vr 0), some (vi a1), some (vi a2), some (vi a3), some (vr a4), some (vi a5)] [] KS M Q) (k2 : ¬ (a3 ≤ 6) → am_AtN m8_make 88 [some (vr 0), some (vi a1), some (vi a2), some (vi a3), some (vr a4), some (vi a5)] [] KS M Q) : am_AtN m8_make 82 [some (vr 0), some (vi a1), some (vi a2), some (vi a3), some (vr a4), some (vi a5)] [] KS M Q := by
  refine s_iload_n (show decode (am_cc m8_make) 82 = .ok (.iload_n 3, 1) by decide +kernel) rfl ?_
  refine s_bipush (show decode (am_cc m8_make) 83 = .ok (.bipush 6, 2) by decide +kernel) ⟨by decide, by decide⟩ (by decide) ?_
  exact s_icmp_le (tgt := 91) (show decode (am_cc m8_make) 85 = .ok (.if_icmp .le 6, 3) by decide +kernel) (by decide) k1 k2
theorem g8_make_88 {a1 a2 a3 a4 a5 : Int} {M : am_M} {Q : Option am_V → am_M → Prop} (k : Q (some (vi (-2))) M) : am_AtN m8_make 88 [some (vr 0), some (vi a1), some (vi a2), some (vi a3), some (vr a4), some (vi a5)] [] KS M Q := by
  refine s_bipush (show decode (am_cc m8_make) 88 = .ok (.bipush (-2), 2) by decide +kernel) ⟨by decide, by decide⟩ (by decide) ?_
  exact s_ireturn (show decode (am_cc m8_make) 90 = .ok (.ireturn, 1) by decide +kernel) rfl k
theorem g8_make_91 {a1 a2 a3 a4 a5 : Int} {M : am_M} {Q : Option am_V → am_M → Prop} (k : am_CallN m6_draw [vr 51, vi a2, vi a3, vi (M 0 0)] KS M (fun r M' => am_AtN m8_make 104 [some (vr 0), some (vi a1), some (vi a2), some (vi a3), some (vr a4), some (vi a5)] (r.toList ++ []) KS M' Q)) : am_AtN m8_make 91 [some (vr 0), some (vi a1), some (vi a2), some (vi a3), some (vr a4), some (vi a5)] [] KS M Q := by
  refine s_aload_n (show decode (am_cc m8_make) 91 = .ok (.aload_n 0, 1) by decide +kernel) rfl ?_
  refine s_getf (k := 7) (v := vr 51) (show decode (am_cc m8_make) 92 = .ok (.getfield 42, 3) by decide +kernel) kd0 (by decide) rfl jnX8 (by decide) lf_RX8_42 rfl ?_
  refine s_iload_n (show decode (am_cc m8_make) 95 = .ok (.iload_n 2, 1) by decide +kernel) rfl ?_
  refine s_iload_n (show decode (am_cc m8_make) 96 = .ok (.iload_n 3, 1) by decide +kernel) rfl ?_
  refine s_aload_n (show decode (am_cc m8_make) 97 = .ok (.aload_n 0, 1) by decide +kernel) rfl ?_
  refine s_getf (k := 0) (v := vi (M 0 0)) (show decode (am_cc m8_make) 98 = .ok (.getfield 9, 3) by decide +kernel) kd0 (by decide) rfl jnX8 (by decide) lf_RX8_9 rfl ?_
  exact n_callV (as := [vi a2, vi a3, vi (M 0 0)]) (stk := []) (show decode (am_cc m8_make) 101 = .ok (.invokevirtual 138, 3) by decide +kernel) lk_RX8_138 kd51 (by decide) rfl rfl (by decide) (Nat.le_of_ble_eq_true rfl) ⟨rfl, rfl⟩ k
theorem g8_make_104 {a1 a2 a3 a4 a5 : Int} {M : am_M} {Q : Option am_V → am_M → Prop} (k : am_CallN m3_into [vr 60, vr a4, vr 51, vr 44, vi (M 0 0)] KS M (fun r M' => am_AtN m8_make 125 [some (vr 0), some (vi a1), some (vi a2), some (vi a3), some (vr a4), some (vi a5)] (r.toList ++ []) KS M' Q)) : am_AtN m8_make 104 [some (vr 0), some (vi a1), some (vi a2), some (vi a3), some (vr a4), some (vi a5)] [] KS M Q := by
  refine s_aload_n (show decode (am_cc m8_make) 104 = .ok (.aload_n 0, 1) by decide +kernel) rfl ?_
  refine s_getf (k := 11) (v := vr 60) (show decode (am_cc m8_make) 105 = .ok (.getfield 63, 3) by decide +kernel) kd0 (by decide) rfl jnX8 (by decide) lf_RX8_63 rfl ?_
  refine s_aload (show decode (am_cc m8_make) 108 = .ok (.aload 4, 2) by decide +kernel) rfl ?_
  refine s_aload_n (show decode (am_cc m8_make) 110 = .ok (.aload_n 0, 1) by decide +kernel) rfl ?_
  refine s_getf (k := 7) (v := vr 51) (show decode (am_cc m8_make) 111 = .ok (.getfield 42, 3) by decide +kernel) kd0 (by decide) rfl jnX8 (by decide) lf_RX8_42 rfl ?_
  refine s_aload_n (show decode (am_cc m8_make) 114 = .ok (.aload_n 0, 1) by decide +kernel) rfl ?_
  refine s_getf (k := 5) (v := vr 44) (show decode (am_cc m8_make) 115 = .ok (.getfield 34, 3) by decide +kernel) kd0 (by decide) rfl jnX8 (by decide) lf_RX8_34 rfl ?_
  refine s_aload_n (show decode (am_cc m8_make) 118 = .ok (.aload_n 0, 1) by decide +kernel) rfl ?_
  refine s_getf (k := 0) (v := vi (M 0 0)) (show decode (am_cc m8_make) 119 = .ok (.getfield 9, 3) by decide +kernel) kd0 (by decide) rfl jnX8 (by decide) lf_RX8_9 rfl ?_
  exact n_callV (as := [vr a4, vr 51, vr 44, vi (M 0 0)]) (stk := []) (show decode (am_cc m8_make) 122 = .ok (.invokevirtual 141, 3) by decide +kernel) lk_RX8_141 kd60 (by decide) rfl rfl (by decide) (Nat.le_of_ble_eq_true rfl) ⟨rfl, rfl⟩ k
theorem g8_make_125 {a1 a2 a3 a4 a5 t0 : Int} {M : am_M} {Q : Option am_V → am_M → Prop} (k : Q (some (vi t0)) M) : am_AtN m8_make 125 [some (vr 0), some (vi a1), some (vi a2), some (vi a3), some (vr a4), some (vi a5)] [vi t0] KS M Q := by
  exact s_ireturn (show decode (am_cc m8_make) 125 = .ok (.ireturn, 1) by decide +kernel) rfl k
theorem g8_not_0 {a1 a2 : Int} {M : am_M} {Q : Option am_V → am_M → Prop} (k : am_CallN m8_sentenceOf [vr 0, vi a1] KS M (fun r M' => am_AtN m8_not 5 [some (vr 0), some (vi a1), some (vi a2), none, none] (r.toList ++ []) KS M' Q)) : am_AtN m8_not 0 [some (vr 0), some (vi a1), some (vi a2), none, none] [] KS M Q := by
  refine s_aload_n (show decode (am_cc m8_not) 0 = .ok (.aload_n 0, 1) by decide +kernel) rfl ?_
  refine s_iload_n (show decode (am_cc m8_not) 1 = .ok (.iload_n 1, 1) by decide +kernel) rfl ?_
  exact n_callV (as := [vi a1]) (stk := []) (show decode (am_cc m8_not) 2 = .ok (.invokevirtual 110, 3) by decide +kernel) lk_RX8_110 kd0 (by decide) rfl rfl (by decide) (Nat.le_of_ble_eq_true rfl) ⟨rfl, rfl⟩ k
theorem g8_not_5 {a1 a2 t0 : Int} {M : am_M} {Q : Option am_V → am_M → Prop} (k : am_CallN m8_sentenceOf [vr 0, vi a2] KS M (fun r M' => am_AtN m8_not 11 [some (vr 0), some (vi a1), some (vi a2), some (vr t0), none] (r.toList ++ []) KS M' Q)) : am_AtN m8_not 5 [some (vr 0), some (vi a1), some (vi a2), none, none] [vr t0] KS M Q := by
  refine s_astore_n (show decode (am_cc m8_not) 5 = .ok (.astore_n 3, 1) by decide +kernel) (by decide) ?_
  refine s_aload_n (show decode (am_cc m8_not) 6 = .ok (.aload_n 0, 1) by decide +kernel) rfl ?_
  refine s_iload_n (show decode (am_cc m8_not) 7 = .ok (.iload_n 2, 1) by decide +kernel) rfl ?_
  exact n_callV (as := [vi a2]) (stk := []) (show decode (am_cc m8_not) 8 = .ok (.invokevirtual 110, 3) by decide +kernel) lk_RX8_110 kd0 (by decide) rfl rfl (by decide) (Nat.le_of_ble_eq_true rfl) ⟨rfl, rfl⟩ k
theorem g8_not_11 {a1 a2 a3 t0 : Int} {M : am_M} {Q : Option am_V → am_M → Prop} (k1 : a3 = -1 → am_AtN m8_not 22 [some (vr 0), some (vi a1), some (vi a2), some (vr a3), some (vr t0)] [] KS M Q) (k2 : ¬ a3 = -1 → am_AtN m8_not 17 [some (vr 0), some (vi a1), some (vi a2), some (vr a3), some (vr t0)] [] KS M Q) : am_AtN m8_not 11 [some (vr 0), some (vi a1), some (vi a2), some (vr a3), none] [vr t0] KS M Q := by
  refine s_astore (show decode (am_cc m8_not) 11 = .ok (.astore 4, 2) by decide +kernel) (by decide) ?_
  refine s_aload_n (show decode (am_cc m8_not) 13 = .ok (.aload_n 3, 1) by decide +kernel) rfl ?_
  exact s_ifnull (tgt := 22) (show decode (am_cc m8_not) 14 = .ok (.ifnull 8, 3) by decide +kernel) (by decide) k1 k2
theorem g8_not_17 {a1 a2 a3 a4 : Int} {M : am_M} {Q : Option am_V → am_M → Prop} (k1 : ¬ a4 = -1 → am_AtN m8_not 24 [some (vr 0), some (vi a1), some (vi a2), some (vr a3), some (vr a4)] [] KS M Q) (k2 : a4 = -1 → am_AtN m8_not 22 [some (vr 0), some (vi a1), some (vi a2), some (vr a3), some (vr a4)] [] KS M Q) : am_AtN m8_not 17 [some (vr 0), some (vi a1), some (vi a2), some (vr a3), some (vr a4)] [] KS M Q := by
  refine s_aload (show decode (am_cc m8_not) 17 = .ok (.aload 4, 2) by decide +kernel) rfl ?_
  exact s_ifnonnull (tgt := 24) (show decode (am_cc m8_not) 19 = .ok (.ifnonnull 5, 3) by decide +kernel) (by decide) k1 k2
theorem g8_not_22 {a1 a2 a3 a4 : Int} {M : am_M} {Q : Option am_V → am_M → Prop} (k : Q (some (vi (-1))) M) : am_AtN m8_not 22 [some (vr 0), some (vi a1), some (vi a2), some (vr a3), some (vr a4)] [] KS M Q := by
  refine s_iconst (show decode (am_cc m8_not) 22 = .ok (.iconst (-1), 1) by decide +kernel) ⟨by decide, by decide⟩ ?_
  exact s_ireturn (show decode (am_cc m8_not) 23 = .ok (.ireturn, 1) by decide +kernel) rfl k
theorem g8_not_24 {a1 a2 a3 a4 : Int} {M : am_M} {Q : Option am_V → am_M → Prop} {r0 : List Int} (h1 : am_kd KS a3 = some (6, 2, r0)) (k : am_CallN m6_copy [vr a3, vr a4] KS M (fun r M' => am_AtN m8_not 30 [some (vr 0), some (vi a1), some (vi a2), some (vr a3), some (vr a4)] (r.toList ++ []) KS M' Q)) : am_AtN m8_not 24 [some (vr 0), some (vi a1), some (vi a2), some (vr a3), some (vr a4)] [] KS M Q := by
  refine s_aload_n (show decode (am_cc m8_not) 24 = .ok (.aload_n 3, 1) by decide +kernel) rfl ?_
  refine s_aload (show decode (am_cc m8_not) 25 = .ok (.aload 4, 2) by decide +kernel) rfl ?_
  exact n_callV (as := [vr a4]) (stk := []) (show decode (am_cc m8_not) 27 = .ok (.invokevirtual 145, 3) by decide +kernel) lk_RX8_145 h1 (by decide) rfl rfl (by decide) (Nat.le_of_ble_eq_true rfl) ⟨rfl, rfl⟩ k
theorem g8_not_30 {a1 a2 a3 a4 : Int} {M : am_M} {Q : Option am_V → am_M → Prop} {r0 : List Int} (h1 : am_kd KS a3 = some (6, 2, r0)) (k : am_CallN m6_turnRound [vr a3] KS M (fun r M' => am_AtN m8_not 34 [some (vr 0), some (vi a1), some (vi a2), some (vr a3), some (vr a4)] (r.toList ++ []) KS M' Q)) : am_AtN m8_not 30 [some (vr 0), some (vi a1), some (vi a2), some (vr a3), some (vr a4)] [] KS M Q := by
  refine s_aload_n (show decode (am_cc m8_not) 30 = .ok (.aload_n 3, 1) by decide +kernel) rfl ?_
  exact n_callV (as := []) (stk := []) (show decode (am_cc m8_not) 31 = .ok (.invokevirtual 149, 3) by decide +kernel) lk_RX8_149 h1 (by decide) rfl rfl (by decide) (Nat.le_of_ble_eq_true rfl) ⟨rfl, rfl⟩ k
theorem g8_not_34 {a1 a2 a3 a4 t0 : Int} {M : am_M} {Q : Option am_V → am_M → Prop} (k : Q (some (vi t0)) M) : am_AtN m8_not 34 [some (vr 0), some (vi a1), some (vi a2), some (vr a3), some (vr a4)] [vi t0] KS M Q := by
  exact s_ireturn (show decode (am_cc m8_not) 34 = .ok (.ireturn, 1) by decide +kernel) rfl k
theorem g8_both_0 {a1 a2 a3 : Int} {M : am_M} {Q : Option am_V → am_M → Prop} (k : am_CallN m8_sentenceOf [vr 0, vi a1] KS M (fun r M' => am_AtN m8_both 5 [some (vr 0), some (vi a1), some (vi a2), some (vi a3), none, none, none] (r.toList ++ []) KS M' Q)) : am_AtN m8_both 0 [some (vr 0), some (vi a1), some (vi a2), some (vi a3), none, none, none] [] KS M Q := by
  refine s_aload_n (show decode (am_cc m8_both) 0 = .ok (.aload_n 0, 1) by decide +kernel) rfl ?_
  refine s_iload_n (show decode (am_cc m8_both) 1 = .ok (.iload_n 1, 1) by decide +kernel) rfl ?_
  exact n_callV (as := [vi a1]) (stk := []) (show decode (am_cc m8_both) 2 = .ok (.invokevirtual 110, 3) by decide +kernel) lk_RX8_110 kd0 (by decide) rfl rfl (by decide) (Nat.le_of_ble_eq_true rfl) ⟨rfl, rfl⟩ k
theorem g8_both_5 {a1 a2 a3 t0 : Int} {M : am_M} {Q : Option am_V → am_M → Prop} (k : am_CallN m8_sentenceOf [vr 0, vi a2] KS M (fun r M' => am_AtN m8_both 12 [some (vr 0), some (vi a1), some (vi a2), some (vi a3), some (vr t0), none, none] (r.toList ++ []) KS M' Q)) : am_AtN m8_both 5 [some (vr 0), some (vi a1), some (vi a2), some (vi a3), none, none, none] [vr t0] KS M Q := by
  refine s_astore (show decode (am_cc m8_both) 5 = .ok (.astore 4, 2) by decide +kernel) (by decide) ?_
  refine s_aload_n (show decode (am_cc m8_both) 7 = .ok (.aload_n 0, 1) by decide +kernel) rfl ?_
  refine s_iload_n (show decode (am_cc m8_both) 8 = .ok (.iload_n 2, 1) by decide +kernel) rfl ?_
  exact n_callV (as := [vi a2]) (stk := []) (show decode (am_cc m8_both) 9 = .ok (.invokevirtual 110, 3) by decide +kernel) lk_RX8_110 kd0 (by decide) rfl rfl (by decide) (Nat.le_of_ble_eq_true rfl) ⟨rfl, rfl⟩ k
theorem g8_both_12 {a1 a2 a3 a4 t0 : Int} {M : am_M} {Q : Option am_V → am_M → Prop} (k : am_CallN m8_sentenceOf [vr 0, vi a3] KS M (fun r M' => am_AtN m8_both 19 [some (vr 0), some (vi a1), some (vi a2), some (vi a3), some (vr a4), some (vr t0), none] (r.toList ++ []) KS M' Q)) : am_AtN m8_both 12 [some (vr 0), some (vi a1), some (vi a2), some (vi a3), some (vr a4), none, none] [vr t0] KS M Q := by
  refine s_astore (show decode (am_cc m8_both) 12 = .ok (.astore 5, 2) by decide +kernel) (by decide) ?_
  refine s_aload_n (show decode (am_cc m8_both) 14 = .ok (.aload_n 0, 1) by decide +kernel) rfl ?_
  refine s_iload_n (show decode (am_cc m8_both) 15 = .ok (.iload_n 3, 1) by decide +kernel) rfl ?_
  exact n_callV (as := [vi a3]) (stk := []) (show decode (am_cc m8_both) 16 = .ok (.invokevirtual 110, 3) by decide +kernel) lk_RX8_110 kd0 (by decide) rfl rfl (by decide) (Nat.le_of_ble_eq_true rfl) ⟨rfl, rfl⟩ k
theorem g8_both_19 {a1 a2 a3 a4 a5 t0 : Int} {M : am_M} {Q : Option am_V → am_M → Prop} (k1 : a4 = -1 → am_AtN m8_both 36 [some (vr 0), some (vi a1), some (vi a2), some (vi a3), some (vr a4), some (vr a5), some (vr t0)] [] KS M Q) (k2 : ¬ a4 = -1 → am_AtN m8_both 26 [some (vr 0), some (vi a1), some (vi a2), some (vi a3), some (vr a4), some (vr a5), some (vr t0)] [] KS M Q) : am_AtN m8_both 19 [some (vr 0), some (vi a1), some (vi a2), some (vi a3), some (vr a4), some (vr a5), none] [vr t0] KS M Q := by
  refine s_astore (show decode (am_cc m8_both) 19 = .ok (.astore 6, 2) by decide +kernel) (by decide) ?_
  refine s_aload (show decode (am_cc m8_both) 21 = .ok (.aload 4, 2) by decide +kernel) rfl ?_
  exact s_ifnull (tgt := 36) (show decode (am_cc m8_both) 23 = .ok (.ifnull 13, 3) by decide +kernel) (by decide) k1 k2
theorem g8_both_26 {a1 a2 a3 a4 a5 a6 : Int} {M : am_M} {Q : Option am_V → am_M → Prop} (k1 : a5 = -1 → am_AtN m8_both 36 [some (vr 0), some (vi a1), some (vi a2), some (vi a3), some (vr a4), some (vr a5), some (vr a6)] [] KS M Q) (k2 : ¬ a5 = -1 → am_AtN m8_both 31 [some (vr 0), some (vi a1), some (vi a2), some (vi a3), some (vr a4), some (vr a5), some (vr a6)] [] KS M Q) : am_AtN m8_both 26 [some (vr 0), some (vi a1), some (vi a2), some (vi a3), some (vr a4), some (vr a5), some (vr a6)] [] KS M Q := by
  refine s_aload (show decode (am_cc m8_both) 26 = .ok (.aload 5, 2) by decide +kernel) rfl ?_
  exact s_ifnull (tgt := 36) (show decode (am_cc m8_both) 28 = .ok (.ifnull 8, 3) by decide +kernel) (by decide) k1 k2
theorem g8_both_31 {a1 a2 a3 a4 a5 a6 : Int} {M : am_M} {Q : Option am_V → am_M → Prop} (k1 : ¬ a6 = -1 → am_AtN m8_both 38 [some (vr 0), some (vi a1), some (vi a2), some (vi a3), some (vr a4), some (vr a5), some (vr a6)] [] KS M Q) (k2 : a6 = -1 → am_AtN m8_both 36 [some (vr 0), some (vi a1), some (vi a2), some (vi a3), some (vr a4), some (vr a5), some (vr a6)] [] KS M Q) : am_AtN m8_both 31 [some (vr 0), some (vi a1), some (vi a2), some (vi a3), some (vr a4), some (vr a5), some (vr a6)] [] KS M Q := by
  refine s_aload (show decode (am_cc m8_both) 31 = .ok (.aload 6, 2) by decide +kernel) rfl ?_
  exact s_ifnonnull (tgt := 38) (show decode (am_cc m8_both) 33 = .ok (.ifnonnull 5, 3) by decide +kernel) (by decide) k1 k2
theorem g8_both_36 {a1 a2 a3 a4 a5 a6 : Int} {M : am_M} {Q : Option am_V → am_M → Prop} (k : Q (some (vi (-1))) M) : am_AtN m8_both 36 [some (vr 0), some (vi a1), some (vi a2), some (vi a3), some (vr a4), some (vr a5), some (vr a6)] [] KS M Q := by
  refine s_iconst (show decode (am_cc m8_both) 36 = .ok (.iconst (-1), 1) by decide +kernel) ⟨by decide, by decide⟩ ?_
  exact s_ireturn (show decode (am_cc m8_both) 37 = .ok (.ireturn, 1) by decide +kernel) rfl k
theorem g8_both_38 {a1 a2 a3 a4 a5 a6 : Int} {M : am_M} {Q : Option am_V → am_M → Prop} (k : am_CallN m3_into [vr 60, vr a4, vr a5, vr a6, vi (M 0 0)] KS M (fun r M' => am_AtN m8_both 55 [some (vr 0), some (vi a1), some (vi a2), some (vi a3), some (vr a4), some (vr a5), some (vr a6)] (r.toList ++ []) KS M' Q)) : am_AtN m8_both 38 [some (vr 0), some (vi a1), some (vi a2), some (vi a3), some (vr a4), some (vr a5), some (vr a6)] [] KS M Q := by
  refine s_aload_n (show decode (am_cc m8_both) 38 = .ok (.aload_n 0, 1) by decide +kernel) rfl ?_
  refine s_getf (k := 11) (v := vr 60) (show decode (am_cc m8_both) 39 = .ok (.getfield 63, 3) by decide +kernel) kd0 (by decide) rfl jnX8 (by decide) lf_RX8_63 rfl ?_
  refine s_aload (show decode (am_cc m8_both) 42 = .ok (.aload 4, 2) by decide +kernel) rfl ?_
  refine s_aload (show decode (am_cc m8_both) 44 = .ok (.aload 5, 2) by decide +kernel) rfl ?_
  refine s_aload (show decode (am_cc m8_both) 46 = .ok (.aload 6, 2) by decide +kernel) rfl ?_
  refine s_aload_n (show decode (am_cc m8_both) 48 = .ok (.aload_n 0, 1) by decide +kernel) rfl ?_
  refine s_getf (k := 0) (v := vi (M 0 0)) (show decode (am_cc m8_both) 49 = .ok (.getfield 9, 3) by decide +kernel) kd0 (by decide) rfl jnX8 (by decide) lf_RX8_9 rfl ?_
  exact n_callV (as := [vr a4, vr a5, vr a6, vi (M 0 0)]) (stk := []) (show decode (am_cc m8_both) 52 = .ok (.invokevirtual 141, 3) by decide +kernel) lk_RX8_141 kd60 (by decide) rfl rfl (by decide) (Nat.le_of_ble_eq_true rfl) ⟨rfl, rfl⟩ k
theorem g8_both_55 {a1 a2 a3 a4 a5 a6 t0 : Int} {M : am_M} {Q : Option am_V → am_M → Prop} (k : Q (some (vi t0)) M) : am_AtN m8_both 55 [some (vr 0), some (vi a1), some (vi a2), some (vi a3), some (vr a4), some (vr a5), some (vr a6)] [vi t0] KS M Q := by
  exact s_ireturn (show decode (am_cc m8_both) 55 = .ok (.ireturn, 1) by decide +kernel) rfl k
theorem g8_about_0 {a1 a2 a3 : Int} {M : am_M} {Q : Option am_V → am_M → Prop} (k : am_CallN m8_sentenceOf [vr 0, vi a1] KS M (fun r M' => am_AtN m8_about 5 [some (vr 0), some (vi a1), some (vi a2), some (vi a3), none] (r.toList ++ []) KS M' Q)) : am_AtN m8_about 0 [some (vr 0), some (vi a1), some (vi a2), some (vi a3), none] [] KS M Q := by
  refine s_aload_n (show decode (am_cc m8_about) 0 = .ok (.aload_n 0, 1) by decide +kernel) rfl ?_
  refine s_iload_n (show decode (am_cc m8_about) 1 = .ok (.iload_n 1, 1) by decide +kernel) rfl ?_
  exact n_callV (as := [vi a1]) (stk := []) (show decode (am_cc m8_about) 2 = .ok (.invokevirtual 110, 3) by decide +kernel) lk_RX8_110 kd0 (by decide) rfl rfl (by decide) (Nat.le_of_ble_eq_true rfl) ⟨rfl, rfl⟩ k
theorem g8_about_5 {a1 a2 a3 t0 : Int} {M : am_M} {Q : Option am_V → am_M → Prop} (k1 : t0 = -1 → am_AtN m8_about 21 [some (vr 0), some (vi a1), some (vi a2), some (vi a3), some (vr t0)] [] KS M Q) (k2 : ¬ t0 = -1 → am_AtN m8_about 12 [some (vr 0), some (vi a1), some (vi a2), some (vi a3), some (vr t0)] [] KS M Q) : am_AtN m8_about 5 [some (vr 0), some (vi a1), some (vi a2), some (vi a3), none] [vr t0] KS M Q := by
  refine s_astore (show decode (am_cc m8_about) 5 = .ok (.astore 4, 2) by decide +kernel) (by decide) ?_
  refine s_aload (show decode (am_cc m8_about) 7 = .ok (.aload 4, 2) by decide +kernel) rfl ?_
  exact s_ifnull (tgt := 21) (show decode (am_cc m8_about) 9 = .ok (.ifnull 12, 3) by decide +kernel) (by decide) k1 k2
theorem g8_about_12 {a1 a2 a3 a4 : Int} {M : am_M} {Q : Option am_V → am_M → Prop} (k : am_CallN m8_within [vi a2, vi 6] KS M (fun r M' => am_AtN m8_about 18 [some (vr 0), some (vi a1), some (vi a2), some (vi a3), some (vr a4)] (r.toList ++ []) KS M' Q)) : am_AtN m8_about 12 [some (vr 0), some (vi a1), some (vi a2), some (vi a3), some (vr a4)] [] KS M Q := by
  refine s_iload_n (show decode (am_cc m8_about) 12 = .ok (.iload_n 2, 1) by decide +kernel) rfl ?_
  refine s_bipush (show decode (am_cc m8_about) 13 = .ok (.bipush 6, 2) by decide +kernel) ⟨by decide, by decide⟩ (by decide) ?_
  exact n_callS (as := [vi a2, vi 6]) (stk := []) (show decode (am_cc m8_about) 15 = .ok (.invokestatic 114, 3) by decide +kernel) lk_RX8_114 (by decide) (Nat.le_of_ble_eq_true rfl) ⟨rfl, rfl⟩ k
theorem g8_about_18 {a1 a2 a3 a4 t0 : Int} {M : am_M} {Q : Option am_V → am_M → Prop} (k1 : ¬ t0 = 0 → am_AtN m8_about 23 [some (vr 0), some (vi a1), some (vi a2), some (vi a3), some (vr a4)] [] KS M Q) (k2 : t0 = 0 → am_AtN m8_about 21 [some (vr 0), some (vi a1), some (vi a2), some (vi a3), some (vr a4)] [] KS M Q) : am_AtN m8_about 18 [some (vr 0), some (vi a1), some (vi a2), some (vi a3), some (vr a4)] [vi t0] KS M Q := by
  exact s_if_ne (tgt := 23) (show decode (am_cc m8_about) 18 = .ok (.ifCond .ne 5, 3) by decide +kernel) (by decide) k1 k2
theorem g8_about_21 {a1 a2 a3 a4 : Int} {M : am_M} {Q : Option am_V → am_M → Prop} (k : Q (some (vi (-1))) M) : am_AtN m8_about 21 [some (vr 0), some (vi a1), some (vi a2), some (vi a3), some (vr a4)] [] KS M Q := by
  refine s_iconst (show decode (am_cc m8_about) 21 = .ok (.iconst (-1), 1) by decide +kernel) ⟨by decide, by decide⟩ ?_
  exact s_ireturn (show decode (am_cc m8_about) 22 = .ok (.ireturn, 1) by decide +kernel) rfl k
theorem g8_about_23 {a1 a2 a3 a4 : Int} {M : am_M} {Q : Option am_V → am_M → Prop} (k1 : ¬ a3 = M 0 0 → am_AtN m8_about 41 [some (vr 0), some (vi a1), some (vi a2), some (vi a3), some (vr a4)] [] KS M Q) (k2 : a3 = M 0 0 → am_AtN m8_about 31 [some (vr 0), some (vi a1), some (vi a2), some (vi a3), some (vr a4)] [] KS M Q) : am_AtN m8_about 23 [some (vr 0), some (vi a1), some (vi a2), some (vi a3), some (vr a4)] [] KS M Q := by
  refine s_iload_n (show decode (am_cc m8_about) 23 = .ok (.iload_n 3, 1) by decide +kernel) rfl ?_
  refine s_aload_n (show decode (am_cc m8_about) 24 = .ok (.aload_n 0, 1) by decide +kernel) rfl ?_
  refine s_getf (k := 0) (v := vi (M 0 0)) (show decode (am_cc m8_about) 25 = .ok (.getfield 9, 3) by decide +kernel) kd0 (by decide) rfl jnX8 (by decide) lf_RX8_9 rfl ?_
  exact s_icmp_ne (tgt := 41) (show decode (am_cc m8_about) 28 = .ok (.if_icmp .ne 13, 3) by decide +kernel) (by decide) k1 k2
theorem g8_about_31 {a1 a2 a3 a4 : Int} {M : am_M} {Q : Option am_V → am_M → Prop} {r0 : List Int} (h1 : am_kd KS a4 = some (6, 2, r0)) (k : am_CallN m6_holdsAt [vr a4, vi a2] KS M (fun r M' => am_AtN m8_about 37 [some (vr 0), some (vi a1), some (vi a2), some (vi a3), some (vr a4)] (r.toList ++ []) KS M' Q)) : am_AtN m8_about 31 [some (vr 0), some (vi a1), some (vi a2), some (vi a3), some (vr a4)] [] KS M Q := by
  refine s_aload (show decode (am_cc m8_about) 31 = .ok (.aload 4, 2) by decide +kernel) rfl ?_
  refine s_iload_n (show decode (am_cc m8_about) 33 = .ok (.iload_n 2, 1) by decide +kernel) rfl ?_
  exact n_callV (as := [vi a2]) (stk := []) (show decode (am_cc m8_about) 34 = .ok (.invokevirtual 126, 3) by decide +kernel) lk_RX8_126 h1 (by decide) rfl rfl (by decide) (Nat.le_of_ble_eq_true rfl) ⟨rfl, rfl⟩ k
theorem g8_about_37 {a1 a2 a3 a4 t0 : Int} {M : am_M} {Q : Option am_V → am_M → Prop} (k : am_CallN m8_oneIf [vi t0] KS M (fun r M' => am_AtN m8_about 40 [some (vr 0), some (vi a1), some (vi a2), some (vi a3), some (vr a4)] (r.toList ++ []) KS M' Q)) : am_AtN m8_about 37 [some (vr 0), some (vi a1), some (vi a2), some (vi a3), some (vr a4)] [vi t0] KS M Q := by
  exact n_callS (as := [vi t0]) (stk := []) (show decode (am_cc m8_about) 37 = .ok (.invokestatic 130, 3) by decide +kernel) lk_RX8_130 (by decide) (Nat.le_of_ble_eq_true rfl) ⟨rfl, rfl⟩ k
theorem g8_about_40 {a1 a2 a3 a4 t0 : Int} {M : am_M} {Q : Option am_V → am_M → Prop} (k : Q (some (vi t0)) M) : am_AtN m8_about 40 [some (vr 0), some (vi a1), some (vi a2), some (vi a3), some (vr a4)] [vi t0] KS M Q := by
  exact s_ireturn (show decode (am_cc m8_about) 40 = .ok (.ireturn, 1) by decide +kernel) rfl k
theorem g8_about_41 {a1 a2 a3 a4 : Int} {M : am_M} {Q : Option am_V → am_M → Prop} (k : am_CallN m8_within [vi a3, vi (M 0 0)] KS M (fun r M' => am_AtN m8_about 49 [some (vr 0), some (vi a1), some (vi a2), some (vi a3), some (vr a4)] (r.toList ++ []) KS M' Q)) : am_AtN m8_about 41 [some (vr 0), some (vi a1), some (vi a2), some (vi a3), some (vr a4)] [] KS M Q := by
  refine s_iload_n (show decode (am_cc m8_about) 41 = .ok (.iload_n 3, 1) by decide +kernel) rfl ?_
  refine s_aload_n (show decode (am_cc m8_about) 42 = .ok (.aload_n 0, 1) by decide +kernel) rfl ?_
  refine s_getf (k := 0) (v := vi (M 0 0)) (show decode (am_cc m8_about) 43 = .ok (.getfield 9, 3) by decide +kernel) kd0 (by decide) rfl jnX8 (by decide) lf_RX8_9 rfl ?_
  exact n_callS (as := [vi a3, vi (M 0 0)]) (stk := []) (show decode (am_cc m8_about) 46 = .ok (.invokestatic 114, 3) by decide +kernel) lk_RX8_114 (by decide) (Nat.le_of_ble_eq_true rfl) ⟨rfl, rfl⟩ k
theorem g8_about_49 {a1 a2 a3 a4 t0 : Int} {M : am_M} {Q : Option am_V → am_M → Prop} (k1 : t0 = 0 → am_AtN m8_about 62 [some (vr 0), some (vi a1), some (vi a2), some (vi a3), some (vr a4)] [] KS M Q) (k2 : ¬ (t0 = 0) → am_AtN m8_about 52 [some (vr 0), some (vi a1), some (vi a2), some (vi a3), some (vr a4)] [] KS M Q) : am_AtN m8_about 49 [some (vr 0), some (vi a1), some (vi a2), some (vi a3), some (vr a4)] [vi t0] KS M Q := by
  exact s_if_eq (tgt := 62) (show decode (am_cc m8_about) 49 = .ok (.ifCond .eq 13, 3) by decide +kernel) (by decide) k1 k2
theorem g8_about_52 {a1 a2 a3 a4 : Int} {M : am_M} {Q : Option am_V → am_M → Prop} {r0 : List Int} (h1 : am_kd KS a4 = some (6, 2, r0)) (k : am_CallN m6_nextOf [vr a4, vi a2, vi a3] KS M (fun r M' => am_AtN m8_about 59 [some (vr 0), some (vi a1), some (vi a2), some (vi a3), some (vr a4)] (r.toList ++ []) KS M' Q)) : am_AtN m8_about 52 [some (vr 0), some (vi a1), some (vi a2), some (vi a3), some (vr a4)] [] KS M Q := by
  refine s_aload (show decode (am_cc m8_about) 52 = .ok (.aload 4, 2) by decide +kernel) rfl ?_
  refine s_iload_n (show decode (am_cc m8_about) 54 = .ok (.iload_n 2, 1) by decide +kernel) rfl ?_
  refine s_iload_n (show decode (am_cc m8_about) 55 = .ok (.iload_n 3, 1) by decide +kernel) rfl ?_
  exact n_callV (as := [vi a2, vi a3]) (stk := []) (show decode (am_cc m8_about) 56 = .ok (.invokevirtual 118, 3) by decide +kernel) lk_RX8_118 h1 (by decide) rfl rfl (by decide) (Nat.le_of_ble_eq_true rfl) ⟨rfl, rfl⟩ k
theorem g8_about_59 {a1 a2 a3 a4 t0 : Int} {M : am_M} {Q : Option am_V → am_M → Prop} (k : am_AtN m8_about 63 [some (vr 0), some (vi a1), some (vi a2), some (vi a3), some (vr a4)] [vi t0] KS M Q) : am_AtN m8_about 59 [some (vr 0), some (vi a1), some (vi a2), some (vi a3), some (vr a4)] [vi t0] KS M Q := by
  refine s_goto (tgt := 63) (show decode (am_cc m8_about) 59 = .ok (.goto 4, 3) by decide +kernel) (by decide) ?_
  exact k
theorem g8_about_62 {a1 a2 a3 a4 : Int} {M : am_M} {Q : Option am_V → am_M → Prop} (k : am_AtN m8_about 63 [some (vr 0), some (vi a1), some (vi a2), some (vi a3), some (vr a4)] [vi (-1)] KS M Q) : am_AtN m8_about 62 [some (vr 0), some (vi a1), some (vi a2), some (vi a3), some (vr a4)] [] KS M Q := by
  refine s_iconst (show decode (am_cc m8_about) 62 = .ok (.iconst (-1), 1) by decide +kernel) ⟨by decide, by decide⟩ ?_
  exact k
theorem g8_about_63 {a1 a2 a3 a4 t0 : Int} {M : am_M} {Q : Option am_V → am_M → Prop} (k : Q (some (vi t0)) M) : am_AtN m8_about 63 [some (vr 0), some (vi a1), some (vi a2), some (vi a3), some (vr a4)] [vi t0] KS M Q := by
  exact s_ireturn (show decode (am_cc m8_about) 63 = .ok (.ireturn, 1) by decide +kernel) rfl k
theorem g8_spot_0 {a1 a2 a3 a4 a5 : Int} {M : am_M} {Q : Option am_V → am_M → Prop} (k : am_CallN m8_programOf [vr 0, vi a1] KS M (fun r M' => am_AtN m8_spot 5 [some (vr 0), some (vi a1), some (vi a2), some (vi a3), some (vi a4), some (vi a5), none, none] (r.toList ++ []) KS M' Q)) : am_AtN m8_spot 0 [some (vr 0), some (vi a1), some (vi a2), some (vi a3), some (vi a4), some (vi a5), none, none] [] KS M Q := by
  refine s_aload_n (show decode (am_cc m8_spot) 0 = .ok (.aload_n 0, 1) by decide +kernel) rfl ?_
  refine s_iload_n (show decode (am_cc m8_spot) 1 = .ok (.iload_n 1, 1) by decide +kernel) rfl ?_
  exact n_callV (as := [vi a1]) (stk := []) (show decode (am_cc m8_spot) 2 = .ok (.invokevirtual 153, 3) by decide +kernel) lk_RX8_153 kd0 (by decide) rfl rfl (by decide) (Nat.le_of_ble_eq_true rfl) ⟨rfl, rfl⟩ k
theorem g8_spot_5 {a1 a2 a3 a4 a5 t0 : Int} {M : am_M} {Q : Option am_V → am_M → Prop} (k1 : t0 = -1 → am_AtN m8_spot 32 [some (vr 0), some (vi a1), some (vi a2), some (vi a3), some (vi a4), some (vi a5), some (vr t0), none] [] KS M Q) (k2 : ¬ t0 = -1 → am_AtN m8_spot 12 [some (vr 0), some (vi a1), some (vi a2), some (vi a3), some (vi a4), some (vi a5), some (vr t0), none] [] KS M Q) : am_AtN m8_spot 5 [some (vr 0), some (vi a1), some (vi a2), some (vi a3), some (vi a4), some (vi a5), none, none] [vr t0] KS M Q := by
  refine s_astore (show decode (am_cc m8_spot) 5 = .ok (.astore 6, 2) by decide +kernel) (by decide) ?_
  refine s_aload (show decode (am_cc m8_spot) 7 = .ok (.aload 6, 2) by decide +kernel) rfl ?_
  exact s_ifnull (tgt := 32) (show decode (am_cc m8_spot) 9 = .ok (.ifnull 23, 3) by decide +kernel) (by decide) k1 k2
theorem g8_spot_12 {a1 a2 a3 a4 a5 a6 : Int} {M : am_M} {Q : Option am_V → am_M → Prop} (k : am_CallN m8_within [vi a2, vi 6] KS M (fun r M' => am_AtN m8_spot 18 [some (vr 0), some (vi a1), some (vi a2), some (vi a3), some (vi a4), some (vi a5), some (vr a6), none] (r.toList ++ []) KS M' Q)) : am_AtN m8_spot 12 [some (vr 0), some (vi a1), some (vi a2), some (vi a3), some (vi a4), some (vi a5), some (vr a6), none] [] KS M Q := by
  refine s_iload_n (show decode (am_cc m8_spot) 12 = .ok (.iload_n 2, 1) by decide +kernel) rfl ?_
  refine s_bipush (show decode (am_cc m8_spot) 13 = .ok (.bipush 6, 2) by decide +kernel) ⟨by decide, by decide⟩ (by decide) ?_
  exact n_callS (as := [vi a2, vi 6]) (stk := []) (show decode (am_cc m8_spot) 15 = .ok (.invokestatic 114, 3) by decide +kernel) lk_RX8_114 (by decide) (Nat.le_of_ble_eq_true rfl) ⟨rfl, rfl⟩ k
theorem g8_spot_18 {a1 a2 a3 a4 a5 a6 t0 : Int} {M : am_M} {Q : Option am_V → am_M → Prop} (k1 : t0 = 0 → am_AtN m8_spot 32 [some (vr 0), some (vi a1), some (vi a2), some (vi a3), some (vi a4), some (vi a5), some (vr a6), none] [] KS M Q) (k2 : ¬ (t0 = 0) → am_AtN m8_spot 21 [some (vr 0), some (vi a1), some (vi a2), some (vi a3), some (vi a4), some (vi a5), some (vr a6), none] [] KS M Q) : am_AtN m8_spot 18 [some (vr 0), some (vi a1), some (vi a2), some (vi a3), some (vi a4), some (vi a5), some (vr a6), none] [vi t0] KS M Q := by
  exact s_if_eq (tgt := 32) (show decode (am_cc m8_spot) 18 = .ok (.ifCond .eq 14, 3) by decide +kernel) (by decide) k1 k2
theorem g8_spot_21 {a1 a2 a3 a4 a5 a6 : Int} {M : am_M} {Q : Option am_V → am_M → Prop} (k : am_CallN m8_within [vi a3, vi (M 0 0)] KS M (fun r M' => am_AtN m8_spot 29 [some (vr 0), some (vi a1), some (vi a2), some (vi a3), some (vi a4), some (vi a5), some (vr a6), none] (r.toList ++ []) KS M' Q)) : am_AtN m8_spot 21 [some (vr 0), some (vi a1), some (vi a2), some (vi a3), some (vi a4), some (vi a5), some (vr a6), none] [] KS M Q := by
  refine s_iload_n (show decode (am_cc m8_spot) 21 = .ok (.iload_n 3, 1) by decide +kernel) rfl ?_
  refine s_aload_n (show decode (am_cc m8_spot) 22 = .ok (.aload_n 0, 1) by decide +kernel) rfl ?_
  refine s_getf (k := 0) (v := vi (M 0 0)) (show decode (am_cc m8_spot) 23 = .ok (.getfield 9, 3) by decide +kernel) kd0 (by decide) rfl jnX8 (by decide) lf_RX8_9 rfl ?_
  exact n_callS (as := [vi a3, vi (M 0 0)]) (stk := []) (show decode (am_cc m8_spot) 26 = .ok (.invokestatic 114, 3) by decide +kernel) lk_RX8_114 (by decide) (Nat.le_of_ble_eq_true rfl) ⟨rfl, rfl⟩ k
theorem g8_spot_29 {a1 a2 a3 a4 a5 a6 t0 : Int} {M : am_M} {Q : Option am_V → am_M → Prop} (k1 : ¬ t0 = 0 → am_AtN m8_spot 34 [some (vr 0), some (vi a1), some (vi a2), some (vi a3), some (vi a4), some (vi a5), some (vr a6), none] [] KS M Q) (k2 : t0 = 0 → am_AtN m8_spot 32 [some (vr 0), some (vi a1), some (vi a2), some (vi a3), some (vi a4), some (vi a5), some (vr a6), none] [] KS M Q) : am_AtN m8_spot 29 [some (vr 0), some (vi a1), some (vi a2), some (vi a3), some (vi a4), some (vi a5), some (vr a6), none] [vi t0] KS M Q := by
  exact s_if_ne (tgt := 34) (show decode (am_cc m8_spot) 29 = .ok (.ifCond .ne 5, 3) by decide +kernel) (by decide) k1 k2
theorem g8_spot_32 {a1 a2 a3 a4 a5 a6 : Int} {M : am_M} {Q : Option am_V → am_M → Prop} (k : Q (some (vi (-1))) M) : am_AtN m8_spot 32 [some (vr 0), some (vi a1), some (vi a2), some (vi a3), some (vi a4), some (vi a5), some (vr a6), none] [] KS M Q := by
  refine s_iconst (show decode (am_cc m8_spot) 32 = .ok (.iconst (-1), 1) by decide +kernel) ⟨by decide, by decide⟩ ?_
  exact s_ireturn (show decode (am_cc m8_spot) 33 = .ok (.ireturn, 1) by decide +kernel) rfl k
theorem g8_spot_34 {a1 a2 a3 a4 a5 a6 : Int} {M : am_M} {Q : Option am_V → am_M → Prop} (k : am_CallN m8_within [vi a4, vi 6] KS M (fun r M' => am_AtN m8_spot 41 [some (vr 0), some (vi a1), some (vi a2), some (vi a3), some (vi a4), some (vi a5), some (vr a6), none] (r.toList ++ []) KS M' Q)) : am_AtN m8_spot 34 [some (vr 0), some (vi a1), some (vi a2), some (vi a3), some (vi a4), some (vi a5), some (vr a6), none] [] KS M Q := by
  refine s_iload (show decode (am_cc m8_spot) 34 = .ok (.iload 4, 2) by decide +kernel) rfl ?_
  refine s_bipush (show decode (am_cc m8_spot) 36 = .ok (.bipush 6, 2) by decide +kernel) ⟨by decide, by decide⟩ (by decide) ?_
  exact n_callS (as := [vi a4, vi 6]) (stk := []) (show decode (am_cc m8_spot) 38 = .ok (.invokestatic 114, 3) by decide +kernel) lk_RX8_114 (by decide) (Nat.le_of_ble_eq_true rfl) ⟨rfl, rfl⟩ k
theorem g8_spot_41 {a1 a2 a3 a4 a5 a6 t0 : Int} {M : am_M} {Q : Option am_V → am_M → Prop} (k1 : ¬ t0 = 0 → am_AtN m8_spot 46 [some (vr 0), some (vi a1), some (vi a2), some (vi a3), some (vi a4), some (vi a5), some (vr a6), none] [] KS M Q) (k2 : t0 = 0 → am_AtN m8_spot 44 [some (vr 0), some (vi a1), some (vi a2), some (vi a3), some (vi a4), some (vi a5), some (vr a6), none] [] KS M Q) : am_AtN m8_spot 41 [some (vr 0), some (vi a1), some (vi a2), some (vi a3), some (vi a4), some (vi a5), some (vr a6), none] [vi t0] KS M Q := by
  exact s_if_ne (tgt := 46) (show decode (am_cc m8_spot) 41 = .ok (.ifCond .ne 5, 3) by decide +kernel) (by decide) k1 k2
theorem g8_spot_44 {a1 a2 a3 a4 a5 a6 : Int} {M : am_M} {Q : Option am_V → am_M → Prop} (k : Q (some (vi (-1))) M) : am_AtN m8_spot 44 [some (vr 0), some (vi a1), some (vi a2), some (vi a3), some (vi a4), some (vi a5), some (vr a6), none] [] KS M Q := by
  refine s_iconst (show decode (am_cc m8_spot) 44 = .ok (.iconst (-1), 1) by decide +kernel) ⟨by decide, by decide⟩ ?_
  exact s_ireturn (show decode (am_cc m8_spot) 45 = .ok (.ireturn, 1) by decide +kernel) rfl k
theorem g8_spot_46 {a1 a2 a3 a4 a5 a6 : Int} {M : am_M} {Q : Option am_V → am_M → Prop} (k : am_CallN m8_isWord [vi a5, vi (M 0 0)] KS M (fun r M' => am_AtN m8_spot 55 [some (vr 0), some (vi a1), some (vi a2), some (vi a3), some (vi a4), some (vi a5), some (vr a6), none] (r.toList ++ []) KS M' Q)) : am_AtN m8_spot 46 [some (vr 0), some (vi a1), some (vi a2), some (vi a3), some (vi a4), some (vi a5), some (vr a6), none] [] KS M Q := by
  refine s_iload (show decode (am_cc m8_spot) 46 = .ok (.iload 5, 2) by decide +kernel) rfl ?_
  refine s_aload_n (show decode (am_cc m8_spot) 48 = .ok (.aload_n 0, 1) by decide +kernel) rfl ?_
  refine s_getf (k := 0) (v := vi (M 0 0)) (show decode (am_cc m8_spot) 49 = .ok (.getfield 9, 3) by decide +kernel) kd0 (by decide) rfl jnX8 (by decide) lf_RX8_9 rfl ?_
  exact n_callS (as := [vi a5, vi (M 0 0)]) (stk := []) (show decode (am_cc m8_spot) 52 = .ok (.invokestatic 157, 3) by decide +kernel) lk_RX8_157 (by decide) (Nat.le_of_ble_eq_true rfl) ⟨rfl, rfl⟩ k
theorem g8_spot_55 {a1 a2 a3 a4 a5 a6 t0 : Int} {M : am_M} {Q : Option am_V → am_M → Prop} (k1 : ¬ t0 = 0 → am_AtN m8_spot 61 [some (vr 0), some (vi a1), some (vi a2), some (vi a3), some (vi a4), some (vi a5), some (vr a6), none] [] KS M Q) (k2 : t0 = 0 → am_AtN m8_spot 58 [some (vr 0), some (vi a1), some (vi a2), some (vi a3), some (vi a4), some (vi a5), some (vr a6), none] [] KS M Q) : am_AtN m8_spot 55 [some (vr 0), some (vi a1), some (vi a2), some (vi a3), some (vi a4), some (vi a5), some (vr a6), none] [vi t0] KS M Q := by
  exact s_if_ne (tgt := 61) (show decode (am_cc m8_spot) 55 = .ok (.ifCond .ne 6, 3) by decide +kernel) (by decide) k1 k2
theorem g8_spot_58 {a1 a2 a3 a4 a5 a6 : Int} {M : am_M} {Q : Option am_V → am_M → Prop} (k : Q (some (vi (-2))) M) : am_AtN m8_spot 58 [some (vr 0), some (vi a1), some (vi a2), some (vi a3), some (vi a4), some (vi a5), some (vr a6), none] [] KS M Q := by
  refine s_bipush (show decode (am_cc m8_spot) 58 = .ok (.bipush (-2), 2) by decide +kernel) ⟨by decide, by decide⟩ (by decide) ?_
  exact s_ireturn (show decode (am_cc m8_spot) 60 = .ok (.ireturn, 1) by decide +kernel) rfl k
theorem g8_spot_61 {a1 a2 a3 a4 a5 a6 : Int} {M : am_M} {Q : Option am_V → am_M → Prop} {r0 : List Int} (h1 : am_kd KS a6 = some (4, 3, r0)) (k : am_CallN m4_wordOf [vr a6, vi a2, vi a3] KS M (fun r M' => am_AtN m8_spot 68 [some (vr 0), some (vi a1), some (vi a2), some (vi a3), some (vi a4), some (vi a5), some (vr a6), none] (r.toList ++ []) KS M' Q)) : am_AtN m8_spot 61 [some (vr 0), some (vi a1), some (vi a2), some (vi a3), some (vi a4), some (vi a5), some (vr a6), none] [] KS M Q := by
  refine s_aload (show decode (am_cc m8_spot) 61 = .ok (.aload 6, 2) by decide +kernel) rfl ?_
  refine s_iload_n (show decode (am_cc m8_spot) 63 = .ok (.iload_n 2, 1) by decide +kernel) rfl ?_
  refine s_iload_n (show decode (am_cc m8_spot) 64 = .ok (.iload_n 3, 1) by decide +kernel) rfl ?_
  exact n_callV (as := [vi a2, vi a3]) (stk := []) (show decode (am_cc m8_spot) 65 = .ok (.invokevirtual 160, 3) by decide +kernel) lk_RX8_160 h1 (by decide) rfl rfl (by decide) (Nat.le_of_ble_eq_true rfl) ⟨rfl, rfl⟩ k
theorem g8_spot_68 {a1 a2 a3 a4 a5 a6 t0 : Int} {M : am_M} {Q : Option am_V → am_M → Prop} {r0 : List Int} (h1 : am_kd KS a6 = some (4, 3, r0)) (k : am_CallN m4_lead [vr a6, vi a2, vi a3, vi a4, vi a5] KS M (fun r M' => am_AtN m8_spot 81 [some (vr 0), some (vi a1), some (vi a2), some (vi a3), some (vi a4), some (vi a5), some (vr a6), some (vi t0)] (r.toList ++ []) KS M' Q)) : am_AtN m8_spot 68 [some (vr 0), some (vi a1), some (vi a2), some (vi a3), some (vi a4), some (vi a5), some (vr a6), none] [vi t0] KS M Q := by
  refine s_istore (show decode (am_cc m8_spot) 68 = .ok (.istore 7, 2) by decide +kernel) (by decide) ?_
  refine s_aload (show decode (am_cc m8_spot) 70 = .ok (.aload 6, 2) by decide +kernel) rfl ?_
  refine s_iload_n (show decode (am_cc m8_spot) 72 = .ok (.iload_n 2, 1) by decide +kernel) rfl ?_
  refine s_iload_n (show decode (am_cc m8_spot) 73 = .ok (.iload_n 3, 1) by decide +kernel) rfl ?_
  refine s_iload (show decode (am_cc m8_spot) 74 = .ok (.iload 4, 2) by decide +kernel) rfl ?_
  refine s_iload (show decode (am_cc m8_spot) 76 = .ok (.iload 5, 2) by decide +kernel) rfl ?_
  exact n_callV (as := [vi a2, vi a3, vi a4, vi a5]) (stk := []) (show decode (am_cc m8_spot) 78 = .ok (.invokevirtual 163, 3) by decide +kernel) lk_RX8_163 h1 (by decide) rfl rfl (by decide) (Nat.le_of_ble_eq_true rfl) ⟨rfl, rfl⟩ k
theorem g8_spot_81 {a1 a2 a3 a4 a5 a6 a7 : Int} {M : am_M} {Q : Option am_V → am_M → Prop} (k : Q (some (vi a7)) M) : am_AtN m8_spot 81 [some (vr 0), some (vi a1), some (vi a2), some (vi a3), some (vi a4), some (vi a5), some (vr a6), some (vi a7)] [] KS M Q := by
  refine s_iload (show decode (am_cc m8_spot) 81 = .ok (.iload 7, 2) by decide +kernel) rfl ?_
  exact s_ireturn (show decode (am_cc m8_spot) 83 = .ok (.ireturn, 1) by decide +kernel) rfl k
theorem g8_end_0 {a1 a2 a3 : Int} {M : am_M} {Q : Option am_V → am_M → Prop} (k : am_CallN m8_programOf [vr 0, vi a1] KS M (fun r M' => am_AtN m8_end 5 [some (vr 0), some (vi a1), some (vi a2), some (vi a3), none, none] (r.toList ++ []) KS M' Q)) : am_AtN m8_end 0 [some (vr 0), some (vi a1), some (vi a2), some (vi a3), none, none] [] KS M Q := by
  refine s_aload_n (show decode (am_cc m8_end) 0 = .ok (.aload_n 0, 1) by decide +kernel) rfl ?_
  refine s_iload_n (show decode (am_cc m8_end) 1 = .ok (.iload_n 1, 1) by decide +kernel) rfl ?_
  exact n_callV (as := [vi a1]) (stk := []) (show decode (am_cc m8_end) 2 = .ok (.invokevirtual 153, 3) by decide +kernel) lk_RX8_153 kd0 (by decide) rfl rfl (by decide) (Nat.le_of_ble_eq_true rfl) ⟨rfl, rfl⟩ k
theorem g8_end_5 {a1 a2 a3 t0 : Int} {M : am_M} {Q : Option am_V → am_M → Prop} (k1 : t0 = -1 → am_AtN m8_end 21 [some (vr 0), some (vi a1), some (vi a2), some (vi a3), some (vr t0), none] [] KS M Q) (k2 : ¬ t0 = -1 → am_AtN m8_end 12 [some (vr 0), some (vi a1), some (vi a2), some (vi a3), some (vr t0), none] [] KS M Q) : am_AtN m8_end 5 [some (vr 0), some (vi a1), some (vi a2), some (vi a3), none, none] [vr t0] KS M Q := by
  refine s_astore (show decode (am_cc m8_end) 5 = .ok (.astore 4, 2) by decide +kernel) (by decide) ?_
  refine s_aload (show decode (am_cc m8_end) 7 = .ok (.aload 4, 2) by decide +kernel) rfl ?_
  exact s_ifnull (tgt := 21) (show decode (am_cc m8_end) 9 = .ok (.ifnull 12, 3) by decide +kernel) (by decide) k1 k2
theorem g8_end_12 {a1 a2 a3 a4 : Int} {M : am_M} {Q : Option am_V → am_M → Prop} (k : am_CallN m8_within [vi a2, vi 6] KS M (fun r M' => am_AtN m8_end 18 [some (vr 0), some (vi a1), some (vi a2), some (vi a3), some (vr a4), none] (r.toList ++ []) KS M' Q)) : am_AtN m8_end 12 [some (vr 0), some (vi a1), some (vi a2), some (vi a3), some (vr a4), none] [] KS M Q := by
  refine s_iload_n (show decode (am_cc m8_end) 12 = .ok (.iload_n 2, 1) by decide +kernel) rfl ?_
  refine s_bipush (show decode (am_cc m8_end) 13 = .ok (.bipush 6, 2) by decide +kernel) ⟨by decide, by decide⟩ (by decide) ?_
  exact n_callS (as := [vi a2, vi 6]) (stk := []) (show decode (am_cc m8_end) 15 = .ok (.invokestatic 114, 3) by decide +kernel) lk_RX8_114 (by decide) (Nat.le_of_ble_eq_true rfl) ⟨rfl, rfl⟩ k
theorem g8_end_18 {a1 a2 a3 a4 t0 : Int} {M : am_M} {Q : Option am_V → am_M → Prop} (k1 : ¬ t0 = 0 → am_AtN m8_end 23 [some (vr 0), some (vi a1), some (vi a2), some (vi a3), some (vr a4), none] [] KS M Q) (k2 : t0 = 0 → am_AtN m8_end 21 [some (vr 0), some (vi a1), some (vi a2), some (vi a3), some (vr a4), none] [] KS M Q) : am_AtN m8_end 18 [some (vr 0), some (vi a1), some (vi a2), some (vi a3), some (vr a4), none] [vi t0] KS M Q := by
  exact s_if_ne (tgt := 23) (show decode (am_cc m8_end) 18 = .ok (.ifCond .ne 5, 3) by decide +kernel) (by decide) k1 k2
theorem g8_end_21 {a1 a2 a3 a4 : Int} {M : am_M} {Q : Option am_V → am_M → Prop} (k : Q (some (vi (-1))) M) : am_AtN m8_end 21 [some (vr 0), some (vi a1), some (vi a2), some (vi a3), some (vr a4), none] [] KS M Q := by
  refine s_iconst (show decode (am_cc m8_end) 21 = .ok (.iconst (-1), 1) by decide +kernel) ⟨by decide, by decide⟩ ?_
  exact s_ireturn (show decode (am_cc m8_end) 22 = .ok (.ireturn, 1) by decide +kernel) rfl k
theorem g8_end_23 {a1 a2 a3 a4 : Int} {M : am_M} {Q : Option am_V → am_M → Prop} (k1 : a3 = -1 → am_AtN m8_end 42 [some (vr 0), some (vi a1), some (vi a2), some (vi a3), some (vr a4), none] [] KS M Q) (k2 : ¬ (a3 = -1) → am_AtN m8_end 28 [some (vr 0), some (vi a1), some (vi a2), some (vi a3), some (vr a4), none] [] KS M Q) : am_AtN m8_end 23 [some (vr 0), some (vi a1), some (vi a2), some (vi a3), some (vr a4), none] [] KS M Q := by
  refine s_iload_n (show decode (am_cc m8_end) 23 = .ok (.iload_n 3, 1) by decide +kernel) rfl ?_
  refine s_iconst (show decode (am_cc m8_end) 24 = .ok (.iconst (-1), 1) by decide +kernel) ⟨by decide, by decide⟩ ?_
  exact s_icmp_eq (tgt := 42) (show decode (am_cc m8_end) 25 = .ok (.if_icmp .eq 17, 3) by decide +kernel) (by decide) k1 k2
theorem g8_end_28 {a1 a2 a3 a4 : Int} {M : am_M} {Q : Option am_V → am_M → Prop} (k : am_CallN m8_isWord [vi a3, vi (M 0 0)] KS M (fun r M' => am_AtN m8_end 36 [some (vr 0), some (vi a1), some (vi a2), some (vi a3), some (vr a4), none] (r.toList ++ []) KS M' Q)) : am_AtN m8_end 28 [some (vr 0), some (vi a1), some (vi a2), some (vi a3), some (vr a4), none] [] KS M Q := by
  refine s_iload_n (show decode (am_cc m8_end) 28 = .ok (.iload_n 3, 1) by decide +kernel) rfl ?_
  refine s_aload_n (show decode (am_cc m8_end) 29 = .ok (.aload_n 0, 1) by decide +kernel) rfl ?_
  refine s_getf (k := 0) (v := vi (M 0 0)) (show decode (am_cc m8_end) 30 = .ok (.getfield 9, 3) by decide +kernel) kd0 (by decide) rfl jnX8 (by decide) lf_RX8_9 rfl ?_
  exact n_callS (as := [vi a3, vi (M 0 0)]) (stk := []) (show decode (am_cc m8_end) 33 = .ok (.invokestatic 157, 3) by decide +kernel) lk_RX8_157 (by decide) (Nat.le_of_ble_eq_true rfl) ⟨rfl, rfl⟩ k
theorem g8_end_36 {a1 a2 a3 a4 t0 : Int} {M : am_M} {Q : Option am_V → am_M → Prop} (k1 : ¬ t0 = 0 → am_AtN m8_end 42 [some (vr 0), some (vi a1), some (vi a2), some (vi a3), some (vr a4), none] [] KS M Q) (k2 : t0 = 0 → am_AtN m8_end 39 [some (vr 0), some (vi a1), some (vi a2), some (vi a3), some (vr a4), none] [] KS M Q) : am_AtN m8_end 36 [some (vr 0), some (vi a1), some (vi a2), some (vi a3), some (vr a4), none] [vi t0] KS M Q := by
  exact s_if_ne (tgt := 42) (show decode (am_cc m8_end) 36 = .ok (.ifCond .ne 6, 3) by decide +kernel) (by decide) k1 k2
theorem g8_end_39 {a1 a2 a3 a4 : Int} {M : am_M} {Q : Option am_V → am_M → Prop} (k : Q (some (vi (-2))) M) : am_AtN m8_end 39 [some (vr 0), some (vi a1), some (vi a2), some (vi a3), some (vr a4), none] [] KS M Q := by
  refine s_bipush (show decode (am_cc m8_end) 39 = .ok (.bipush (-2), 2) by decide +kernel) ⟨by decide, by decide⟩ (by decide) ?_
  exact s_ireturn (show decode (am_cc m8_end) 41 = .ok (.ireturn, 1) by decide +kernel) rfl k
theorem g8_end_42 {a1 a2 a3 a4 : Int} {M : am_M} {Q : Option am_V → am_M → Prop} {r0 : List Int} (h1 : am_kd KS a4 = some (4, 3, r0)) (k : am_CallN m4_endOf [vr a4, vi a2] KS M (fun r M' => am_AtN m8_end 48 [some (vr 0), some (vi a1), some (vi a2), some (vi a3), some (vr a4), none] (r.toList ++ []) KS M' Q)) : am_AtN m8_end 42 [some (vr 0), some (vi a1), some (vi a2), some (vi a3), some (vr a4), none] [] KS M Q := by
  refine s_aload (show decode (am_cc m8_end) 42 = .ok (.aload 4, 2) by decide +kernel) rfl ?_
  refine s_iload_n (show decode (am_cc m8_end) 44 = .ok (.iload_n 2, 1) by decide +kernel) rfl ?_
  exact n_callV (as := [vi a2]) (stk := []) (show decode (am_cc m8_end) 45 = .ok (.invokevirtual 166, 3) by decide +kernel) lk_RX8_166 h1 (by decide) rfl rfl (by decide) (Nat.le_of_ble_eq_true rfl) ⟨rfl, rfl⟩ k
theorem g8_end_48 {a1 a2 a3 a4 t0 : Int} {M : am_M} {Q : Option am_V → am_M → Prop} {r0 : List Int} (h1 : am_kd KS a4 = some (4, 3, r0)) (k : am_CallN m4_finish [vr a4, vi a2, vi a3] KS M (fun r M' => am_AtN m8_end 57 [some (vr 0), some (vi a1), some (vi a2), some (vi a3), some (vr a4), some (vi t0)] (r.toList ++ []) KS M' Q)) : am_AtN m8_end 48 [some (vr 0), some (vi a1), some (vi a2), some (vi a3), some (vr a4), none] [vi t0] KS M Q := by
  refine s_istore (show decode (am_cc m8_end) 48 = .ok (.istore 5, 2) by decide +kernel) (by decide) ?_
  refine s_aload (show decode (am_cc m8_end) 50 = .ok (.aload 4, 2) by decide +kernel) rfl ?_
  refine s_iload_n (show decode (am_cc m8_end) 52 = .ok (.iload_n 2, 1) by decide +kernel) rfl ?_
  refine s_iload_n (show decode (am_cc m8_end) 53 = .ok (.iload_n 3, 1) by decide +kernel) rfl ?_
  exact n_callV (as := [vi a2, vi a3]) (stk := []) (show decode (am_cc m8_end) 54 = .ok (.invokevirtual 170, 3) by decide +kernel) lk_RX8_170 h1 (by decide) rfl rfl (by decide) (Nat.le_of_ble_eq_true rfl) ⟨rfl, rfl⟩ k
theorem g8_end_57 {a1 a2 a3 a4 a5 : Int} {M : am_M} {Q : Option am_V → am_M → Prop} (k : Q (some (vi a5)) M) : am_AtN m8_end 57 [some (vr 0), some (vi a1), some (vi a2), some (vi a3), some (vr a4), some (vi a5)] [] KS M Q := by
  refine s_iload (show decode (am_cc m8_end) 57 = .ok (.iload 5, 2) by decide +kernel) rfl ?_
  exact s_ireturn (show decode (am_cc m8_end) 59 = .ok (.ireturn, 1) by decide +kernel) rfl k
theorem g8_of_0 {a1 a2 a3 a4 : Int} {M : am_M} {Q : Option am_V → am_M → Prop} (k : am_CallN m8_programOf [vr 0, vi a1] KS M (fun r M' => am_AtN m8_of 5 [some (vr 0), some (vi a1), some (vi a2), some (vi a3), some (vi a4), none, none] (r.toList ++ []) KS M' Q)) : am_AtN m8_of 0 [some (vr 0), some (vi a1), some (vi a2), some (vi a3), some (vi a4), none, none] [] KS M Q := by
  refine s_aload_n (show decode (am_cc m8_of) 0 = .ok (.aload_n 0, 1) by decide +kernel) rfl ?_
  refine s_iload_n (show decode (am_cc m8_of) 1 = .ok (.iload_n 1, 1) by decide +kernel) rfl ?_
  exact n_callV (as := [vi a1]) (stk := []) (show decode (am_cc m8_of) 2 = .ok (.invokevirtual 153, 3) by decide +kernel) lk_RX8_153 kd0 (by decide) rfl rfl (by decide) (Nat.le_of_ble_eq_true rfl) ⟨rfl, rfl⟩ k
theorem g8_of_5 {a1 a2 a3 a4 t0 : Int} {M : am_M} {Q : Option am_V → am_M → Prop} (k1 : t0 = -1 → am_AtN m8_of 34 [some (vr 0), some (vi a1), some (vi a2), some (vi a3), some (vi a4), some (vr t0), none] [] KS M Q) (k2 : ¬ t0 = -1 → am_AtN m8_of 12 [some (vr 0), some (vi a1), some (vi a2), some (vi a3), some (vi a4), some (vr t0), none] [] KS M Q) : am_AtN m8_of 5 [some (vr 0), some (vi a1), some (vi a2), some (vi a3), some (vi a4), none, none] [vr t0] KS M Q := by
  refine s_astore (show decode (am_cc m8_of) 5 = .ok (.astore 5, 2) by decide +kernel) (by decide) ?_
  refine s_aload (show decode (am_cc m8_of) 7 = .ok (.aload 5, 2) by decide +kernel) rfl ?_
  exact s_ifnull (tgt := 34) (show decode (am_cc m8_of) 9 = .ok (.ifnull 25, 3) by decide +kernel) (by decide) k1 k2
theorem g8_of_12 {a1 a2 a3 a4 a5 : Int} {M : am_M} {Q : Option am_V → am_M → Prop} (k : am_CallN m8_within [vi a2, vi 6] KS M (fun r M' => am_AtN m8_of 18 [some (vr 0), some (vi a1), some (vi a2), some (vi a3), some (vi a4), some (vr a5), none] (r.toList ++ []) KS M' Q)) : am_AtN m8_of 12 [some (vr 0), some (vi a1), some (vi a2), some (vi a3), some (vi a4), some (vr a5), none] [] KS M Q := by
  refine s_iload_n (show decode (am_cc m8_of) 12 = .ok (.iload_n 2, 1) by decide +kernel) rfl ?_
  refine s_bipush (show decode (am_cc m8_of) 13 = .ok (.bipush 6, 2) by decide +kernel) ⟨by decide, by decide⟩ (by decide) ?_
  exact n_callS (as := [vi a2, vi 6]) (stk := []) (show decode (am_cc m8_of) 15 = .ok (.invokestatic 114, 3) by decide +kernel) lk_RX8_114 (by decide) (Nat.le_of_ble_eq_true rfl) ⟨rfl, rfl⟩ k
theorem g8_of_18 {a1 a2 a3 a4 a5 t0 : Int} {M : am_M} {Q : Option am_V → am_M → Prop} (k1 : t0 = 0 → am_AtN m8_of 34 [some (vr 0), some (vi a1), some (vi a2), some (vi a3), some (vi a4), some (vr a5), none] [] KS M Q) (k2 : ¬ (t0 = 0) → am_AtN m8_of 21 [some (vr 0), some (vi a1), some (vi a2), some (vi a3), some (vi a4), some (vr a5), none] [] KS M Q) : am_AtN m8_of 18 [some (vr 0), some (vi a1), some (vi a2), some (vi a3), some (vi a4), some (vr a5), none] [vi t0] KS M Q := by
  exact s_if_eq (tgt := 34) (show decode (am_cc m8_of) 18 = .ok (.ifCond .eq 16, 3) by decide +kernel) (by decide) k1 k2
theorem g8_of_21 {a1 a2 a3 a4 a5 : Int} {M : am_M} {Q : Option am_V → am_M → Prop} (h1 : -2147483648 ≤ (M 0 0) + 1 ∧ (M 0 0) + 1 ≤ 2147483647) (k : am_CallN m8_within [vi a3, vi ((M 0 0) + 1)] KS M (fun r M' => am_AtN m8_of 31 [some (vr 0), some (vi a1), some (vi a2), some (vi a3), some (vi a4), some (vr a5), none] (r.toList ++ []) KS M' Q)) : am_AtN m8_of 21 [some (vr 0), some (vi a1), some (vi a2), some (vi a3), some (vi a4), some (vr a5), none] [] KS M Q := by
  refine s_iload_n (show decode (am_cc m8_of) 21 = .ok (.iload_n 3, 1) by decide +kernel) rfl ?_
  refine s_aload_n (show decode (am_cc m8_of) 22 = .ok (.aload_n 0, 1) by decide +kernel) rfl ?_
  refine s_getf (k := 0) (v := vi (M 0 0)) (show decode (am_cc m8_of) 23 = .ok (.getfield 9, 3) by decide +kernel) kd0 (by decide) rfl jnX8 (by decide) lf_RX8_9 rfl ?_
  refine s_iconst (show decode (am_cc m8_of) 26 = .ok (.iconst 1, 1) by decide +kernel) ⟨by decide, by decide⟩ ?_
  refine s_iadd (show decode (am_cc m8_of) 27 = .ok (.iadd, 1) by decide +kernel) h1 ?_
  exact n_callS (as := [vi a3, vi ((M 0 0) + 1)]) (stk := []) (show decode (am_cc m8_of) 28 = .ok (.invokestatic 114, 3) by decide +kernel) lk_RX8_114 (by decide) (Nat.le_of_ble_eq_true rfl) ⟨rfl, rfl⟩ k
theorem g8_of_31 {a1 a2 a3 a4 a5 t0 : Int} {M : am_M} {Q : Option am_V → am_M → Prop} (k1 : ¬ t0 = 0 → am_AtN m8_of 36 [some (vr 0), some (vi a1), some (vi a2), some (vi a3), some (vi a4), some (vr a5), none] [] KS M Q) (k2 : t0 = 0 → am_AtN m8_of 34 [some (vr 0), some (vi a1), some (vi a2), some (vi a3), some (vi a4), some (vr a5), none] [] KS M Q) : am_AtN m8_of 31 [some (vr 0), some (vi a1), some (vi a2), some (vi a3), some (vi a4), some (vr a5), none] [vi t0] KS M Q := by
  exact s_if_ne (tgt := 36) (show decode (am_cc m8_of) 31 = .ok (.ifCond .ne 5, 3) by decide +kernel) (by decide) k1 k2
theorem g8_of_34 {a1 a2 a3 a4 a5 : Int} {M : am_M} {Q : Option am_V → am_M → Prop} (k : Q (some (vi (-1))) M) : am_AtN m8_of 34 [some (vr 0), some (vi a1), some (vi a2), some (vi a3), some (vi a4), some (vr a5), none] [] KS M Q := by
  refine s_iconst (show decode (am_cc m8_of) 34 = .ok (.iconst (-1), 1) by decide +kernel) ⟨by decide, by decide⟩ ?_
  exact s_ireturn (show decode (am_cc m8_of) 35 = .ok (.ireturn, 1) by decide +kernel) rfl k
theorem g8_of_36 {a1 a2 a3 a4 a5 : Int} {M : am_M} {Q : Option am_V → am_M → Prop} (k1 : ¬ a3 = M 0 0 → am_AtN m8_of 48 [some (vr 0), some (vi a1), some (vi a2), some (vi a3), some (vi a4), some (vr a5), none] [] KS M Q) (k2 : a3 = M 0 0 → am_AtN m8_of 44 [some (vr 0), some (vi a1), some (vi a2), some (vi a3), some (vi a4), some (vr a5), none] [] KS M Q) : am_AtN m8_of 36 [some (vr 0), some (vi a1), some (vi a2), some (vi a3), some (vi a4), some (vr a5), none] [] KS M Q := by
  refine s_iload_n (show decode (am_cc m8_of) 36 = .ok (.iload_n 3, 1) by decide +kernel) rfl ?_
  refine s_aload_n (show decode (am_cc m8_of) 37 = .ok (.aload_n 0, 1) by decide +kernel) rfl ?_
  refine s_getf (k := 0) (v := vi (M 0 0)) (show decode (am_cc m8_of) 38 = .ok (.getfield 9, 3) by decide +kernel) kd0 (by decide) rfl jnX8 (by decide) lf_RX8_9 rfl ?_
  exact s_icmp_ne (tgt := 48) (show decode (am_cc m8_of) 41 = .ok (.if_icmp .ne 7, 3) by decide +kernel) (by decide) k1 k2
theorem g8_of_44 {a1 a2 a3 a4 a5 : Int} {M : am_M} {Q : Option am_V → am_M → Prop} (k : am_AtN m8_of 49 [some (vr 0), some (vi a1), some (vi a2), some (vi a3), some (vi a4), some (vr a5), none] [vi 1] KS M Q) : am_AtN m8_of 44 [some (vr 0), some (vi a1), some (vi a2), some (vi a3), some (vi a4), some (vr a5), none] [] KS M Q := by
  refine s_iconst (show decode (am_cc m8_of) 44 = .ok (.iconst 1, 1) by decide +kernel) ⟨by decide, by decide⟩ ?_
  refine s_goto (tgt := 49) (show decode (am_cc m8_of) 45 = .ok (.goto 4, 3) by decide +kernel) (by decide) ?_
  exact k
theorem g8_of_48 {a1 a2 a3 a4 a5 : Int} {M : am_M} {Q : Option am_V → am_M → Prop} (k : am_AtN m8_of 49 [some (vr 0), some (vi a1), some (vi a2), some (vi a3), some (vi a4), some (vr a5), none] [vi 0] KS M Q) : am_AtN m8_of 48 [some (vr 0), some (vi a1), some (vi a2), some (vi a3), some (vi a4), some (vr a5), none] [] KS M Q := by
  refine s_iconst (show decode (am_cc m8_of) 48 = .ok (.iconst 0, 1) by decide +kernel) ⟨by decide, by decide⟩ ?_
  exact k
theorem g8_of_49 {a1 a2 a3 a4 a5 t0 : Int} {M : am_M} {Q : Option am_V → am_M → Prop} (k1 : ¬ a4 = 0 → am_AtN m8_of 69 [some (vr 0), some (vi a1), some (vi a2), some (vi a3), some (vi a4), some (vr a5), some (vi t0)] [] KS M Q) (k2 : a4 = 0 → am_AtN m8_of 56 [some (vr 0), some (vi a1), some (vi a2), some (vi a3), some (vi a4), some (vr a5), some (vi t0)] [] KS M Q) : am_AtN m8_of 49 [some (vr 0), some (vi a1), some (vi a2), some (vi a3), some (vi a4), some (vr a5), none] [vi t0] KS M Q := by
  refine s_istore (show decode (am_cc m8_of) 49 = .ok (.istore 6, 2) by decide +kernel) (by decide) ?_
  refine s_iload (show decode (am_cc m8_of) 51 = .ok (.iload 4, 2) by decide +kernel) rfl ?_
  exact s_if_ne (tgt := 69) (show decode (am_cc m8_of) 53 = .ok (.ifCond .ne 16, 3) by decide +kernel) (by decide) k1 k2
theorem g8_of_56 {a1 a2 a3 a4 a5 a6 : Int} {M : am_M} {Q : Option am_V → am_M → Prop} (k1 : ¬ a6 = 0 → am_AtN m8_of 69 [some (vr 0), some (vi a1), some (vi a2), some (vi a3), some (vi a4), some (vr a5), some (vi a6)] [] KS M Q) (k2 : a6 = 0 → am_AtN m8_of 61 [some (vr 0), some (vi a1), some (vi a2), some (vi a3), some (vi a4), some (vr a5), some (vi a6)] [] KS M Q) : am_AtN m8_of 56 [some (vr 0), some (vi a1), some (vi a2), some (vi a3), some (vi a4), some (vr a5), some (vi a6)] [] KS M Q := by
  refine s_iload (show decode (am_cc m8_of) 56 = .ok (.iload 6, 2) by decide +kernel) rfl ?_
  exact s_if_ne (tgt := 69) (show decode (am_cc m8_of) 58 = .ok (.ifCond .ne 11, 3) by decide +kernel) (by decide) k1 k2
theorem g8_of_61 {a1 a2 a3 a4 a5 a6 : Int} {M : am_M} {Q : Option am_V → am_M → Prop} {r0 : List Int} (h1 : am_kd KS a5 = some (4, 3, r0)) (k : am_CallN m4_nextOf [vr a5, vi a2, vi a3] KS M (fun r M' => am_AtN m8_of 68 [some (vr 0), some (vi a1), some (vi a2), some (vi a3), some (vi a4), some (vr a5), some (vi a6)] (r.toList ++ []) KS M' Q)) : am_AtN m8_of 61 [some (vr 0), some (vi a1), some (vi a2), some (vi a3), some (vi a4), some (vr a5), some (vi a6)] [] KS M Q := by
  refine s_aload (show decode (am_cc m8_of) 61 = .ok (.aload 5, 2) by decide +kernel) rfl ?_
  refine s_iload_n (show decode (am_cc m8_of) 63 = .ok (.iload_n 2, 1) by decide +kernel) rfl ?_
  refine s_iload_n (show decode (am_cc m8_of) 64 = .ok (.iload_n 3, 1) by decide +kernel) rfl ?_
  exact n_callV (as := [vi a2, vi a3]) (stk := []) (show decode (am_cc m8_of) 65 = .ok (.invokevirtual 174, 3) by decide +kernel) lk_RX8_174 h1 (by decide) rfl rfl (by decide) (Nat.le_of_ble_eq_true rfl) ⟨rfl, rfl⟩ k
theorem g8_of_68 {a1 a2 a3 a4 a5 a6 t0 : Int} {M : am_M} {Q : Option am_V → am_M → Prop} (k : Q (some (vi t0)) M) : am_AtN m8_of 68 [some (vr 0), some (vi a1), some (vi a2), some (vi a3), some (vi a4), some (vr a5), some (vi a6)] [vi t0] KS M Q := by
  exact s_ireturn (show decode (am_cc m8_of) 68 = .ok (.ireturn, 1) by decide +kernel) rfl k
theorem g8_of_69 {a1 a2 a3 a4 a5 a6 : Int} {M : am_M} {Q : Option am_V → am_M → Prop} (k1 : ¬ a4 = 1 → am_AtN m8_of 97 [some (vr 0), some (vi a1), some (vi a2), some (vi a3), some (vi a4), some (vr a5), some (vi a6)] [] KS M Q) (k2 : a4 = 1 → am_AtN m8_of 75 [some (vr 0), some (vi a1), some (vi a2), some (vi a3), some (vi a4), some (vr a5), some (vi a6)] [] KS M Q) : am_AtN m8_of 69 [some (vr 0), some (vi a1), some (vi a2), some (vi a3), some (vi a4), some (vr a5), some (vi a6)] [] KS M Q := by
  refine s_iload (show decode (am_cc m8_of) 69 = .ok (.iload 4, 2) by decide +kernel) rfl ?_
  refine s_iconst (show decode (am_cc m8_of) 71 = .ok (.iconst 1, 1) by decide +kernel) ⟨by decide, by decide⟩ ?_
  exact s_icmp_ne (tgt := 97) (show decode (am_cc m8_of) 72 = .ok (.if_icmp .ne 25, 3) by decide +kernel) (by decide) k1 k2
theorem g8_of_75 {a1 a2 a3 a4 a5 a6 : Int} {M : am_M} {Q : Option am_V → am_M → Prop} (k1 : a6 = 0 → am_AtN m8_of 89 [some (vr 0), some (vi a1), some (vi a2), some (vi a3), some (vi a4), some (vr a5), some (vi a6)] [] KS M Q) (k2 : ¬ (a6 = 0) → am_AtN m8_of 80 [some (vr 0), some (vi a1), some (vi a2), some (vi a3), some (vi a4), some (vr a5), some (vi a6)] [] KS M Q) : am_AtN m8_of 75 [some (vr 0), some (vi a1), some (vi a2), some (vi a3), some (vi a4), some (vr a5), some (vi a6)] [] KS M Q := by
  refine s_iload (show decode (am_cc m8_of) 75 = .ok (.iload 6, 2) by decide +kernel) rfl ?_
  exact s_if_eq (tgt := 89) (show decode (am_cc m8_of) 77 = .ok (.ifCond .eq 12, 3) by decide +kernel) (by decide) k1 k2
theorem g8_of_80 {a1 a2 a3 a4 a5 a6 : Int} {M : am_M} {Q : Option am_V → am_M → Prop} {r0 : List Int} (h1 : am_kd KS a5 = some (4, 3, r0)) (k : am_CallN m4_endOf [vr a5, vi a2] KS M (fun r M' => am_AtN m8_of 86 [some (vr 0), some (vi a1), some (vi a2), some (vi a3), some (vi a4), some (vr a5), some (vi a6)] (r.toList ++ []) KS M' Q)) : am_AtN m8_of 80 [some (vr 0), some (vi a1), some (vi a2), some (vi a3), some (vi a4), some (vr a5), some (vi a6)] [] KS M Q := by
  refine s_aload (show decode (am_cc m8_of) 80 = .ok (.aload 5, 2) by decide +kernel) rfl ?_
  refine s_iload_n (show decode (am_cc m8_of) 82 = .ok (.iload_n 2, 1) by decide +kernel) rfl ?_
  exact n_callV (as := [vi a2]) (stk := []) (show decode (am_cc m8_of) 83 = .ok (.invokevirtual 166, 3) by decide +kernel) lk_RX8_166 h1 (by decide) rfl rfl (by decide) (Nat.le_of_ble_eq_true rfl) ⟨rfl, rfl⟩ k
theorem g8_of_86 {a1 a2 a3 a4 a5 a6 t0 : Int} {M : am_M} {Q : Option am_V → am_M → Prop} (k : am_AtN m8_of 96 [some (vr 0), some (vi a1), some (vi a2), some (vi a3), some (vi a4), some (vr a5), some (vi a6)] [vi t0] KS M Q) : am_AtN m8_of 86 [some (vr 0), some (vi a1), some (vi a2), some (vi a3), some (vi a4), some (vr a5), some (vi a6)] [vi t0] KS M Q := by
  refine s_goto (tgt := 96) (show decode (am_cc m8_of) 86 = .ok (.goto 10, 3) by decide +kernel) (by decide) ?_
  exact k
theorem g8_of_89 {a1 a2 a3 a4 a5 a6 : Int} {M : am_M} {Q : Option am_V → am_M → Prop} {r0 : List Int} (h1 : am_kd KS a5 = some (4, 3, r0)) (k : am_CallN m4_wordOf [vr a5, vi a2, vi a3] KS M (fun r M' => am_AtN m8_of 96 [some (vr 0), some (vi a1), some (vi a2), some (vi a3), some (vi a4), some (vr a5), some (vi a6)] (r.toList ++ []) KS M' Q)) : am_AtN m8_of 89 [some (vr 0), some (vi a1), some (vi a2), some (vi a3), some (vi a4), some (vr a5), some (vi a6)] [] KS M Q := by
  refine s_aload (show decode (am_cc m8_of) 89 = .ok (.aload 5, 2) by decide +kernel) rfl ?_
  refine s_iload_n (show decode (am_cc m8_of) 91 = .ok (.iload_n 2, 1) by decide +kernel) rfl ?_
  refine s_iload_n (show decode (am_cc m8_of) 92 = .ok (.iload_n 3, 1) by decide +kernel) rfl ?_
  exact n_callV (as := [vi a2, vi a3]) (stk := []) (show decode (am_cc m8_of) 93 = .ok (.invokevirtual 160, 3) by decide +kernel) lk_RX8_160 h1 (by decide) rfl rfl (by decide) (Nat.le_of_ble_eq_true rfl) ⟨rfl, rfl⟩ k
theorem g8_of_96 {a1 a2 a3 a4 a5 a6 t0 : Int} {M : am_M} {Q : Option am_V → am_M → Prop} (k : Q (some (vi t0)) M) : am_AtN m8_of 96 [some (vr 0), some (vi a1), some (vi a2), some (vi a3), some (vi a4), some (vr a5), some (vi a6)] [vi t0] KS M Q := by
  exact s_ireturn (show decode (am_cc m8_of) 96 = .ok (.ireturn, 1) by decide +kernel) rfl k
theorem g8_of_97 {a1 a2 a3 a4 a5 a6 : Int} {M : am_M} {Q : Option am_V → am_M → Prop} (k : Q (some (vi (-2))) M) : am_AtN m8_of 97 [some (vr 0), some (vi a1), some (vi a2), some (vi a3), some (vi a4), some (vr a5), some (vi a6)] [] KS M Q := by
  refine s_bipush (show decode (am_cc m8_of) 97 = .ok (.bipush (-2), 2) by decide +kernel) ⟨by decide, by decide⟩ (by decide) ?_
  exact s_ireturn (show decode (am_cc m8_of) 99 = .ok (.ireturn, 1) by decide +kernel) rfl k
theorem g8_claim_0 {a1 a2 a3 a4 : Int} {M : am_M} {Q : Option am_V → am_M → Prop} (k : am_CallN m8_claimOf [vr 0, vi a1, vi a2, vi a3, vi a4] KS M (fun r M' => am_AtN m8_claim 9 [some (vr 0), some (vi a1), some (vi a2), some (vi a3), some (vi a4), none] (r.toList ++ []) KS M' Q)) : am_AtN m8_claim 0 [some (vr 0), some (vi a1), some (vi a2), some (vi a3), some (vi a4), none] [] KS M Q := by
  refine s_aload_n (show decode (am_cc m8_claim) 0 = .ok (.aload_n 0, 1) by decide +kernel) rfl ?_
  refine s_iload_n (show decode (am_cc m8_claim) 1 = .ok (.iload_n 1, 1) by decide +kernel) rfl ?_
  refine s_iload_n (show decode (am_cc m8_claim) 2 = .ok (.iload_n 2, 1) by decide +kernel) rfl ?_
  refine s_iload_n (show decode (am_cc m8_claim) 3 = .ok (.iload_n 3, 1) by decide +kernel) rfl ?_
  refine s_iload (show decode (am_cc m8_claim) 4 = .ok (.iload 4, 2) by decide +kernel) rfl ?_
  exact n_callV (as := [vi a1, vi a2, vi a3, vi a4]) (stk := []) (show decode (am_cc m8_claim) 6 = .ok (.invokevirtual 175, 3) by decide +kernel) lk_RX8_175 kd0 (by decide) rfl rfl (by decide) (Nat.le_of_ble_eq_true rfl) ⟨rfl, rfl⟩ k
theorem g8_claim_9 {a1 a2 a3 a4 t0 : Int} {M : am_M} {Q : Option am_V → am_M → Prop} (k1 : ¬ t0 = -1 → am_AtN m8_claim 18 [some (vr 0), some (vi a1), some (vi a2), some (vi a3), some (vi a4), some (vr t0)] [] KS M Q) (k2 : t0 = -1 → am_AtN m8_claim 16 [some (vr 0), some (vi a1), some (vi a2), some (vi a3), some (vi a4), some (vr t0)] [] KS M Q) : am_AtN m8_claim 9 [some (vr 0), some (vi a1), some (vi a2), some (vi a3), some (vi a4), none] [vr t0] KS M Q := by
  refine s_astore (show decode (am_cc m8_claim) 9 = .ok (.astore 5, 2) by decide +kernel) (by decide) ?_
  refine s_aload (show decode (am_cc m8_claim) 11 = .ok (.aload 5, 2) by decide +kernel) rfl ?_
  exact s_ifnonnull (tgt := 18) (show decode (am_cc m8_claim) 13 = .ok (.ifnonnull 5, 3) by decide +kernel) (by decide) k1 k2
theorem g8_claim_16 {a1 a2 a3 a4 a5 : Int} {M : am_M} {Q : Option am_V → am_M → Prop} (k : Q (some (vi (-1))) M) : am_AtN m8_claim 16 [some (vr 0), some (vi a1), some (vi a2), some (vi a3), some (vi a4), some (vr a5)] [] KS M Q := by
  refine s_iconst (show decode (am_cc m8_claim) 16 = .ok (.iconst (-1), 1) by decide +kernel) ⟨by decide, by decide⟩ ?_
  exact s_ireturn (show decode (am_cc m8_claim) 17 = .ok (.ireturn, 1) by decide +kernel) rfl k
theorem g8_claim_18 {a1 a2 a3 a4 a5 : Int} {M : am_M} {Q : Option am_V → am_M → Prop} {r0 : List Int} (h1 : am_kd KS a5 = some (2, 8, r0)) (k : am_CallN m2_explore [vr a5] KS M (fun r M' => am_AtN m8_claim 23 [some (vr 0), some (vi a1), some (vi a2), some (vi a3), some (vi a4), some (vr a5)] (r.toList ++ []) KS M' Q)) : am_AtN m8_claim 18 [some (vr 0), some (vi a1), some (vi a2), some (vi a3), some (vi a4), some (vr a5)] [] KS M Q := by
  refine s_aload (show decode (am_cc m8_claim) 18 = .ok (.aload 5, 2) by decide +kernel) rfl ?_
  exact n_callV (as := []) (stk := []) (show decode (am_cc m8_claim) 20 = .ok (.invokevirtual 179, 3) by decide +kernel) lk_RX8_179 h1 (by decide) rfl rfl (by decide) (Nat.le_of_ble_eq_true rfl) ⟨rfl, rfl⟩ k
theorem g8_claim_23 {a1 a2 a3 a4 a5 : Int} {M : am_M} {Q : Option am_V → am_M → Prop} {r0 : List Int} (h1 : am_kd KS a5 = some (2, 8, r0)) (k : am_CallN m2_firstBad [vr a5] KS M (fun r M' => am_AtN m8_claim 28 [some (vr 0), some (vi a1), some (vi a2), some (vi a3), some (vi a4), some (vr a5)] (r.toList ++ []) KS M' Q)) : am_AtN m8_claim 23 [some (vr 0), some (vi a1), some (vi a2), some (vi a3), some (vi a4), some (vr a5)] [] KS M Q := by
  refine s_aload (show decode (am_cc m8_claim) 23 = .ok (.aload 5, 2) by decide +kernel) rfl ?_
  exact n_callV (as := []) (stk := []) (show decode (am_cc m8_claim) 25 = .ok (.invokevirtual 182, 3) by decide +kernel) lk_RX8_182 h1 (by decide) rfl rfl (by decide) (Nat.le_of_ble_eq_true rfl) ⟨rfl, rfl⟩ k
theorem g8_claim_28 {a1 a2 a3 a4 a5 t0 : Int} {M : am_M} {Q : Option am_V → am_M → Prop} (k1 : ¬ t0 = -9 → am_AtN m8_claim 37 [some (vr 0), some (vi a1), some (vi a2), some (vi a3), some (vi a4), some (vr a5)] [] KS M Q) (k2 : t0 = -9 → am_AtN m8_claim 33 [some (vr 0), some (vi a1), some (vi a2), some (vi a3), some (vi a4), some (vr a5)] [] KS M Q) : am_AtN m8_claim 28 [some (vr 0), some (vi a1), some (vi a2), some (vi a3), some (vi a4), some (vr a5)] [vi t0] KS M Q := by
  refine s_bipush (show decode (am_cc m8_claim) 28 = .ok (.bipush (-9), 2) by decide +kernel) ⟨by decide, by decide⟩ (by decide) ?_
  exact s_icmp_ne (tgt := 37) (show decode (am_cc m8_claim) 30 = .ok (.if_icmp .ne 7, 3) by decide +kernel) (by decide) k1 k2
theorem g8_claim_33 {a1 a2 a3 a4 a5 : Int} {M : am_M} {Q : Option am_V → am_M → Prop} (k : am_AtN m8_claim 38 [some (vr 0), some (vi a1), some (vi a2), some (vi a3), some (vi a4), some (vr a5)] [vi 1] KS M Q) : am_AtN m8_claim 33 [some (vr 0), some (vi a1), some (vi a2), some (vi a3), some (vi a4), some (vr a5)] [] KS M Q := by
  refine s_iconst (show decode (am_cc m8_claim) 33 = .ok (.iconst 1, 1) by decide +kernel) ⟨by decide, by decide⟩ ?_
  refine s_goto (tgt := 38) (show decode (am_cc m8_claim) 34 = .ok (.goto 4, 3) by decide +kernel) (by decide) ?_
  exact k
theorem g8_claim_37 {a1 a2 a3 a4 a5 : Int} {M : am_M} {Q : Option am_V → am_M → Prop} (k : am_AtN m8_claim 38 [some (vr 0), some (vi a1), some (vi a2), some (vi a3), some (vi a4), some (vr a5)] [vi 0] KS M Q) : am_AtN m8_claim 37 [some (vr 0), some (vi a1), some (vi a2), some (vi a3), some (vi a4), some (vr a5)] [] KS M Q := by
  refine s_iconst (show decode (am_cc m8_claim) 37 = .ok (.iconst 0, 1) by decide +kernel) ⟨by decide, by decide⟩ ?_
  exact k
theorem g8_claim_38 {a1 a2 a3 a4 a5 t0 : Int} {M : am_M} {Q : Option am_V → am_M → Prop} (k : am_CallN m8_oneIf [vi t0] KS M (fun r M' => am_AtN m8_claim 41 [some (vr 0), some (vi a1), some (vi a2), some (vi a3), some (vi a4), some (vr a5)] (r.toList ++ []) KS M' Q)) : am_AtN m8_claim 38 [some (vr 0), some (vi a1), some (vi a2), some (vi a3), some (vi a4), some (vr a5)] [vi t0] KS M Q := by
  exact n_callS (as := [vi t0]) (stk := []) (show decode (am_cc m8_claim) 38 = .ok (.invokestatic 130, 3) by decide +kernel) lk_RX8_130 (by decide) (Nat.le_of_ble_eq_true rfl) ⟨rfl, rfl⟩ k
theorem g8_claim_41 {a1 a2 a3 a4 a5 t0 : Int} {M : am_M} {Q : Option am_V → am_M → Prop} (k : Q (some (vi t0)) M) : am_AtN m8_claim 41 [some (vr 0), some (vi a1), some (vi a2), some (vi a3), some (vi a4), some (vr a5)] [vi t0] KS M Q := by
  exact s_ireturn (show decode (am_cc m8_claim) 41 = .ok (.ireturn, 1) by decide +kernel) rfl k
theorem g8_picture_0 {a1 a2 a3 a4 a5 : Int} {M : am_M} {Q : Option am_V → am_M → Prop} (k : am_CallN m8_claimOf [vr 0, vi a1, vi a2, vi a3, vi a4] KS M (fun r M' => am_AtN m8_picture 9 [some (vr 0), some (vi a1), some (vi a2), some (vi a3), some (vi a4), some (vi a5), none] (r.toList ++ []) KS M' Q)) : am_AtN m8_picture 0 [some (vr 0), some (vi a1), some (vi a2), some (vi a3), some (vi a4), some (vi a5), none] [] KS M Q := by
  refine s_aload_n (show decode (am_cc m8_picture) 0 = .ok (.aload_n 0, 1) by decide +kernel) rfl ?_
  refine s_iload_n (show decode (am_cc m8_picture) 1 = .ok (.iload_n 1, 1) by decide +kernel) rfl ?_
  refine s_iload_n (show decode (am_cc m8_picture) 2 = .ok (.iload_n 2, 1) by decide +kernel) rfl ?_
  refine s_iload_n (show decode (am_cc m8_picture) 3 = .ok (.iload_n 3, 1) by decide +kernel) rfl ?_
  refine s_iload (show decode (am_cc m8_picture) 4 = .ok (.iload 4, 2) by decide +kernel) rfl ?_
  exact n_callV (as := [vi a1, vi a2, vi a3, vi a4]) (stk := []) (show decode (am_cc m8_picture) 6 = .ok (.invokevirtual 175, 3) by decide +kernel) lk_RX8_175 kd0 (by decide) rfl rfl (by decide) (Nat.le_of_ble_eq_true rfl) ⟨rfl, rfl⟩ k
theorem g8_picture_9 {a1 a2 a3 a4 a5 t0 : Int} {M : am_M} {Q : Option am_V → am_M → Prop} (k1 : ¬ t0 = -1 → am_AtN m8_picture 18 [some (vr 0), some (vi a1), some (vi a2), some (vi a3), some (vi a4), some (vi a5), some (vr t0)] [] KS M Q) (k2 : t0 = -1 → am_AtN m8_picture 16 [some (vr 0), some (vi a1), some (vi a2), some (vi a3), some (vi a4), some (vi a5), some (vr t0)] [] KS M Q) : am_AtN m8_picture 9 [some (vr 0), some (vi a1), some (vi a2), some (vi a3), some (vi a4), some (vi a5), none] [vr t0] KS M Q := by
  refine s_astore (show decode (am_cc m8_picture) 9 = .ok (.astore 6, 2) by decide +kernel) (by decide) ?_
  refine s_aload (show decode (am_cc m8_picture) 11 = .ok (.aload 6, 2) by decide +kernel) rfl ?_
  exact s_ifnonnull (tgt := 18) (show decode (am_cc m8_picture) 13 = .ok (.ifnonnull 5, 3) by decide +kernel) (by decide) k1 k2
theorem g8_picture_16 {a1 a2 a3 a4 a5 a6 : Int} {M : am_M} {Q : Option am_V → am_M → Prop} (k : Q (some (vi (-1))) M) : am_AtN m8_picture 16 [some (vr 0), some (vi a1), some (vi a2), some (vi a3), some (vi a4), some (vi a5), some (vr a6)] [] KS M Q := by
  refine s_iconst (show decode (am_cc m8_picture) 16 = .ok (.iconst (-1), 1) by decide +kernel) ⟨by decide, by decide⟩ ?_
  exact s_ireturn (show decode (am_cc m8_picture) 17 = .ok (.ireturn, 1) by decide +kernel) rfl k
theorem g8_picture_18 {a1 a2 a3 a4 a5 a6 : Int} {M : am_M} {Q : Option am_V → am_M → Prop} (k1 : -1 ≤ a5 → am_AtN m8_picture 27 [some (vr 0), some (vi a1), some (vi a2), some (vi a3), some (vi a4), some (vi a5), some (vr a6)] [] KS M Q) (k2 : ¬ (-1 ≤ a5) → am_AtN m8_picture 24 [some (vr 0), some (vi a1), some (vi a2), some (vi a3), some (vi a4), some (vi a5), some (vr a6)] [] KS M Q) : am_AtN m8_picture 18 [some (vr 0), some (vi a1), some (vi a2), some (vi a3), some (vi a4), some (vi a5), some (vr a6)] [] KS M Q := by
  refine s_iload (show decode (am_cc m8_picture) 18 = .ok (.iload 5, 2) by decide +kernel) rfl ?_
  refine s_iconst (show decode (am_cc m8_picture) 20 = .ok (.iconst (-1), 1) by decide +kernel) ⟨by decide, by decide⟩ ?_
  exact s_icmp_ge (tgt := 27) (show decode (am_cc m8_picture) 21 = .ok (.if_icmp .ge 6, 3) by decide +kernel) (by decide) k1 k2
theorem g8_picture_24 {a1 a2 a3 a4 a5 a6 : Int} {M : am_M} {Q : Option am_V → am_M → Prop} (k : Q (some (vi (-2))) M) : am_AtN m8_picture 24 [some (vr 0), some (vi a1), some (vi a2), some (vi a3), some (vi a4), some (vi a5), some (vr a6)] [] KS M Q := by
  refine s_bipush (show decode (am_cc m8_picture) 24 = .ok (.bipush (-2), 2) by decide +kernel) ⟨by decide, by decide⟩ (by decide) ?_
  exact s_ireturn (show decode (am_cc m8_picture) 26 = .ok (.ireturn, 1) by decide +kernel) rfl k
theorem g8_picture_27 {a1 a2 a3 a4 a5 a6 : Int} {M : am_M} {Q : Option am_V → am_M → Prop} {r0 : List Int} (h1 : am_kd KS a6 = some (2, 8, r0)) (k : am_CallN m2_explore [vr a6] KS M (fun r M' => am_AtN m8_picture 32 [some (vr 0), some (vi a1), some (vi a2), some (vi a3), some (vi a4), some (vi a5), some (vr a6)] (r.toList ++ []) KS M' Q)) : am_AtN m8_picture 27 [some (vr 0), some (vi a1), some (vi a2), some (vi a3), some (vi a4), some (vi a5), some (vr a6)] [] KS M Q := by
  refine s_aload (show decode (am_cc m8_picture) 27 = .ok (.aload 6, 2) by decide +kernel) rfl ?_
  exact n_callV (as := []) (stk := []) (show decode (am_cc m8_picture) 29 = .ok (.invokevirtual 179, 3) by decide +kernel) lk_RX8_179 h1 (by decide) rfl rfl (by decide) (Nat.le_of_ble_eq_true rfl) ⟨rfl, rfl⟩ k
theorem g8_picture_32 {a1 a2 a3 a4 a5 a6 : Int} {M : am_M} {Q : Option am_V → am_M → Prop} {r0 : List Int} (h1 : am_kd KS a6 = some (2, 8, r0)) (k : am_CallN m2_pictureAt [vr a6, vi a5] KS M (fun r M' => am_AtN m8_picture 39 [some (vr 0), some (vi a1), some (vi a2), some (vi a3), some (vi a4), some (vi a5), some (vr a6)] (r.toList ++ []) KS M' Q)) : am_AtN m8_picture 32 [some (vr 0), some (vi a1), some (vi a2), some (vi a3), some (vi a4), some (vi a5), some (vr a6)] [] KS M Q := by
  refine s_aload (show decode (am_cc m8_picture) 32 = .ok (.aload 6, 2) by decide +kernel) rfl ?_
  refine s_iload (show decode (am_cc m8_picture) 34 = .ok (.iload 5, 2) by decide +kernel) rfl ?_
  exact n_callV (as := [vi a5]) (stk := []) (show decode (am_cc m8_picture) 36 = .ok (.invokevirtual 185, 3) by decide +kernel) lk_RX8_185 h1 (by decide) rfl rfl (by decide) (Nat.le_of_ble_eq_true rfl) ⟨rfl, rfl⟩ k
theorem g8_picture_39 {a1 a2 a3 a4 a5 a6 t0 : Int} {M : am_M} {Q : Option am_V → am_M → Prop} (k : Q (some (vi t0)) M) : am_AtN m8_picture 39 [some (vr 0), some (vi a1), some (vi a2), some (vi a3), some (vi a4), some (vi a5), some (vr a6)] [vi t0] KS M Q := by
  exact s_ireturn (show decode (am_cc m8_picture) 39 = .ok (.ireturn, 1) by decide +kernel) rfl k
theorem g8_met_0 {a1 a2 a3 a4 : Int} {M : am_M} {Q : Option am_V → am_M → Prop} (k : am_CallN m8_claimOf [vr 0, vi a1, vi a2, vi a3, vi a4] KS M (fun r M' => am_AtN m8_met 9 [some (vr 0), some (vi a1), some (vi a2), some (vi a3), some (vi a4), none] (r.toList ++ []) KS M' Q)) : am_AtN m8_met 0 [some (vr 0), some (vi a1), some (vi a2), some (vi a3), some (vi a4), none] [] KS M Q := by
  refine s_aload_n (show decode (am_cc m8_met) 0 = .ok (.aload_n 0, 1) by decide +kernel) rfl ?_
  refine s_iload_n (show decode (am_cc m8_met) 1 = .ok (.iload_n 1, 1) by decide +kernel) rfl ?_
  refine s_iload_n (show decode (am_cc m8_met) 2 = .ok (.iload_n 2, 1) by decide +kernel) rfl ?_
  refine s_iload_n (show decode (am_cc m8_met) 3 = .ok (.iload_n 3, 1) by decide +kernel) rfl ?_
  refine s_iload (show decode (am_cc m8_met) 4 = .ok (.iload 4, 2) by decide +kernel) rfl ?_
  exact n_callV (as := [vi a1, vi a2, vi a3, vi a4]) (stk := []) (show decode (am_cc m8_met) 6 = .ok (.invokevirtual 175, 3) by decide +kernel) lk_RX8_175 kd0 (by decide) rfl rfl (by decide) (Nat.le_of_ble_eq_true rfl) ⟨rfl, rfl⟩ k
theorem g8_met_9 {a1 a2 a3 a4 t0 : Int} {M : am_M} {Q : Option am_V → am_M → Prop} (k1 : ¬ t0 = -1 → am_AtN m8_met 18 [some (vr 0), some (vi a1), some (vi a2), some (vi a3), some (vi a4), some (vr t0)] [] KS M Q) (k2 : t0 = -1 → am_AtN m8_met 16 [some (vr 0), some (vi a1), some (vi a2), some (vi a3), some (vi a4), some (vr t0)] [] KS M Q) : am_AtN m8_met 9 [some (vr 0), some (vi a1), some (vi a2), some (vi a3), some (vi a4), none] [vr t0] KS M Q := by
  refine s_astore (show decode (am_cc m8_met) 9 = .ok (.astore 5, 2) by decide +kernel) (by decide) ?_
  refine s_aload (show decode (am_cc m8_met) 11 = .ok (.aload 5, 2) by decide +kernel) rfl ?_
  exact s_ifnonnull (tgt := 18) (show decode (am_cc m8_met) 13 = .ok (.ifnonnull 5, 3) by decide +kernel) (by decide) k1 k2
theorem g8_met_16 {a1 a2 a3 a4 a5 : Int} {M : am_M} {Q : Option am_V → am_M → Prop} (k : Q (some (vi (-1))) M) : am_AtN m8_met 16 [some (vr 0), some (vi a1), some (vi a2), some (vi a3), some (vi a4), some (vr a5)] [] KS M Q := by
  refine s_iconst (show decode (am_cc m8_met) 16 = .ok (.iconst (-1), 1) by decide +kernel) ⟨by decide, by decide⟩ ?_
  exact s_ireturn (show decode (am_cc m8_met) 17 = .ok (.ireturn, 1) by decide +kernel) rfl k
theorem g8_met_18 {a1 a2 a3 a4 a5 : Int} {M : am_M} {Q : Option am_V → am_M → Prop} {r0 : List Int} (h1 : am_kd KS a5 = some (2, 8, r0)) (k : am_CallN m2_explore [vr a5] KS M (fun r M' => am_AtN m8_met 23 [some (vr 0), some (vi a1), some (vi a2), some (vi a3), some (vi a4), some (vr a5)] (r.toList ++ []) KS M' Q)) : am_AtN m8_met 18 [some (vr 0), some (vi a1), some (vi a2), some (vi a3), some (vi a4), some (vr a5)] [] KS M Q := by
  refine s_aload (show decode (am_cc m8_met) 18 = .ok (.aload 5, 2) by decide +kernel) rfl ?_
  exact n_callV (as := []) (stk := []) (show decode (am_cc m8_met) 20 = .ok (.invokevirtual 179, 3) by decide +kernel) lk_RX8_179 h1 (by decide) rfl rfl (by decide) (Nat.le_of_ble_eq_true rfl) ⟨rfl, rfl⟩ k
theorem g8_met_23 {a1 a2 a3 a4 a5 : Int} {M : am_M} {Q : Option am_V → am_M → Prop} {r0 : List Int} (h1 : am_kd KS a5 = some (2, 8, r0)) (k : am_CallN m2_metPlaces [vr a5] KS M (fun r M' => am_AtN m8_met 28 [some (vr 0), some (vi a1), some (vi a2), some (vi a3), some (vi a4), some (vr a5)] (r.toList ++ []) KS M' Q)) : am_AtN m8_met 23 [some (vr 0), some (vi a1), some (vi a2), some (vi a3), some (vi a4), some (vr a5)] [] KS M Q := by
  refine s_aload (show decode (am_cc m8_met) 23 = .ok (.aload 5, 2) by decide +kernel) rfl ?_
  exact n_callV (as := []) (stk := []) (show decode (am_cc m8_met) 25 = .ok (.invokevirtual 188, 3) by decide +kernel) lk_RX8_188 h1 (by decide) rfl rfl (by decide) (Nat.le_of_ble_eq_true rfl) ⟨rfl, rfl⟩ k
theorem g8_met_28 {a1 a2 a3 a4 a5 t0 : Int} {M : am_M} {Q : Option am_V → am_M → Prop} (k : Q (some (vi t0)) M) : am_AtN m8_met 28 [some (vr 0), some (vi a1), some (vi a2), some (vi a3), some (vi a4), some (vr a5)] [vi t0] KS M Q := by
  exact s_ireturn (show decode (am_cc m8_met) 28 = .ok (.ireturn, 1) by decide +kernel) rfl k
theorem g8_place_0 {a1 a2 a3 a4 a5 : Int} {M : am_M} {Q : Option am_V → am_M → Prop} (k : am_CallN m8_claimOf [vr 0, vi a1, vi a2, vi a3, vi a4] KS M (fun r M' => am_AtN m8_place 9 [some (vr 0), some (vi a1), some (vi a2), some (vi a3), some (vi a4), some (vi a5), none] (r.toList ++ []) KS M' Q)) : am_AtN m8_place 0 [some (vr 0), some (vi a1), some (vi a2), some (vi a3), some (vi a4), some (vi a5), none] [] KS M Q := by
  refine s_aload_n (show decode (am_cc m8_place) 0 = .ok (.aload_n 0, 1) by decide +kernel) rfl ?_
  refine s_iload_n (show decode (am_cc m8_place) 1 = .ok (.iload_n 1, 1) by decide +kernel) rfl ?_
  refine s_iload_n (show decode (am_cc m8_place) 2 = .ok (.iload_n 2, 1) by decide +kernel) rfl ?_
  refine s_iload_n (show decode (am_cc m8_place) 3 = .ok (.iload_n 3, 1) by decide +kernel) rfl ?_
  refine s_iload (show decode (am_cc m8_place) 4 = .ok (.iload 4, 2) by decide +kernel) rfl ?_
  exact n_callV (as := [vi a1, vi a2, vi a3, vi a4]) (stk := []) (show decode (am_cc m8_place) 6 = .ok (.invokevirtual 175, 3) by decide +kernel) lk_RX8_175 kd0 (by decide) rfl rfl (by decide) (Nat.le_of_ble_eq_true rfl) ⟨rfl, rfl⟩ k
theorem g8_place_9 {a1 a2 a3 a4 a5 t0 : Int} {M : am_M} {Q : Option am_V → am_M → Prop} (k1 : ¬ t0 = -1 → am_AtN m8_place 18 [some (vr 0), some (vi a1), some (vi a2), some (vi a3), some (vi a4), some (vi a5), some (vr t0)] [] KS M Q) (k2 : t0 = -1 → am_AtN m8_place 16 [some (vr 0), some (vi a1), some (vi a2), some (vi a3), some (vi a4), some (vi a5), some (vr t0)] [] KS M Q) : am_AtN m8_place 9 [some (vr 0), some (vi a1), some (vi a2), some (vi a3), some (vi a4), some (vi a5), none] [vr t0] KS M Q := by
  refine s_astore (show decode (am_cc m8_place) 9 = .ok (.astore 6, 2) by decide +kernel) (by decide) ?_
  refine s_aload (show decode (am_cc m8_place) 11 = .ok (.aload 6, 2) by decide +kernel) rfl ?_
  exact s_ifnonnull (tgt := 18) (show decode (am_cc m8_place) 13 = .ok (.ifnonnull 5, 3) by decide +kernel) (by decide) k1 k2
theorem g8_place_16 {a1 a2 a3 a4 a5 a6 : Int} {M : am_M} {Q : Option am_V → am_M → Prop} (k : Q (some (vi (-1))) M) : am_AtN m8_place 16 [some (vr 0), some (vi a1), some (vi a2), some (vi a3), some (vi a4), some (vi a5), some (vr a6)] [] KS M Q := by
  refine s_iconst (show decode (am_cc m8_place) 16 = .ok (.iconst (-1), 1) by decide +kernel) ⟨by decide, by decide⟩ ?_
  exact s_ireturn (show decode (am_cc m8_place) 17 = .ok (.ireturn, 1) by decide +kernel) rfl k
theorem g8_place_18 {a1 a2 a3 a4 a5 a6 : Int} {M : am_M} {Q : Option am_V → am_M → Prop} {r0 : List Int} (h1 : am_kd KS a6 = some (2, 8, r0)) (k : am_CallN m2_explore [vr a6] KS M (fun r M' => am_AtN m8_place 23 [some (vr 0), some (vi a1), some (vi a2), some (vi a3), some (vi a4), some (vi a5), some (vr a6)] (r.toList ++ []) KS M' Q)) : am_AtN m8_place 18 [some (vr 0), some (vi a1), some (vi a2), some (vi a3), some (vi a4), some (vi a5), some (vr a6)] [] KS M Q := by
  refine s_aload (show decode (am_cc m8_place) 18 = .ok (.aload 6, 2) by decide +kernel) rfl ?_
  exact n_callV (as := []) (stk := []) (show decode (am_cc m8_place) 20 = .ok (.invokevirtual 179, 3) by decide +kernel) lk_RX8_179 h1 (by decide) rfl rfl (by decide) (Nat.le_of_ble_eq_true rfl) ⟨rfl, rfl⟩ k
theorem g8_place_23 {a1 a2 a3 a4 a5 a6 : Int} {M : am_M} {Q : Option am_V → am_M → Prop} {r0 : List Int} (h1 : am_kd KS a6 = some (2, 8, r0)) (k : am_CallN m2_metByNumber [vr a6, vi a5] KS M (fun r M' => am_AtN m8_place 30 [some (vr 0), some (vi a1), some (vi a2), some (vi a3), some (vi a4), some (vi a5), some (vr a6)] (r.toList ++ []) KS M' Q)) : am_AtN m8_place 23 [some (vr 0), some (vi a1), some (vi a2), some (vi a3), some (vi a4), some (vi a5), some (vr a6)] [] KS M Q := by
  refine s_aload (show decode (am_cc m8_place) 23 = .ok (.aload 6, 2) by decide +kernel) rfl ?_
  refine s_iload (show decode (am_cc m8_place) 25 = .ok (.iload 5, 2) by decide +kernel) rfl ?_
  exact n_callV (as := [vi a5]) (stk := []) (show decode (am_cc m8_place) 27 = .ok (.invokevirtual 191, 3) by decide +kernel) lk_RX8_191 h1 (by decide) rfl rfl (by decide) (Nat.le_of_ble_eq_true rfl) ⟨rfl, rfl⟩ k
theorem g8_place_30 {a1 a2 a3 a4 a5 a6 t0 : Int} {M : am_M} {Q : Option am_V → am_M → Prop} (k : Q (some (vi t0)) M) : am_AtN m8_place 30 [some (vr 0), some (vi a1), some (vi a2), some (vi a3), some (vi a4), some (vi a5), some (vr a6)] [vi t0] KS M Q := by
  exact s_ireturn (show decode (am_cc m8_place) 30 = .ok (.ireturn, 1) by decide +kernel) rfl k
theorem g8_sheet_0 {a1 a2 : Int} {M : am_M} {Q : Option am_V → am_M → Prop} (k : am_CallN m8_within [vi a1, vi 1296] KS M (fun r M' => am_AtN m8_sheet 7 [some (vr 0), some (vi a1), some (vi a2), none] (r.toList ++ []) KS M' Q)) : am_AtN m8_sheet 0 [some (vr 0), some (vi a1), some (vi a2), none] [] KS M Q := by
  refine s_iload_n (show decode (am_cc m8_sheet) 0 = .ok (.iload_n 1, 1) by decide +kernel) rfl ?_
  refine s_sipush (show decode (am_cc m8_sheet) 1 = .ok (.sipush 1296, 3) by decide +kernel) ⟨by decide, by decide⟩ (by decide) ?_
  exact n_callS (as := [vi a1, vi 1296]) (stk := []) (show decode (am_cc m8_sheet) 4 = .ok (.invokestatic 114, 3) by decide +kernel) lk_RX8_114 (by decide) (Nat.le_of_ble_eq_true rfl) ⟨rfl, rfl⟩ k
theorem g8_sheet_7 {a1 a2 t0 : Int} {M : am_M} {Q : Option am_V → am_M → Prop} (k1 : ¬ t0 = 0 → am_AtN m8_sheet 13 [some (vr 0), some (vi a1), some (vi a2), none] [] KS M Q) (k2 : t0 = 0 → am_AtN m8_sheet 10 [some (vr 0), some (vi a1), some (vi a2), none] [] KS M Q) : am_AtN m8_sheet 7 [some (vr 0), some (vi a1), some (vi a2), none] [vi t0] KS M Q := by
  exact s_if_ne (tgt := 13) (show decode (am_cc m8_sheet) 7 = .ok (.ifCond .ne 6, 3) by decide +kernel) (by decide) k1 k2
theorem g8_sheet_10 {a1 a2 : Int} {M : am_M} {Q : Option am_V → am_M → Prop} (k : Q (some (vi (-2))) M) : am_AtN m8_sheet 10 [some (vr 0), some (vi a1), some (vi a2), none] [] KS M Q := by
  refine s_bipush (show decode (am_cc m8_sheet) 10 = .ok (.bipush (-2), 2) by decide +kernel) ⟨by decide, by decide⟩ (by decide) ?_
  exact s_ireturn (show decode (am_cc m8_sheet) 12 = .ok (.ireturn, 1) by decide +kernel) rfl k
theorem g8_sheet_13 {a1 a2 : Int} {M : am_M} {Q : Option am_V → am_M → Prop} (h1 : 0 ≤ a1) (h2 : a1 < 1296) (k : am_CallN m8_oneIf [vi a2] KS M (fun r M' => am_AtN m8_sheet 29 [some (vr 0), some (vi a1), some (vi a2), some (vi (M 1 a1))] (r.toList ++ [vi a1, vr 1]) KS M' Q)) : am_AtN m8_sheet 13 [some (vr 0), some (vi a1), some (vi a2), none] [] KS M Q := by
  refine s_aload_n (show decode (am_cc m8_sheet) 13 = .ok (.aload_n 0, 1) by decide +kernel) rfl ?_
  refine s_getf (k := 2) (v := vr 1) (show decode (am_cc m8_sheet) 14 = .ok (.getfield 16, 3) by decide +kernel) kd0 (by decide) rfl jnX8 (by decide) lf_RX8_16 rfl ?_
  refine s_iload_n (show decode (am_cc m8_sheet) 17 = .ok (.iload_n 1, 1) by decide +kernel) rfl ?_
  refine s_iaload (show decode (am_cc m8_sheet) 18 = .ok (.iaload, 1) by decide +kernel) kd1 h1 h2 ?_
  refine s_istore_n (show decode (am_cc m8_sheet) 19 = .ok (.istore_n 3, 1) by decide +kernel) (by decide) ?_
  refine s_aload_n (show decode (am_cc m8_sheet) 20 = .ok (.aload_n 0, 1) by decide +kernel) rfl ?_
  refine s_getf (k := 2) (v := vr 1) (show decode (am_cc m8_sheet) 21 = .ok (.getfield 16, 3) by decide +kernel) kd0 (by decide) rfl jnX8 (by decide) lf_RX8_16 rfl ?_
  refine s_iload_n (show decode (am_cc m8_sheet) 24 = .ok (.iload_n 1, 1) by decide +kernel) rfl ?_
  refine s_iload_n (show decode (am_cc m8_sheet) 25 = .ok (.iload_n 2, 1) by decide +kernel) rfl ?_
  exact n_callS (as := [vi a2]) (stk := [vi a1, vr 1]) (show decode (am_cc m8_sheet) 26 = .ok (.invokestatic 130, 3) by decide +kernel) lk_RX8_130 (by decide) (Nat.le_of_ble_eq_true rfl) ⟨rfl, rfl⟩ k
theorem g8_sheet_29 {a1 a2 a3 t0 t1 t2 : Int} {M : am_M} {Q : Option am_V → am_M → Prop} {n0 : Nat} {q0 : List Int} (h1 : am_kd KS t0 = some (11, n0, q0)) (h2 : 0 ≤ t1) (h3 : t1 < (n0 : Int)) (h4 : 0 ≤ a1) (h5 : a1 < 1296) (h6 : -2147483648 ≤ ((am_up M t0 t1 t2) 1 a1) - a3 ∧ ((am_up M t0 t1 t2) 1 a1) - a3 ≤ 2147483647) (h7 : -2147483648 ≤ ((am_up M t0 t1 t2) 0 1) + (((am_up M t0 t1 t2) 1 a1) - a3) ∧ ((am_up M t0 t1 t2) 0 1) + (((am_up M t0 t1 t2) 1 a1) - a3) ≤ 2147483647) (k : Q (some (vi a3)) (am_up (am_up M t0 t1 t2) 0 1 (((am_up M t0 t1 t2) 0 1) + (((am_up M t0 t1 t2) 1 a1) - a3)))) : am_AtN m8_sheet 29 [some (vr 0), some (vi a1), some (vi a2), some (vi a3)] [vi t2, vi t1, vr t0] KS M Q := by
  refine s_iastore (show decode (am_cc m8_sheet) 29 = .ok (.iastore, 1) by decide +kernel) h1 h2 h3 ?_
  refine s_aload_n (show decode (am_cc m8_sheet) 30 = .ok (.aload_n 0, 1) by decide +kernel) rfl ?_
  refine s_dupr (show decode (am_cc m8_sheet) 31 = .ok (.dup, 1) by decide +kernel) ?_
  refine s_getf (k := 1) (v := vi ((am_up M t0 t1 t2) 0 1)) (show decode (am_cc m8_sheet) 32 = .ok (.getfield 13, 3) by decide +kernel) kd0 (by decide) rfl jnX8 (by decide) lf_RX8_13 rfl ?_
  refine s_aload_n (show decode (am_cc m8_sheet) 35 = .ok (.aload_n 0, 1) by decide +kernel) rfl ?_
  refine s_getf (k := 2) (v := vr 1) (show decode (am_cc m8_sheet) 36 = .ok (.getfield 16, 3) by decide +kernel) kd0 (by decide) rfl jnX8 (by decide) lf_RX8_16 rfl ?_
  refine s_iload_n (show decode (am_cc m8_sheet) 39 = .ok (.iload_n 1, 1) by decide +kernel) rfl ?_
  refine s_iaload (show decode (am_cc m8_sheet) 40 = .ok (.iaload, 1) by decide +kernel) kd1 h4 h5 ?_
  refine s_iload_n (show decode (am_cc m8_sheet) 41 = .ok (.iload_n 3, 1) by decide +kernel) rfl ?_
  refine s_isub (show decode (am_cc m8_sheet) 42 = .ok (.isub, 1) by decide +kernel) h6 ?_
  refine s_iadd (show decode (am_cc m8_sheet) 43 = .ok (.iadd, 1) by decide +kernel) h7 ?_
  refine s_putf (k := 1) (x := ((am_up M t0 t1 t2) 0 1) + (((am_up M t0 t1 t2) 1 a1) - a3)) (ty0 := tyX8) (show decode (am_cc m8_sheet) 44 = .ok (.putfield 13, 3) by decide +kernel) kd0 (by decide) rfl jnX8 tyX8_ok nmX8 (by decide) lf_RX8_13 rfl (Or.inl ⟨rfl, rfl, rfl⟩) ?_
  refine s_iload_n (show decode (am_cc m8_sheet) 47 = .ok (.iload_n 3, 1) by decide +kernel) rfl ?_
  exact s_ireturn (show decode (am_cc m8_sheet) 48 = .ok (.ireturn, 1) by decide +kernel) rfl k
theorem g8_write_0 {a1 a2 a3 a4 : Int} {M : am_M} {Q : Option am_V → am_M → Prop} (k : am_CallN m8_claimOf [vr 0, vi a1, vi a2, vi a3, vi a4] KS M (fun r M' => am_AtN m8_write 9 [some (vr 0), some (vi a1), some (vi a2), some (vi a3), some (vi a4), none, none] (r.toList ++ []) KS M' Q)) : am_AtN m8_write 0 [some (vr 0), some (vi a1), some (vi a2), some (vi a3), some (vi a4), none, none] [] KS M Q := by
  refine s_aload_n (show decode (am_cc m8_write) 0 = .ok (.aload_n 0, 1) by decide +kernel) rfl ?_
  refine s_iload_n (show decode (am_cc m8_write) 1 = .ok (.iload_n 1, 1) by decide +kernel) rfl ?_
  refine s_iload_n (show decode (am_cc m8_write) 2 = .ok (.iload_n 2, 1) by decide +kernel) rfl ?_
  refine s_iload_n (show decode (am_cc m8_write) 3 = .ok (.iload_n 3, 1) by decide +kernel) rfl ?_
  refine s_iload (show decode (am_cc m8_write) 4 = .ok (.iload 4, 2) by decide +kernel) rfl ?_
  exact n_callV (as := [vi a1, vi a2, vi a3, vi a4]) (stk := []) (show decode (am_cc m8_write) 6 = .ok (.invokevirtual 175, 3) by decide +kernel) lk_RX8_175 kd0 (by decide) rfl rfl (by decide) (Nat.le_of_ble_eq_true rfl) ⟨rfl, rfl⟩ k
theorem g8_write_9 {a1 a2 a3 a4 t0 : Int} {M : am_M} {Q : Option am_V → am_M → Prop} (k1 : ¬ t0 = -1 → am_AtN m8_write 18 [some (vr 0), some (vi a1), some (vi a2), some (vi a3), some (vi a4), some (vr t0), none] [] KS M Q) (k2 : t0 = -1 → am_AtN m8_write 16 [some (vr 0), some (vi a1), some (vi a2), some (vi a3), some (vi a4), some (vr t0), none] [] KS M Q) : am_AtN m8_write 9 [some (vr 0), some (vi a1), some (vi a2), some (vi a3), some (vi a4), none, none] [vr t0] KS M Q := by
  refine s_astore (show decode (am_cc m8_write) 9 = .ok (.astore 5, 2) by decide +kernel) (by decide) ?_
  refine s_aload (show decode (am_cc m8_write) 11 = .ok (.aload 5, 2) by decide +kernel) rfl ?_
  exact s_ifnonnull (tgt := 18) (show decode (am_cc m8_write) 13 = .ok (.ifnonnull 5, 3) by decide +kernel) (by decide) k1 k2
theorem g8_write_16 {a1 a2 a3 a4 a5 : Int} {M : am_M} {Q : Option am_V → am_M → Prop} (k : Q (some (vi (-1))) M) : am_AtN m8_write 16 [some (vr 0), some (vi a1), some (vi a2), some (vi a3), some (vi a4), some (vr a5), none] [] KS M Q := by
  refine s_iconst (show decode (am_cc m8_write) 16 = .ok (.iconst (-1), 1) by decide +kernel) ⟨by decide, by decide⟩ ?_
  exact s_ireturn (show decode (am_cc m8_write) 17 = .ok (.ireturn, 1) by decide +kernel) rfl k
theorem g8_write_18 {a1 a2 a3 a4 a5 : Int} {M : am_M} {Q : Option am_V → am_M → Prop} {r0 : List Int} (h1 : am_kd KS a5 = some (2, 8, r0)) (k : am_CallN m2_explore [vr a5] KS M (fun r M' => am_AtN m8_write 23 [some (vr 0), some (vi a1), some (vi a2), some (vi a3), some (vi a4), some (vr a5), none] (r.toList ++ []) KS M' Q)) : am_AtN m8_write 18 [some (vr 0), some (vi a1), some (vi a2), some (vi a3), some (vi a4), some (vr a5), none] [] KS M Q := by
  refine s_aload (show decode (am_cc m8_write) 18 = .ok (.aload 5, 2) by decide +kernel) rfl ?_
  exact n_callV (as := []) (stk := []) (show decode (am_cc m8_write) 20 = .ok (.invokevirtual 179, 3) by decide +kernel) lk_RX8_179 h1 (by decide) rfl rfl (by decide) (Nat.le_of_ble_eq_true rfl) ⟨rfl, rfl⟩ k
theorem g8_write_23 {a1 a2 a3 a4 a5 : Int} {M : am_M} {Q : Option am_V → am_M → Prop} (k : am_AtN m8_write 26 [some (vr 0), some (vi a1), some (vi a2), some (vi a3), some (vi a4), some (vr a5), some (vi 0)] [] KS M Q) : am_AtN m8_write 23 [some (vr 0), some (vi a1), some (vi a2), some (vi a3), some (vi a4), some (vr a5), none] [] KS M Q := by
  refine s_iconst (show decode (am_cc m8_write) 23 = .ok (.iconst 0, 1) by decide +kernel) ⟨by decide, by decide⟩ ?_
  refine s_istore (show decode (am_cc m8_write) 24 = .ok (.istore 6, 2) by decide +kernel) (by decide) ?_
  exact k
theorem g8_write_26 {a1 a2 a3 a4 a5 a6 : Int} {M : am_M} {Q : Option am_V → am_M → Prop} (k1 : 1296 ≤ a6 → am_AtN m8_write 57 [some (vr 0), some (vi a1), some (vi a2), some (vi a3), some (vi a4), some (vr a5), some (vi a6)] [] KS M Q) (k2 : ¬ (1296 ≤ a6) → am_AtN m8_write 34 [some (vr 0), some (vi a1), some (vi a2), some (vi a3), some (vi a4), some (vr a5), some (vi a6)] [] KS M Q) : am_AtN m8_write 26 [some (vr 0), some (vi a1), some (vi a2), some (vi a3), some (vi a4), some (vr a5), some (vi a6)] [] KS M Q := by
  refine s_iload (show decode (am_cc m8_write) 26 = .ok (.iload 6, 2) by decide +kernel) rfl ?_
  refine s_sipush (show decode (am_cc m8_write) 28 = .ok (.sipush 1296, 3) by decide +kernel) ⟨by decide, by decide⟩ (by decide) ?_
  exact s_icmp_ge (tgt := 57) (show decode (am_cc m8_write) 31 = .ok (.if_icmp .ge 26, 3) by decide +kernel) (by decide) k1 k2
theorem g8_write_34 {a1 a2 a3 a4 a5 a6 : Int} {M : am_M} {Q : Option am_V → am_M → Prop} {r0 : List Int} (h1 : am_kd KS a5 = some (2, 8, r0)) (k : am_CallN m2_isMet [vr a5, vi a6] KS M (fun r M' => am_AtN m8_write 47 [some (vr 0), some (vi a1), some (vi a2), some (vi a3), some (vi a4), some (vr a5), some (vi a6)] (r.toList ++ [vi a6, vr 1]) KS M' Q)) : am_AtN m8_write 34 [some (vr 0), some (vi a1), some (vi a2), some (vi a3), some (vi a4), some (vr a5), some (vi a6)] [] KS M Q := by
  refine s_aload_n (show decode (am_cc m8_write) 34 = .ok (.aload_n 0, 1) by decide +kernel) rfl ?_
  refine s_getf (k := 2) (v := vr 1) (show decode (am_cc m8_write) 35 = .ok (.getfield 16, 3) by decide +kernel) kd0 (by decide) rfl jnX8 (by decide) lf_RX8_16 rfl ?_
  refine s_iload (show decode (am_cc m8_write) 38 = .ok (.iload 6, 2) by decide +kernel) rfl ?_
  refine s_aload (show decode (am_cc m8_write) 40 = .ok (.aload 5, 2) by decide +kernel) rfl ?_
  refine s_iload (show decode (am_cc m8_write) 42 = .ok (.iload 6, 2) by decide +kernel) rfl ?_
  exact n_callV (as := [vi a6]) (stk := [vi a6, vr 1]) (show decode (am_cc m8_write) 44 = .ok (.invokevirtual 194, 3) by decide +kernel) lk_RX8_194 h1 (by decide) rfl rfl (by decide) (Nat.le_of_ble_eq_true rfl) ⟨rfl, rfl⟩ k
theorem g8_write_47 {a1 a2 a3 a4 a5 a6 t0 t1 t2 : Int} {M : am_M} {Q : Option am_V → am_M → Prop} (k : am_CallN m8_oneIf [vi t2] KS M (fun r M' => am_AtN m8_write 50 [some (vr 0), some (vi a1), some (vi a2), some (vi a3), some (vi a4), some (vr a5), some (vi a6)] (r.toList ++ [vi t1, vr t0]) KS M' Q)) : am_AtN m8_write 47 [some (vr 0), some (vi a1), some (vi a2), some (vi a3), some (vi a4), some (vr a5), some (vi a6)] [vi t2, vi t1, vr t0] KS M Q := by
  exact n_callS (as := [vi t2]) (stk := [vi t1, vr t0]) (show decode (am_cc m8_write) 47 = .ok (.invokestatic 130, 3) by decide +kernel) lk_RX8_130 (by decide) (Nat.le_of_ble_eq_true rfl) ⟨rfl, rfl⟩ k
theorem g8_write_50 {a1 a2 a3 a4 a5 a6 t0 t1 t2 : Int} {M : am_M} {Q : Option am_V → am_M → Prop} {n0 : Nat} {q0 : List Int} (h1 : am_kd KS t0 = some (11, n0, q0)) (h2 : 0 ≤ t1) (h3 : t1 < (n0 : Int)) (h4 : -2147483648 ≤ a6 + 1 ∧ a6 + 1 ≤ 2147483647) (k : am_AtN m8_write 26 [some (vr 0), some (vi a1), some (vi a2), some (vi a3), some (vi a4), some (vr a5), some (vi (a6 + 1))] [] KS (am_up M t0 t1 t2) Q) : am_AtN m8_write 50 [some (vr 0), some (vi a1), some (vi a2), some (vi a3), some (vi a4), some (vr a5), some (vi a6)] [vi t2, vi t1, vr t0] KS M Q := by
  refine s_iastore (show decode (am_cc m8_write) 50 = .ok (.iastore, 1) by decide +kernel) h1 h2 h3 ?_
  refine s_iinc (show decode (am_cc m8_write) 51 = .ok (.iinc 6 1, 3) by decide +kernel) rfl (by decide) h4 ?_
  refine s_goto (tgt := 26) (show decode (am_cc m8_write) 54 = .ok (.goto (-28), 3) by decide +kernel) (by decide) ?_
  exact k
theorem g8_write_57 {a1 a2 a3 a4 a5 a6 : Int} {M : am_M} {Q : Option am_V → am_M → Prop} {r0 : List Int} (h1 : am_kd KS a5 = some (2, 8, r0)) (k : am_CallN m2_metPlaces [vr a5] KS M (fun r M' => am_AtN m8_write 63 [some (vr 0), some (vi a1), some (vi a2), some (vi a3), some (vi a4), some (vr a5), some (vi a6)] (r.toList ++ [vr 0]) KS M' Q)) : am_AtN m8_write 57 [some (vr 0), some (vi a1), some (vi a2), some (vi a3), some (vi a4), some (vr a5), some (vi a6)] [] KS M Q := by
  refine s_aload_n (show decode (am_cc m8_write) 57 = .ok (.aload_n 0, 1) by decide +kernel) rfl ?_
  refine s_aload (show decode (am_cc m8_write) 58 = .ok (.aload 5, 2) by decide +kernel) rfl ?_
  exact n_callV (as := []) (stk := [vr 0]) (show decode (am_cc m8_write) 60 = .ok (.invokevirtual 188, 3) by decide +kernel) lk_RX8_188 h1 (by decide) rfl rfl (by decide) (Nat.le_of_ble_eq_true rfl) ⟨rfl, rfl⟩ k
theorem g8_write_63 {a1 a2 a3 a4 a5 a6 t0 t1 : Int} {M : am_M} {Q : Option am_V → am_M → Prop} {r0_0 : Int} {r0_1 : Int} {r0_2 : Int} {r0_3 : Int} {r0_4 : Int} {r0_5 : Int} {r0_6 : Int} {r0_7 : Int} {r0_8 : Int} {r0_9 : Int} {r0_10 : Int} {r0_11 : Int} {r0_12 : Int} {r0_13 : Int} {r0_14 : Int} {r0_15 : Int} (h1 : am_kd KS t0 = some (8, 16, [r0_0, r0_1, r0_2, r0_3, r0_4, r0_5, r0_6, r0_7, r0_8, r0_9, r0_10, r0_11, r0_12, r0_13, r0_14, r0_15])) (k : Q (some (vi ((am_up M t0 1 t1) 0 1))) (am_up M t0 1 t1)) : am_AtN m8_write 63 [some (vr 0), some (vi a1), some (vi a2), some (vi a3), some (vi a4), some (vr a5), some (vi a6)] [vi t1, vr t0] KS M Q := by
  refine s_putf (k := 1) (x := t1) (ty0 := tyX8) (show decode (am_cc m8_write) 63 = .ok (.putfield 13, 3) by decide +kernel) h1 (by decide) rfl jnX8 tyX8_ok nmX8 (by decide) lf_RX8_13 rfl (Or.inl ⟨rfl, rfl, rfl⟩) ?_
  refine s_aload_n (show decode (am_cc m8_write) 66 = .ok (.aload_n 0, 1) by decide +kernel) rfl ?_
  refine s_getf (k := 1) (v := vi ((am_up M t0 1 t1) 0 1)) (show decode (am_cc m8_write) 67 = .ok (.getfield 13, 3) by decide +kernel) kd0 (by decide) rfl jnX8 (by decide) lf_RX8_13 rfl ?_
  exact s_ireturn (show decode (am_cc m8_write) 70 = .ok (.ireturn, 1) by decide +kernel) rfl k
theorem g8_check_0 {a1 a2 a3 a4 : Int} {M : am_M} {Q : Option am_V → am_M → Prop} (k : am_CallN m8_claimOf [vr 0, vi a1, vi a2, vi a3, vi a4] KS M (fun r M' => am_AtN m8_check 9 [some (vr 0), some (vi a1), some (vi a2), some (vi a3), some (vi a4), none] (r.toList ++ []) KS M' Q)) : am_AtN m8_check 0 [some (vr 0), some (vi a1), some (vi a2), some (vi a3), some (vi a4), none] [] KS M Q := by
  refine s_aload_n (show decode (am_cc m8_check) 0 = .ok (.aload_n 0, 1) by decide +kernel) rfl ?_
  refine s_iload_n (show decode (am_cc m8_check) 1 = .ok (.iload_n 1, 1) by decide +kernel) rfl ?_
  refine s_iload_n (show decode (am_cc m8_check) 2 = .ok (.iload_n 2, 1) by decide +kernel) rfl ?_
  refine s_iload_n (show decode (am_cc m8_check) 3 = .ok (.iload_n 3, 1) by decide +kernel) rfl ?_
  refine s_iload (show decode (am_cc m8_check) 4 = .ok (.iload 4, 2) by decide +kernel) rfl ?_
  exact n_callV (as := [vi a1, vi a2, vi a3, vi a4]) (stk := []) (show decode (am_cc m8_check) 6 = .ok (.invokevirtual 175, 3) by decide +kernel) lk_RX8_175 kd0 (by decide) rfl rfl (by decide) (Nat.le_of_ble_eq_true rfl) ⟨rfl, rfl⟩ k
theorem g8_check_9 {a1 a2 a3 a4 t0 : Int} {M : am_M} {Q : Option am_V → am_M → Prop} (k1 : ¬ t0 = -1 → am_AtN m8_check 18 [some (vr 0), some (vi a1), some (vi a2), some (vi a3), some (vi a4), some (vr t0)] [] KS M Q) (k2 : t0 = -1 → am_AtN m8_check 16 [some (vr 0), some (vi a1), some (vi a2), some (vi a3), some (vi a4), some (vr t0)] [] KS M Q) : am_AtN m8_check 9 [some (vr 0), some (vi a1), some (vi a2), some (vi a3), some (vi a4), none] [vr t0] KS M Q := by
  refine s_astore (show decode (am_cc m8_check) 9 = .ok (.astore 5, 2) by decide +kernel) (by decide) ?_
  refine s_aload (show decode (am_cc m8_check) 11 = .ok (.aload 5, 2) by decide +kernel) rfl ?_
  exact s_ifnonnull (tgt := 18) (show decode (am_cc m8_check) 13 = .ok (.ifnonnull 5, 3) by decide +kernel) (by decide) k1 k2
theorem g8_check_16 {a1 a2 a3 a4 a5 : Int} {M : am_M} {Q : Option am_V → am_M → Prop} (k : Q (some (vi (-1))) M) : am_AtN m8_check 16 [some (vr 0), some (vi a1), some (vi a2), some (vi a3), some (vi a4), some (vr a5)] [] KS M Q := by
  refine s_iconst (show decode (am_cc m8_check) 16 = .ok (.iconst (-1), 1) by decide +kernel) ⟨by decide, by decide⟩ ?_
  exact s_ireturn (show decode (am_cc m8_check) 17 = .ok (.ireturn, 1) by decide +kernel) rfl k
theorem g8_check_18 {a1 a2 a3 a4 a5 : Int} {M : am_M} {Q : Option am_V → am_M → Prop} {r0 : List Int} (h1 : am_kd KS a5 = some (2, 8, r0)) (k : am_CallN m2_firstFault [vr a5, vr 1] KS M (fun r M' => am_AtN m8_check 27 [some (vr 0), some (vi a1), some (vi a2), some (vi a3), some (vi a4), some (vr a5)] (r.toList ++ []) KS M' Q)) : am_AtN m8_check 18 [some (vr 0), some (vi a1), some (vi a2), some (vi a3), some (vi a4), some (vr a5)] [] KS M Q := by
  refine s_aload (show decode (am_cc m8_check) 18 = .ok (.aload 5, 2) by decide +kernel) rfl ?_
  refine s_aload_n (show decode (am_cc m8_check) 20 = .ok (.aload_n 0, 1) by decide +kernel) rfl ?_
  refine s_getf (k := 2) (v := vr 1) (show decode (am_cc m8_check) 21 = .ok (.getfield 16, 3) by decide +kernel) kd0 (by decide) rfl jnX8 (by decide) lf_RX8_16 rfl ?_
  exact n_callV (as := [vr 1]) (stk := []) (show decode (am_cc m8_check) 24 = .ok (.invokevirtual 197, 3) by decide +kernel) lk_RX8_197 h1 (by decide) rfl rfl (by decide) (Nat.le_of_ble_eq_true rfl) ⟨rfl, rfl⟩ k
theorem g8_check_27 {a1 a2 a3 a4 a5 t0 : Int} {M : am_M} {Q : Option am_V → am_M → Prop} (k : Q (some (vi t0)) M) : am_AtN m8_check 27 [some (vr 0), some (vi a1), some (vi a2), some (vi a3), some (vi a4), some (vr a5)] [vi t0] KS M Q := by
  exact s_ireturn (show decode (am_cc m8_check) 27 = .ok (.ireturn, 1) by decide +kernel) rfl k
theorem g8_stays_0 {a1 a2 a3 : Int} {M : am_M} {Q : Option am_V → am_M → Prop} (k : am_CallN m8_sentenceOf [vr 0, vi a1] KS M (fun r M' => am_AtN m8_stays 5 [some (vr 0), some (vi a1), some (vi a2), some (vi a3), none, none] (r.toList ++ []) KS M' Q)) : am_AtN m8_stays 0 [some (vr 0), some (vi a1), some (vi a2), some (vi a3), none, none] [] KS M Q := by
  refine s_aload_n (show decode (am_cc m8_stays) 0 = .ok (.aload_n 0, 1) by decide +kernel) rfl ?_
  refine s_iload_n (show decode (am_cc m8_stays) 1 = .ok (.iload_n 1, 1) by decide +kernel) rfl ?_
  exact n_callV (as := [vi a1]) (stk := []) (show decode (am_cc m8_stays) 2 = .ok (.invokevirtual 110, 3) by decide +kernel) lk_RX8_110 kd0 (by decide) rfl rfl (by decide) (Nat.le_of_ble_eq_true rfl) ⟨rfl, rfl⟩ k
theorem g8_stays_5 {a1 a2 a3 t0 : Int} {M : am_M} {Q : Option am_V → am_M → Prop} (k : am_CallN m8_programOf [vr 0, vi a2] KS M (fun r M' => am_AtN m8_stays 12 [some (vr 0), some (vi a1), some (vi a2), some (vi a3), some (vr t0), none] (r.toList ++ []) KS M' Q)) : am_AtN m8_stays 5 [some (vr 0), some (vi a1), some (vi a2), some (vi a3), none, none] [vr t0] KS M Q := by
  refine s_astore (show decode (am_cc m8_stays) 5 = .ok (.astore 4, 2) by decide +kernel) (by decide) ?_
  refine s_aload_n (show decode (am_cc m8_stays) 7 = .ok (.aload_n 0, 1) by decide +kernel) rfl ?_
  refine s_iload_n (show decode (am_cc m8_stays) 8 = .ok (.iload_n 2, 1) by decide +kernel) rfl ?_
  exact n_callV (as := [vi a2]) (stk := []) (show decode (am_cc m8_stays) 9 = .ok (.invokevirtual 153, 3) by decide +kernel) lk_RX8_153 kd0 (by decide) rfl rfl (by decide) (Nat.le_of_ble_eq_true rfl) ⟨rfl, rfl⟩ k
theorem g8_stays_12 {a1 a2 a3 a4 t0 : Int} {M : am_M} {Q : Option am_V → am_M → Prop} (k1 : a4 = -1 → am_AtN m8_stays 35 [some (vr 0), some (vi a1), some (vi a2), some (vi a3), some (vr a4), some (vr t0)] [] KS M Q) (k2 : ¬ a4 = -1 → am_AtN m8_stays 19 [some (vr 0), some (vi a1), some (vi a2), some (vi a3), some (vr a4), some (vr t0)] [] KS M Q) : am_AtN m8_stays 12 [some (vr 0), some (vi a1), some (vi a2), some (vi a3), some (vr a4), none] [vr t0] KS M Q := by
  refine s_astore (show decode (am_cc m8_stays) 12 = .ok (.astore 5, 2) by decide +kernel) (by decide) ?_
  refine s_aload (show decode (am_cc m8_stays) 14 = .ok (.aload 4, 2) by decide +kernel) rfl ?_
  exact s_ifnull (tgt := 35) (show decode (am_cc m8_stays) 16 = .ok (.ifnull 19, 3) by decide +kernel) (by decide) k1 k2
theorem g8_stays_19 {a1 a2 a3 a4 a5 : Int} {M : am_M} {Q : Option am_V → am_M → Prop} (k1 : a5 = -1 → am_AtN m8_stays 35 [some (vr 0), some (vi a1), some (vi a2), some (vi a3), some (vr a4), some (vr a5)] [] KS M Q) (k2 : ¬ a5 = -1 → am_AtN m8_stays 24 [some (vr 0), some (vi a1), some (vi a2), some (vi a3), some (vr a4), some (vr a5)] [] KS M Q) : am_AtN m8_stays 19 [some (vr 0), some (vi a1), some (vi a2), some (vi a3), some (vr a4), some (vr a5)] [] KS M Q := by
  refine s_aload (show decode (am_cc m8_stays) 19 = .ok (.aload 5, 2) by decide +kernel) rfl ?_
  exact s_ifnull (tgt := 35) (show decode (am_cc m8_stays) 21 = .ok (.ifnull 14, 3) by decide +kernel) (by decide) k1 k2
theorem g8_stays_24 {a1 a2 a3 a4 a5 : Int} {M : am_M} {Q : Option am_V → am_M → Prop} (k : am_CallN m8_within [vi a3, vi (M 0 0)] KS M (fun r M' => am_AtN m8_stays 32 [some (vr 0), some (vi a1), some (vi a2), some (vi a3), some (vr a4), some (vr a5)] (r.toList ++ []) KS M' Q)) : am_AtN m8_stays 24 [some (vr 0), some (vi a1), some (vi a2), some (vi a3), some (vr a4), some (vr a5)] [] KS M Q := by
  refine s_iload_n (show decode (am_cc m8_stays) 24 = .ok (.iload_n 3, 1) by decide +kernel) rfl ?_
  refine s_aload_n (show decode (am_cc m8_stays) 25 = .ok (.aload_n 0, 1) by decide +kernel) rfl ?_
  refine s_getf (k := 0) (v := vi (M 0 0)) (show decode (am_cc m8_stays) 26 = .ok (.getfield 9, 3) by decide +kernel) kd0 (by decide) rfl jnX8 (by decide) lf_RX8_9 rfl ?_
  exact n_callS (as := [vi a3, vi (M 0 0)]) (stk := []) (show decode (am_cc m8_stays) 29 = .ok (.invokestatic 114, 3) by decide +kernel) lk_RX8_114 (by decide) (Nat.le_of_ble_eq_true rfl) ⟨rfl, rfl⟩ k
theorem g8_stays_32 {a1 a2 a3 a4 a5 t0 : Int} {M : am_M} {Q : Option am_V → am_M → Prop} (k1 : ¬ t0 = 0 → am_AtN m8_stays 37 [some (vr 0), some (vi a1), some (vi a2), some (vi a3), some (vr a4), some (vr a5)] [] KS M Q) (k2 : t0 = 0 → am_AtN m8_stays 35 [some (vr 0), some (vi a1), some (vi a2), some (vi a3), some (vr a4), some (vr a5)] [] KS M Q) : am_AtN m8_stays 32 [some (vr 0), some (vi a1), some (vi a2), some (vi a3), some (vr a4), some (vr a5)] [vi t0] KS M Q := by
  exact s_if_ne (tgt := 37) (show decode (am_cc m8_stays) 32 = .ok (.ifCond .ne 5, 3) by decide +kernel) (by decide) k1 k2
theorem g8_stays_35 {a1 a2 a3 a4 a5 : Int} {M : am_M} {Q : Option am_V → am_M → Prop} (k : Q (some (vi (-1))) M) : am_AtN m8_stays 35 [some (vr 0), some (vi a1), some (vi a2), some (vi a3), some (vr a4), some (vr a5)] [] KS M Q := by
  refine s_iconst (show decode (am_cc m8_stays) 35 = .ok (.iconst (-1), 1) by decide +kernel) ⟨by decide, by decide⟩ ?_
  exact s_ireturn (show decode (am_cc m8_stays) 36 = .ok (.ireturn, 1) by decide +kernel) rfl k
theorem g8_stays_37 {a1 a2 a3 a4 a5 : Int} {M : am_M} {Q : Option am_V → am_M → Prop} (k : am_CallN m1_shortestUneven [vr 69, vr a4, vr a5, vi a3, vi (M 0 0)] KS M (fun r M' => am_AtN m8_stays 53 [some (vr 0), some (vi a1), some (vi a2), some (vi a3), some (vr a4), some (vr a5)] (r.toList ++ []) KS M' Q)) : am_AtN m8_stays 37 [some (vr 0), some (vi a1), some (vi a2), some (vi a3), some (vr a4), some (vr a5)] [] KS M Q := by
  refine s_aload_n (show decode (am_cc m8_stays) 37 = .ok (.aload_n 0, 1) by decide +kernel) rfl ?_
  refine s_getf (k := 13) (v := vr 69) (show decode (am_cc m8_stays) 38 = .ok (.getfield 79, 3) by decide +kernel) kd0 (by decide) rfl jnX8 (by decide) lf_RX8_79 rfl ?_
  refine s_aload (show decode (am_cc m8_stays) 41 = .ok (.aload 4, 2) by decide +kernel) rfl ?_
  refine s_aload (show decode (am_cc m8_stays) 43 = .ok (.aload 5, 2) by decide +kernel) rfl ?_
  refine s_iload_n (show decode (am_cc m8_stays) 45 = .ok (.iload_n 3, 1) by decide +kernel) rfl ?_
  refine s_aload_n (show decode (am_cc m8_stays) 46 = .ok (.aload_n 0, 1) by decide +kernel) rfl ?_
  refine s_getf (k := 0) (v := vi (M 0 0)) (show decode (am_cc m8_stays) 47 = .ok (.getfield 9, 3) by decide +kernel) kd0 (by decide) rfl jnX8 (by decide) lf_RX8_9 rfl ?_
  exact n_callV (as := [vr a4, vr a5, vi a3, vi (M 0 0)]) (stk := []) (show decode (am_cc m8_stays) 50 = .ok (.invokevirtual 201, 3) by decide +kernel) lk_RX8_201 kd69 (by decide) rfl rfl (by decide) (Nat.le_of_ble_eq_true rfl) ⟨rfl, rfl⟩ k
theorem g8_stays_53 {a1 a2 a3 a4 a5 t0 : Int} {M : am_M} {Q : Option am_V → am_M → Prop} (k1 : ¬ t0 = -9 → am_AtN m8_stays 62 [some (vr 0), some (vi a1), some (vi a2), some (vi a3), some (vr a4), some (vr a5)] [] KS M Q) (k2 : t0 = -9 → am_AtN m8_stays 58 [some (vr 0), some (vi a1), some (vi a2), some (vi a3), some (vr a4), some (vr a5)] [] KS M Q) : am_AtN m8_stays 53 [some (vr 0), some (vi a1), some (vi a2), some (vi a3), some (vr a4), some (vr a5)] [vi t0] KS M Q := by
  refine s_bipush (show decode (am_cc m8_stays) 53 = .ok (.bipush (-9), 2) by decide +kernel) ⟨by decide, by decide⟩ (by decide) ?_
  exact s_icmp_ne (tgt := 62) (show decode (am_cc m8_stays) 55 = .ok (.if_icmp .ne 7, 3) by decide +kernel) (by decide) k1 k2
theorem g8_stays_58 {a1 a2 a3 a4 a5 : Int} {M : am_M} {Q : Option am_V → am_M → Prop} (k : am_AtN m8_stays 63 [some (vr 0), some (vi a1), some (vi a2), some (vi a3), some (vr a4), some (vr a5)] [vi 1] KS M Q) : am_AtN m8_stays 58 [some (vr 0), some (vi a1), some (vi a2), some (vi a3), some (vr a4), some (vr a5)] [] KS M Q := by
  refine s_iconst (show decode (am_cc m8_stays) 58 = .ok (.iconst 1, 1) by decide +kernel) ⟨by decide, by decide⟩ ?_
  refine s_goto (tgt := 63) (show decode (am_cc m8_stays) 59 = .ok (.goto 4, 3) by decide +kernel) (by decide) ?_
  exact k
theorem g8_stays_62 {a1 a2 a3 a4 a5 : Int} {M : am_M} {Q : Option am_V → am_M → Prop} (k : am_AtN m8_stays 63 [some (vr 0), some (vi a1), some (vi a2), some (vi a3), some (vr a4), some (vr a5)] [vi 0] KS M Q) : am_AtN m8_stays 62 [some (vr 0), some (vi a1), some (vi a2), some (vi a3), some (vr a4), some (vr a5)] [] KS M Q := by
  refine s_iconst (show decode (am_cc m8_stays) 62 = .ok (.iconst 0, 1) by decide +kernel) ⟨by decide, by decide⟩ ?_
  exact k
theorem g8_stays_63 {a1 a2 a3 a4 a5 t0 : Int} {M : am_M} {Q : Option am_V → am_M → Prop} (k : am_CallN m8_oneIf [vi t0] KS M (fun r M' => am_AtN m8_stays 66 [some (vr 0), some (vi a1), some (vi a2), some (vi a3), some (vr a4), some (vr a5)] (r.toList ++ []) KS M' Q)) : am_AtN m8_stays 63 [some (vr 0), some (vi a1), some (vi a2), some (vi a3), some (vr a4), some (vr a5)] [vi t0] KS M Q := by
  exact n_callS (as := [vi t0]) (stk := []) (show decode (am_cc m8_stays) 63 = .ok (.invokestatic 130, 3) by decide +kernel) lk_RX8_130 (by decide) (Nat.le_of_ble_eq_true rfl) ⟨rfl, rfl⟩ k
theorem g8_stays_66 {a1 a2 a3 a4 a5 t0 : Int} {M : am_M} {Q : Option am_V → am_M → Prop} (k : Q (some (vi t0)) M) : am_AtN m8_stays 66 [some (vr 0), some (vi a1), some (vi a2), some (vi a3), some (vr a4), some (vr a5)] [vi t0] KS M Q := by
  exact s_ireturn (show decode (am_cc m8_stays) 66 = .ok (.ireturn, 1) by decide +kernel) rfl k
theorem g8_witness_0 {a1 a2 a3 : Int} {M : am_M} {Q : Option am_V → am_M → Prop} (k : am_CallN m8_sentenceOf [vr 0, vi a1] KS M (fun r M' => am_AtN m8_witness 5 [some (vr 0), some (vi a1), some (vi a2), some (vi a3), none, none] (r.toList ++ []) KS M' Q)) : am_AtN m8_witness 0 [some (vr 0), some (vi a1), some (vi a2), some (vi a3), none, none] [] KS M Q := by
  refine s_aload_n (show decode (am_cc m8_witness) 0 = .ok (.aload_n 0, 1) by decide +kernel) rfl ?_
  refine s_iload_n (show decode (am_cc m8_witness) 1 = .ok (.iload_n 1, 1) by decide +kernel) rfl ?_
  exact n_callV (as := [vi a1]) (stk := []) (show decode (am_cc m8_witness) 2 = .ok (.invokevirtual 110, 3) by decide +kernel) lk_RX8_110 kd0 (by decide) rfl rfl (by decide) (Nat.le_of_ble_eq_true rfl) ⟨rfl, rfl⟩ k
theorem g8_witness_5 {a1 a2 a3 t0 : Int} {M : am_M} {Q : Option am_V → am_M → Prop} (k : am_CallN m8_programOf [vr 0, vi a2] KS M (fun r M' => am_AtN m8_witness 12 [some (vr 0), some (vi a1), some (vi a2), some (vi a3), some (vr t0), none] (r.toList ++ []) KS M' Q)) : am_AtN m8_witness 5 [some (vr 0), some (vi a1), some (vi a2), some (vi a3), none, none] [vr t0] KS M Q := by
  refine s_astore (show decode (am_cc m8_witness) 5 = .ok (.astore 4, 2) by decide +kernel) (by decide) ?_
  refine s_aload_n (show decode (am_cc m8_witness) 7 = .ok (.aload_n 0, 1) by decide +kernel) rfl ?_
  refine s_iload_n (show decode (am_cc m8_witness) 8 = .ok (.iload_n 2, 1) by decide +kernel) rfl ?_
  exact n_callV (as := [vi a2]) (stk := []) (show decode (am_cc m8_witness) 9 = .ok (.invokevirtual 153, 3) by decide +kernel) lk_RX8_153 kd0 (by decide) rfl rfl (by decide) (Nat.le_of_ble_eq_true rfl) ⟨rfl, rfl⟩ k
theorem g8_witness_12 {a1 a2 a3 a4 t0 : Int} {M : am_M} {Q : Option am_V → am_M → Prop} (k1 : a4 = -1 → am_AtN m8_witness 35 [some (vr 0), some (vi a1), some (vi a2), some (vi a3), some (vr a4), some (vr t0)] [] KS M Q) (k2 : ¬ a4 = -1 → am_AtN m8_witness 19 [some (vr 0), some (vi a1), some (vi a2), some (vi a3), some (vr a4), some (vr t0)] [] KS M Q) : am_AtN m8_witness 12 [some (vr 0), some (vi a1), some (vi a2), some (vi a3), some (vr a4), none] [vr t0] KS M Q := by
  refine s_astore (show decode (am_cc m8_witness) 12 = .ok (.astore 5, 2) by decide +kernel) (by decide) ?_
  refine s_aload (show decode (am_cc m8_witness) 14 = .ok (.aload 4, 2) by decide +kernel) rfl ?_
  exact s_ifnull (tgt := 35) (show decode (am_cc m8_witness) 16 = .ok (.ifnull 19, 3) by decide +kernel) (by decide) k1 k2
theorem g8_witness_19 {a1 a2 a3 a4 a5 : Int} {M : am_M} {Q : Option am_V → am_M → Prop} (k1 : a5 = -1 → am_AtN m8_witness 35 [some (vr 0), some (vi a1), some (vi a2), some (vi a3), some (vr a4), some (vr a5)] [] KS M Q) (k2 : ¬ a5 = -1 → am_AtN m8_witness 24 [some (vr 0), some (vi a1), some (vi a2), some (vi a3), some (vr a4), some (vr a5)] [] KS M Q) : am_AtN m8_witness 19 [some (vr 0), some (vi a1), some (vi a2), some (vi a3), some (vr a4), some (vr a5)] [] KS M Q := by
  refine s_aload (show decode (am_cc m8_witness) 19 = .ok (.aload 5, 2) by decide +kernel) rfl ?_
  exact s_ifnull (tgt := 35) (show decode (am_cc m8_witness) 21 = .ok (.ifnull 14, 3) by decide +kernel) (by decide) k1 k2
theorem g8_witness_24 {a1 a2 a3 a4 a5 : Int} {M : am_M} {Q : Option am_V → am_M → Prop} (k : am_CallN m8_within [vi a3, vi (M 0 0)] KS M (fun r M' => am_AtN m8_witness 32 [some (vr 0), some (vi a1), some (vi a2), some (vi a3), some (vr a4), some (vr a5)] (r.toList ++ []) KS M' Q)) : am_AtN m8_witness 24 [some (vr 0), some (vi a1), some (vi a2), some (vi a3), some (vr a4), some (vr a5)] [] KS M Q := by
  refine s_iload_n (show decode (am_cc m8_witness) 24 = .ok (.iload_n 3, 1) by decide +kernel) rfl ?_
  refine s_aload_n (show decode (am_cc m8_witness) 25 = .ok (.aload_n 0, 1) by decide +kernel) rfl ?_
  refine s_getf (k := 0) (v := vi (M 0 0)) (show decode (am_cc m8_witness) 26 = .ok (.getfield 9, 3) by decide +kernel) kd0 (by decide) rfl jnX8 (by decide) lf_RX8_9 rfl ?_
  exact n_callS (as := [vi a3, vi (M 0 0)]) (stk := []) (show decode (am_cc m8_witness) 29 = .ok (.invokestatic 114, 3) by decide +kernel) lk_RX8_114 (by decide) (Nat.le_of_ble_eq_true rfl) ⟨rfl, rfl⟩ k
theorem g8_witness_32 {a1 a2 a3 a4 a5 t0 : Int} {M : am_M} {Q : Option am_V → am_M → Prop} (k1 : ¬ t0 = 0 → am_AtN m8_witness 37 [some (vr 0), some (vi a1), some (vi a2), some (vi a3), some (vr a4), some (vr a5)] [] KS M Q) (k2 : t0 = 0 → am_AtN m8_witness 35 [some (vr 0), some (vi a1), some (vi a2), some (vi a3), some (vr a4), some (vr a5)] [] KS M Q) : am_AtN m8_witness 32 [some (vr 0), some (vi a1), some (vi a2), some (vi a3), some (vr a4), some (vr a5)] [vi t0] KS M Q := by
  exact s_if_ne (tgt := 37) (show decode (am_cc m8_witness) 32 = .ok (.ifCond .ne 5, 3) by decide +kernel) (by decide) k1 k2
theorem g8_witness_35 {a1 a2 a3 a4 a5 : Int} {M : am_M} {Q : Option am_V → am_M → Prop} (k : Q (some (vi (-1))) M) : am_AtN m8_witness 35 [some (vr 0), some (vi a1), some (vi a2), some (vi a3), some (vr a4), some (vr a5)] [] KS M Q := by
  refine s_iconst (show decode (am_cc m8_witness) 35 = .ok (.iconst (-1), 1) by decide +kernel) ⟨by decide, by decide⟩ ?_
  exact s_ireturn (show decode (am_cc m8_witness) 36 = .ok (.ireturn, 1) by decide +kernel) rfl k
theorem g8_witness_37 {a1 a2 a3 a4 a5 : Int} {M : am_M} {Q : Option am_V → am_M → Prop} (k : am_CallN m1_shortestUneven [vr 69, vr a4, vr a5, vi a3, vi (M 0 0)] KS M (fun r M' => am_AtN m8_witness 53 [some (vr 0), some (vi a1), some (vi a2), some (vi a3), some (vr a4), some (vr a5)] (r.toList ++ []) KS M' Q)) : am_AtN m8_witness 37 [some (vr 0), some (vi a1), some (vi a2), some (vi a3), some (vr a4), some (vr a5)] [] KS M Q := by
  refine s_aload_n (show decode (am_cc m8_witness) 37 = .ok (.aload_n 0, 1) by decide +kernel) rfl ?_
  refine s_getf (k := 13) (v := vr 69) (show decode (am_cc m8_witness) 38 = .ok (.getfield 79, 3) by decide +kernel) kd0 (by decide) rfl jnX8 (by decide) lf_RX8_79 rfl ?_
  refine s_aload (show decode (am_cc m8_witness) 41 = .ok (.aload 4, 2) by decide +kernel) rfl ?_
  refine s_aload (show decode (am_cc m8_witness) 43 = .ok (.aload 5, 2) by decide +kernel) rfl ?_
  refine s_iload_n (show decode (am_cc m8_witness) 45 = .ok (.iload_n 3, 1) by decide +kernel) rfl ?_
  refine s_aload_n (show decode (am_cc m8_witness) 46 = .ok (.aload_n 0, 1) by decide +kernel) rfl ?_
  refine s_getf (k := 0) (v := vi (M 0 0)) (show decode (am_cc m8_witness) 47 = .ok (.getfield 9, 3) by decide +kernel) kd0 (by decide) rfl jnX8 (by decide) lf_RX8_9 rfl ?_
  exact n_callV (as := [vr a4, vr a5, vi a3, vi (M 0 0)]) (stk := []) (show decode (am_cc m8_witness) 50 = .ok (.invokevirtual 201, 3) by decide +kernel) lk_RX8_201 kd69 (by decide) rfl rfl (by decide) (Nat.le_of_ble_eq_true rfl) ⟨rfl, rfl⟩ k
theorem g8_witness_53 {a1 a2 a3 a4 a5 t0 : Int} {M : am_M} {Q : Option am_V → am_M → Prop} (k : Q (some (vi t0)) M) : am_AtN m8_witness 53 [some (vr 0), some (vi a1), some (vi a2), some (vi a3), some (vr a4), some (vr a5)] [vi t0] KS M Q := by
  exact s_ireturn (show decode (am_cc m8_witness) 53 = .ok (.ireturn, 1) by decide +kernel) rfl k
theorem g8_agree_0 {a1 a2 a3 : Int} {M : am_M} {Q : Option am_V → am_M → Prop} (k : am_CallN m8_sentenceOf [vr 0, vi a1] KS M (fun r M' => am_AtN m8_agree 5 [some (vr 0), some (vi a1), some (vi a2), some (vi a3), none, none, none] (r.toList ++ []) KS M' Q)) : am_AtN m8_agree 0 [some (vr 0), some (vi a1), some (vi a2), some (vi a3), none, none, none] [] KS M Q := by
  refine s_aload_n (show decode (am_cc m8_agree) 0 = .ok (.aload_n 0, 1) by decide +kernel) rfl ?_
  refine s_iload_n (show decode (am_cc m8_agree) 1 = .ok (.iload_n 1, 1) by decide +kernel) rfl ?_
  exact n_callV (as := [vi a1]) (stk := []) (show decode (am_cc m8_agree) 2 = .ok (.invokevirtual 110, 3) by decide +kernel) lk_RX8_110 kd0 (by decide) rfl rfl (by decide) (Nat.le_of_ble_eq_true rfl) ⟨rfl, rfl⟩ k
theorem g8_agree_5 {a1 a2 a3 t0 : Int} {M : am_M} {Q : Option am_V → am_M → Prop} (k : am_CallN m8_programOf [vr 0, vi a2] KS M (fun r M' => am_AtN m8_agree 12 [some (vr 0), some (vi a1), some (vi a2), some (vi a3), some (vr t0), none, none] (r.toList ++ []) KS M' Q)) : am_AtN m8_agree 5 [some (vr 0), some (vi a1), some (vi a2), some (vi a3), none, none, none] [vr t0] KS M Q := by
  refine s_astore (show decode (am_cc m8_agree) 5 = .ok (.astore 4, 2) by decide +kernel) (by decide) ?_
  refine s_aload_n (show decode (am_cc m8_agree) 7 = .ok (.aload_n 0, 1) by decide +kernel) rfl ?_
  refine s_iload_n (show decode (am_cc m8_agree) 8 = .ok (.iload_n 2, 1) by decide +kernel) rfl ?_
  exact n_callV (as := [vi a2]) (stk := []) (show decode (am_cc m8_agree) 9 = .ok (.invokevirtual 153, 3) by decide +kernel) lk_RX8_153 kd0 (by decide) rfl rfl (by decide) (Nat.le_of_ble_eq_true rfl) ⟨rfl, rfl⟩ k
theorem g8_agree_12 {a1 a2 a3 a4 t0 : Int} {M : am_M} {Q : Option am_V → am_M → Prop} (k : am_CallN m8_programOf [vr 0, vi a3] KS M (fun r M' => am_AtN m8_agree 19 [some (vr 0), some (vi a1), some (vi a2), some (vi a3), some (vr a4), some (vr t0), none] (r.toList ++ []) KS M' Q)) : am_AtN m8_agree 12 [some (vr 0), some (vi a1), some (vi a2), some (vi a3), some (vr a4), none, none] [vr t0] KS M Q := by
  refine s_astore (show decode (am_cc m8_agree) 12 = .ok (.astore 5, 2) by decide +kernel) (by decide) ?_
  refine s_aload_n (show decode (am_cc m8_agree) 14 = .ok (.aload_n 0, 1) by decide +kernel) rfl ?_
  refine s_iload_n (show decode (am_cc m8_agree) 15 = .ok (.iload_n 3, 1) by decide +kernel) rfl ?_
  exact n_callV (as := [vi a3]) (stk := []) (show decode (am_cc m8_agree) 16 = .ok (.invokevirtual 153, 3) by decide +kernel) lk_RX8_153 kd0 (by decide) rfl rfl (by decide) (Nat.le_of_ble_eq_true rfl) ⟨rfl, rfl⟩ k
theorem g8_agree_19 {a1 a2 a3 a4 a5 t0 : Int} {M : am_M} {Q : Option am_V → am_M → Prop} (k1 : a4 = -1 → am_AtN m8_agree 36 [some (vr 0), some (vi a1), some (vi a2), some (vi a3), some (vr a4), some (vr a5), some (vr t0)] [] KS M Q) (k2 : ¬ a4 = -1 → am_AtN m8_agree 26 [some (vr 0), some (vi a1), some (vi a2), some (vi a3), some (vr a4), some (vr a5), some (vr t0)] [] KS M Q) : am_AtN m8_agree 19 [some (vr 0), some (vi a1), some (vi a2), some (vi a3), some (vr a4), some (vr a5), none] [vr t0] KS M Q := by
  refine s_astore (show decode (am_cc m8_agree) 19 = .ok (.astore 6, 2) by decide +kernel) (by decide) ?_
  refine s_aload (show decode (am_cc m8_agree) 21 = .ok (.aload 4, 2) by decide +kernel) rfl ?_
  exact s_ifnull (tgt := 36) (show decode (am_cc m8_agree) 23 = .ok (.ifnull 13, 3) by decide +kernel) (by decide) k1 k2
theorem g8_agree_26 {a1 a2 a3 a4 a5 a6 : Int} {M : am_M} {Q : Option am_V → am_M → Prop} (k1 : a5 = -1 → am_AtN m8_agree 36 [some (vr 0), some (vi a1), some (vi a2), some (vi a3), some (vr a4), some (vr a5), some (vr a6)] [] KS M Q) (k2 : ¬ a5 = -1 → am_AtN m8_agree 31 [some (vr 0), some (vi a1), some (vi a2), some (vi a3), some (vr a4), some (vr a5), some (vr a6)] [] KS M Q) : am_AtN m8_agree 26 [some (vr 0), some (vi a1), some (vi a2), some (vi a3), some (vr a4), some (vr a5), some (vr a6)] [] KS M Q := by
  refine s_aload (show decode (am_cc m8_agree) 26 = .ok (.aload 5, 2) by decide +kernel) rfl ?_
  exact s_ifnull (tgt := 36) (show decode (am_cc m8_agree) 28 = .ok (.ifnull 8, 3) by decide +kernel) (by decide) k1 k2
theorem g8_agree_31 {a1 a2 a3 a4 a5 a6 : Int} {M : am_M} {Q : Option am_V → am_M → Prop} (k1 : ¬ a6 = -1 → am_AtN m8_agree 38 [some (vr 0), some (vi a1), some (vi a2), some (vi a3), some (vr a4), some (vr a5), some (vr a6)] [] KS M Q) (k2 : a6 = -1 → am_AtN m8_agree 36 [some (vr 0), some (vi a1), some (vi a2), some (vi a3), some (vr a4), some (vr a5), some (vr a6)] [] KS M Q) : am_AtN m8_agree 31 [some (vr 0), some (vi a1), some (vi a2), some (vi a3), some (vr a4), some (vr a5), some (vr a6)] [] KS M Q := by
  refine s_aload (show decode (am_cc m8_agree) 31 = .ok (.aload 6, 2) by decide +kernel) rfl ?_
  exact s_ifnonnull (tgt := 38) (show decode (am_cc m8_agree) 33 = .ok (.ifnonnull 5, 3) by decide +kernel) (by decide) k1 k2
theorem g8_agree_36 {a1 a2 a3 a4 a5 a6 : Int} {M : am_M} {Q : Option am_V → am_M → Prop} (k : Q (some (vi (-1))) M) : am_AtN m8_agree 36 [some (vr 0), some (vi a1), some (vi a2), some (vi a3), some (vr a4), some (vr a5), some (vr a6)] [] KS M Q := by
  refine s_iconst (show decode (am_cc m8_agree) 36 = .ok (.iconst (-1), 1) by decide +kernel) ⟨by decide, by decide⟩ ?_
  exact s_ireturn (show decode (am_cc m8_agree) 37 = .ok (.ireturn, 1) by decide +kernel) rfl k
theorem g8_agree_38 {a1 a2 a3 a4 a5 a6 : Int} {M : am_M} {Q : Option am_V → am_M → Prop} (k : am_CallN m0_isSo [vr 75, vr a4, vr a5, vr a6, vi (M 0 0)] KS M (fun r M' => am_AtN m8_agree 55 [some (vr 0), some (vi a1), some (vi a2), some (vi a3), some (vr a4), some (vr a5), some (vr a6)] (r.toList ++ []) KS M' Q)) : am_AtN m8_agree 38 [some (vr 0), some (vi a1), some (vi a2), some (vi a3), some (vr a4), some (vr a5), some (vr a6)] [] KS M Q := by
  refine s_aload_n (show decode (am_cc m8_agree) 38 = .ok (.aload_n 0, 1) by decide +kernel) rfl ?_
  refine s_getf (k := 14) (v := vr 75) (show decode (am_cc m8_agree) 39 = .ok (.getfield 86, 3) by decide +kernel) kd0 (by decide) rfl jnX8 (by decide) lf_RX8_86 rfl ?_
  refine s_aload (show decode (am_cc m8_agree) 42 = .ok (.aload 4, 2) by decide +kernel) rfl ?_
  refine s_aload (show decode (am_cc m8_agree) 44 = .ok (.aload 5, 2) by decide +kernel) rfl ?_
  refine s_aload (show decode (am_cc m8_agree) 46 = .ok (.aload 6, 2) by decide +kernel) rfl ?_
  refine s_aload_n (show decode (am_cc m8_agree) 48 = .ok (.aload_n 0, 1) by decide +kernel) rfl ?_
  refine s_getf (k := 0) (v := vi (M 0 0)) (show decode (am_cc m8_agree) 49 = .ok (.getfield 9, 3) by decide +kernel) kd0 (by decide) rfl jnX8 (by decide) lf_RX8_9 rfl ?_
  exact n_callV (as := [vr a4, vr a5, vr a6, vi (M 0 0)]) (stk := []) (show decode (am_cc m8_agree) 52 = .ok (.invokevirtual 205, 3) by decide +kernel) lk_RX8_205 kd75 (by decide) rfl rfl (by decide) (Nat.le_of_ble_eq_true rfl) ⟨rfl, rfl⟩ k
theorem g8_agree_55 {a1 a2 a3 a4 a5 a6 t0 : Int} {M : am_M} {Q : Option am_V → am_M → Prop} (k : am_CallN m8_oneIf [vi t0] KS M (fun r M' => am_AtN m8_agree 58 [some (vr 0), some (vi a1), some (vi a2), some (vi a3), some (vr a4), some (vr a5), some (vr a6)] (r.toList ++ []) KS M' Q)) : am_AtN m8_agree 55 [some (vr 0), some (vi a1), some (vi a2), some (vi a3), some (vr a4), some (vr a5), some (vr a6)] [vi t0] KS M Q := by
  exact n_callS (as := [vi t0]) (stk := []) (show decode (am_cc m8_agree) 55 = .ok (.invokestatic 130, 3) by decide +kernel) lk_RX8_130 (by decide) (Nat.le_of_ble_eq_true rfl) ⟨rfl, rfl⟩ k
theorem g8_agree_58 {a1 a2 a3 a4 a5 a6 t0 : Int} {M : am_M} {Q : Option am_V → am_M → Prop} (k : Q (some (vi t0)) M) : am_AtN m8_agree 58 [some (vr 0), some (vi a1), some (vi a2), some (vi a3), some (vr a4), some (vr a5), some (vr a6)] [vi t0] KS M Q := by
  exact s_ireturn (show decode (am_cc m8_agree) 58 = .ok (.ireturn, 1) by decide +kernel) rfl k
theorem g8_follows_0 {a1 a2 : Int} {M : am_M} {Q : Option am_V → am_M → Prop} (k : am_CallN m8_followingOf [vr 0, vi a1, vi a2] KS M (fun r M' => am_AtN m8_follows 6 [some (vr 0), some (vi a1), some (vi a2), none] (r.toList ++ []) KS M' Q)) : am_AtN m8_follows 0 [some (vr 0), some (vi a1), some (vi a2), none] [] KS M Q := by
  refine s_aload_n (show decode (am_cc m8_follows) 0 = .ok (.aload_n 0, 1) by decide +kernel) rfl ?_
  refine s_iload_n (show decode (am_cc m8_follows) 1 = .ok (.iload_n 1, 1) by decide +kernel) rfl ?_
  refine s_iload_n (show decode (am_cc m8_follows) 2 = .ok (.iload_n 2, 1) by decide +kernel) rfl ?_
  exact n_callV (as := [vi a1, vi a2]) (stk := []) (show decode (am_cc m8_follows) 3 = .ok (.invokevirtual 209, 3) by decide +kernel) lk_RX8_209 kd0 (by decide) rfl rfl (by decide) (Nat.le_of_ble_eq_true rfl) ⟨rfl, rfl⟩ k
theorem g8_follows_6 {a1 a2 t0 : Int} {M : am_M} {Q : Option am_V → am_M → Prop} (k1 : ¬ t0 = -1 → am_AtN m8_follows 13 [some (vr 0), some (vi a1), some (vi a2), some (vr t0)] [] KS M Q) (k2 : t0 = -1 → am_AtN m8_follows 11 [some (vr 0), some (vi a1), some (vi a2), some (vr t0)] [] KS M Q) : am_AtN m8_follows 6 [some (vr 0), some (vi a1), some (vi a2), none] [vr t0] KS M Q := by
  refine s_astore_n (show decode (am_cc m8_follows) 6 = .ok (.astore_n 3, 1) by decide +kernel) (by decide) ?_
  refine s_aload_n (show decode (am_cc m8_follows) 7 = .ok (.aload_n 3, 1) by decide +kernel) rfl ?_
  exact s_ifnonnull (tgt := 13) (show decode (am_cc m8_follows) 8 = .ok (.ifnonnull 5, 3) by decide +kernel) (by decide) k1 k2
theorem g8_follows_11 {a1 a2 a3 : Int} {M : am_M} {Q : Option am_V → am_M → Prop} (k : Q (some (vi (-1))) M) : am_AtN m8_follows 11 [some (vr 0), some (vi a1), some (vi a2), some (vr a3)] [] KS M Q := by
  refine s_iconst (show decode (am_cc m8_follows) 11 = .ok (.iconst (-1), 1) by decide +kernel) ⟨by decide, by decide⟩ ?_
  exact s_ireturn (show decode (am_cc m8_follows) 12 = .ok (.ireturn, 1) by decide +kernel) rfl k
theorem g8_follows_13 {a1 a2 a3 : Int} {M : am_M} {Q : Option am_V → am_M → Prop} {r0 : List Int} (h1 : am_kd KS a3 = some (2, 8, r0)) (k : am_CallN m2_explore [vr a3] KS M (fun r M' => am_AtN m8_follows 17 [some (vr 0), some (vi a1), some (vi a2), some (vr a3)] (r.toList ++ []) KS M' Q)) : am_AtN m8_follows 13 [some (vr 0), some (vi a1), some (vi a2), some (vr a3)] [] KS M Q := by
  refine s_aload_n (show decode (am_cc m8_follows) 13 = .ok (.aload_n 3, 1) by decide +kernel) rfl ?_
  exact n_callV (as := []) (stk := []) (show decode (am_cc m8_follows) 14 = .ok (.invokevirtual 179, 3) by decide +kernel) lk_RX8_179 h1 (by decide) rfl rfl (by decide) (Nat.le_of_ble_eq_true rfl) ⟨rfl, rfl⟩ k
theorem g8_follows_17 {a1 a2 a3 : Int} {M : am_M} {Q : Option am_V → am_M → Prop} {r0 : List Int} (h1 : am_kd KS a3 = some (2, 8, r0)) (k : am_CallN m2_firstBad [vr a3] KS M (fun r M' => am_AtN m8_follows 21 [some (vr 0), some (vi a1), some (vi a2), some (vr a3)] (r.toList ++ []) KS M' Q)) : am_AtN m8_follows 17 [some (vr 0), some (vi a1), some (vi a2), some (vr a3)] [] KS M Q := by
  refine s_aload_n (show decode (am_cc m8_follows) 17 = .ok (.aload_n 3, 1) by decide +kernel) rfl ?_
  exact n_callV (as := []) (stk := []) (show decode (am_cc m8_follows) 18 = .ok (.invokevirtual 182, 3) by decide +kernel) lk_RX8_182 h1 (by decide) rfl rfl (by decide) (Nat.le_of_ble_eq_true rfl) ⟨rfl, rfl⟩ k
theorem g8_follows_21 {a1 a2 a3 t0 : Int} {M : am_M} {Q : Option am_V → am_M → Prop} (k1 : ¬ t0 = -9 → am_AtN m8_follows 30 [some (vr 0), some (vi a1), some (vi a2), some (vr a3)] [] KS M Q) (k2 : t0 = -9 → am_AtN m8_follows 26 [some (vr 0), some (vi a1), some (vi a2), some (vr a3)] [] KS M Q) : am_AtN m8_follows 21 [some (vr 0), some (vi a1), some (vi a2), some (vr a3)] [vi t0] KS M Q := by
  refine s_bipush (show decode (am_cc m8_follows) 21 = .ok (.bipush (-9), 2) by decide +kernel) ⟨by decide, by decide⟩ (by decide) ?_
  exact s_icmp_ne (tgt := 30) (show decode (am_cc m8_follows) 23 = .ok (.if_icmp .ne 7, 3) by decide +kernel) (by decide) k1 k2
theorem g8_follows_26 {a1 a2 a3 : Int} {M : am_M} {Q : Option am_V → am_M → Prop} (k : am_AtN m8_follows 31 [some (vr 0), some (vi a1), some (vi a2), some (vr a3)] [vi 1] KS M Q) : am_AtN m8_follows 26 [some (vr 0), some (vi a1), some (vi a2), some (vr a3)] [] KS M Q := by
  refine s_iconst (show decode (am_cc m8_follows) 26 = .ok (.iconst 1, 1) by decide +kernel) ⟨by decide, by decide⟩ ?_
  refine s_goto (tgt := 31) (show decode (am_cc m8_follows) 27 = .ok (.goto 4, 3) by decide +kernel) (by decide) ?_
  exact k
theorem g8_follows_30 {a1 a2 a3 : Int} {M : am_M} {Q : Option am_V → am_M → Prop} (k : am_AtN m8_follows 31 [some (vr 0), some (vi a1), some (vi a2), some (vr a3)] [vi 0] KS M Q) : am_AtN m8_follows 30 [some (vr 0), some (vi a1), some (vi a2), some (vr a3)] [] KS M Q := by
  refine s_iconst (show decode (am_cc m8_follows) 30 = .ok (.iconst 0, 1) by decide +kernel) ⟨by decide, by decide⟩ ?_
  exact k
theorem g8_follows_31 {a1 a2 a3 t0 : Int} {M : am_M} {Q : Option am_V → am_M → Prop} (k : am_CallN m8_oneIf [vi t0] KS M (fun r M' => am_AtN m8_follows 34 [some (vr 0), some (vi a1), some (vi a2), some (vr a3)] (r.toList ++ []) KS M' Q)) : am_AtN m8_follows 31 [some (vr 0), some (vi a1), some (vi a2), some (vr a3)] [vi t0] KS M Q := by
  exact n_callS (as := [vi t0]) (stk := []) (show decode (am_cc m8_follows) 31 = .ok (.invokestatic 130, 3) by decide +kernel) lk_RX8_130 (by decide) (Nat.le_of_ble_eq_true rfl) ⟨rfl, rfl⟩ k
theorem g8_follows_34 {a1 a2 a3 t0 : Int} {M : am_M} {Q : Option am_V → am_M → Prop} (k : Q (some (vi t0)) M) : am_AtN m8_follows 34 [some (vr 0), some (vi a1), some (vi a2), some (vr a3)] [vi t0] KS M Q := by
  exact s_ireturn (show decode (am_cc m8_follows) 34 = .ok (.ireturn, 1) by decide +kernel) rfl k
theorem g8_unless_0 {a1 a2 a3 : Int} {M : am_M} {Q : Option am_V → am_M → Prop} (k : am_CallN m8_followingOf [vr 0, vi a1, vi a2] KS M (fun r M' => am_AtN m8_unless 6 [some (vr 0), some (vi a1), some (vi a2), some (vi a3), none] (r.toList ++ []) KS M' Q)) : am_AtN m8_unless 0 [some (vr 0), some (vi a1), some (vi a2), some (vi a3), none] [] KS M Q := by
  refine s_aload_n (show decode (am_cc m8_unless) 0 = .ok (.aload_n 0, 1) by decide +kernel) rfl ?_
  refine s_iload_n (show decode (am_cc m8_unless) 1 = .ok (.iload_n 1, 1) by decide +kernel) rfl ?_
  refine s_iload_n (show decode (am_cc m8_unless) 2 = .ok (.iload_n 2, 1) by decide +kernel) rfl ?_
  exact n_callV (as := [vi a1, vi a2]) (stk := []) (show decode (am_cc m8_unless) 3 = .ok (.invokevirtual 209, 3) by decide +kernel) lk_RX8_209 kd0 (by decide) rfl rfl (by decide) (Nat.le_of_ble_eq_true rfl) ⟨rfl, rfl⟩ k
theorem g8_unless_6 {a1 a2 a3 t0 : Int} {M : am_M} {Q : Option am_V → am_M → Prop} (k1 : ¬ t0 = -1 → am_AtN m8_unless 15 [some (vr 0), some (vi a1), some (vi a2), some (vi a3), some (vr t0)] [] KS M Q) (k2 : t0 = -1 → am_AtN m8_unless 13 [some (vr 0), some (vi a1), some (vi a2), some (vi a3), some (vr t0)] [] KS M Q) : am_AtN m8_unless 6 [some (vr 0), some (vi a1), some (vi a2), some (vi a3), none] [vr t0] KS M Q := by
  refine s_astore (show decode (am_cc m8_unless) 6 = .ok (.astore 4, 2) by decide +kernel) (by decide) ?_
  refine s_aload (show decode (am_cc m8_unless) 8 = .ok (.aload 4, 2) by decide +kernel) rfl ?_
  exact s_ifnonnull (tgt := 15) (show decode (am_cc m8_unless) 10 = .ok (.ifnonnull 5, 3) by decide +kernel) (by decide) k1 k2
theorem g8_unless_13 {a1 a2 a3 a4 : Int} {M : am_M} {Q : Option am_V → am_M → Prop} (k : Q (some (vi (-1))) M) : am_AtN m8_unless 13 [some (vr 0), some (vi a1), some (vi a2), some (vi a3), some (vr a4)] [] KS M Q := by
  refine s_iconst (show decode (am_cc m8_unless) 13 = .ok (.iconst (-1), 1) by decide +kernel) ⟨by decide, by decide⟩ ?_
  exact s_ireturn (show decode (am_cc m8_unless) 14 = .ok (.ireturn, 1) by decide +kernel) rfl k
theorem g8_unless_15 {a1 a2 a3 a4 : Int} {M : am_M} {Q : Option am_V → am_M → Prop} (k1 : -1 ≤ a3 → am_AtN m8_unless 23 [some (vr 0), some (vi a1), some (vi a2), some (vi a3), some (vr a4)] [] KS M Q) (k2 : ¬ (-1 ≤ a3) → am_AtN m8_unless 20 [some (vr 0), some (vi a1), some (vi a2), some (vi a3), some (vr a4)] [] KS M Q) : am_AtN m8_unless 15 [some (vr 0), some (vi a1), some (vi a2), some (vi a3), some (vr a4)] [] KS M Q := by
  refine s_iload_n (show decode (am_cc m8_unless) 15 = .ok (.iload_n 3, 1) by decide +kernel) rfl ?_
  refine s_iconst (show decode (am_cc m8_unless) 16 = .ok (.iconst (-1), 1) by decide +kernel) ⟨by decide, by decide⟩ ?_
  exact s_icmp_ge (tgt := 23) (show decode (am_cc m8_unless) 17 = .ok (.if_icmp .ge 6, 3) by decide +kernel) (by decide) k1 k2
theorem g8_unless_20 {a1 a2 a3 a4 : Int} {M : am_M} {Q : Option am_V → am_M → Prop} (k : Q (some (vi (-2))) M) : am_AtN m8_unless 20 [some (vr 0), some (vi a1), some (vi a2), some (vi a3), some (vr a4)] [] KS M Q := by
  refine s_bipush (show decode (am_cc m8_unless) 20 = .ok (.bipush (-2), 2) by decide +kernel) ⟨by decide, by decide⟩ (by decide) ?_
  exact s_ireturn (show decode (am_cc m8_unless) 22 = .ok (.ireturn, 1) by decide +kernel) rfl k
theorem g8_unless_23 {a1 a2 a3 a4 : Int} {M : am_M} {Q : Option am_V → am_M → Prop} {r0 : List Int} (h1 : am_kd KS a4 = some (2, 8, r0)) (k : am_CallN m2_explore [vr a4] KS M (fun r M' => am_AtN m8_unless 28 [some (vr 0), some (vi a1), some (vi a2), some (vi a3), some (vr a4)] (r.toList ++ []) KS M' Q)) : am_AtN m8_unless 23 [some (vr 0), some (vi a1), some (vi a2), some (vi a3), some (vr a4)] [] KS M Q := by
  refine s_aload (show decode (am_cc m8_unless) 23 = .ok (.aload 4, 2) by decide +kernel) rfl ?_
  exact n_callV (as := []) (stk := []) (show decode (am_cc m8_unless) 25 = .ok (.invokevirtual 179, 3) by decide +kernel) lk_RX8_179 h1 (by decide) rfl rfl (by decide) (Nat.le_of_ble_eq_true rfl) ⟨rfl, rfl⟩ k
theorem g8_unless_28 {a1 a2 a3 a4 : Int} {M : am_M} {Q : Option am_V → am_M → Prop} {r0 : List Int} (h1 : am_kd KS a4 = some (2, 8, r0)) (k : am_CallN m2_pictureAt [vr a4, vi a3] KS M (fun r M' => am_AtN m8_unless 34 [some (vr 0), some (vi a1), some (vi a2), some (vi a3), some (vr a4)] (r.toList ++ []) KS M' Q)) : am_AtN m8_unless 28 [some (vr 0), some (vi a1), some (vi a2), some (vi a3), some (vr a4)] [] KS M Q := by
  refine s_aload (show decode (am_cc m8_unless) 28 = .ok (.aload 4, 2) by decide +kernel) rfl ?_
  refine s_iload_n (show decode (am_cc m8_unless) 30 = .ok (.iload_n 3, 1) by decide +kernel) rfl ?_
  exact n_callV (as := [vi a3]) (stk := []) (show decode (am_cc m8_unless) 31 = .ok (.invokevirtual 185, 3) by decide +kernel) lk_RX8_185 h1 (by decide) rfl rfl (by decide) (Nat.le_of_ble_eq_true rfl) ⟨rfl, rfl⟩ k
theorem g8_unless_34 {a1 a2 a3 a4 t0 : Int} {M : am_M} {Q : Option am_V → am_M → Prop} (k : Q (some (vi t0)) M) : am_AtN m8_unless 34 [some (vr 0), some (vi a1), some (vi a2), some (vi a3), some (vr a4)] [vi t0] KS M Q := by
  exact s_ireturn (show decode (am_cc m8_unless) 34 = .ok (.ireturn, 1) by decide +kernel) rfl k
theorem g8_rows_0 {a1 a2 : Int} {M : am_M} {Q : Option am_V → am_M → Prop} (k : am_CallN m8_sentenceOf [vr 0, vi a1] KS M (fun r M' => am_AtN m8_rows 5 [some (vr 0), some (vi a1), some (vi a2), none] (r.toList ++ []) KS M' Q)) : am_AtN m8_rows 0 [some (vr 0), some (vi a1), some (vi a2), none] [] KS M Q := by
  refine s_aload_n (show decode (am_cc m8_rows) 0 = .ok (.aload_n 0, 1) by decide +kernel) rfl ?_
  refine s_iload_n (show decode (am_cc m8_rows) 1 = .ok (.iload_n 1, 1) by decide +kernel) rfl ?_
  exact n_callV (as := [vi a1]) (stk := []) (show decode (am_cc m8_rows) 2 = .ok (.invokevirtual 110, 3) by decide +kernel) lk_RX8_110 kd0 (by decide) rfl rfl (by decide) (Nat.le_of_ble_eq_true rfl) ⟨rfl, rfl⟩ k
theorem g8_rows_5 {a1 a2 t0 : Int} {M : am_M} {Q : Option am_V → am_M → Prop} (k1 : ¬ t0 = -1 → am_AtN m8_rows 14 [some (vr 0), some (vi a1), some (vi a2), some (vr t0)] [] KS M Q) (k2 : t0 = -1 → am_AtN m8_rows 10 [some (vr 0), some (vi a1), some (vi a2), some (vr t0)] [] KS M Q) : am_AtN m8_rows 5 [some (vr 0), some (vi a1), some (vi a2), none] [vr t0] KS M Q := by
  refine s_astore_n (show decode (am_cc m8_rows) 5 = .ok (.astore_n 3, 1) by decide +kernel) (by decide) ?_
  refine s_aload_n (show decode (am_cc m8_rows) 6 = .ok (.aload_n 3, 1) by decide +kernel) rfl ?_
  exact s_ifnonnull (tgt := 14) (show decode (am_cc m8_rows) 7 = .ok (.ifnonnull 7, 3) by decide +kernel) (by decide) k1 k2
theorem g8_rows_10 {a1 a2 a3 : Int} {M : am_M} {Q : Option am_V → am_M → Prop} (k : Q (some (vl (-1))) M) : am_AtN m8_rows 10 [some (vr 0), some (vi a1), some (vi a2), some (vr a3)] [] KS M Q := by
  refine s_ldc2 (show decode (am_cc m8_rows) 10 = .ok (.ldc2_w 213, 3) by decide +kernel) lc_RX8_213 ⟨by decide, by decide⟩ ?_
  exact s_lreturn (show decode (am_cc m8_rows) 13 = .ok (.lreturn, 1) by decide +kernel) rfl k
theorem g8_rows_14 {a1 a2 a3 : Int} {M : am_M} {Q : Option am_V → am_M → Prop} (k : am_CallN m8_within [vi a2, vi 21] KS M (fun r M' => am_AtN m8_rows 20 [some (vr 0), some (vi a1), some (vi a2), some (vr a3)] (r.toList ++ []) KS M' Q)) : am_AtN m8_rows 14 [some (vr 0), some (vi a1), some (vi a2), some (vr a3)] [] KS M Q := by
  refine s_iload_n (show decode (am_cc m8_rows) 14 = .ok (.iload_n 2, 1) by decide +kernel) rfl ?_
  refine s_bipush (show decode (am_cc m8_rows) 15 = .ok (.bipush 21, 2) by decide +kernel) ⟨by decide, by decide⟩ (by decide) ?_
  exact n_callS (as := [vi a2, vi 21]) (stk := []) (show decode (am_cc m8_rows) 17 = .ok (.invokestatic 114, 3) by decide +kernel) lk_RX8_114 (by decide) (Nat.le_of_ble_eq_true rfl) ⟨rfl, rfl⟩ k
theorem g8_rows_20 {a1 a2 a3 t0 : Int} {M : am_M} {Q : Option am_V → am_M → Prop} (k1 : ¬ t0 = 0 → am_AtN m8_rows 27 [some (vr 0), some (vi a1), some (vi a2), some (vr a3)] [] KS M Q) (k2 : t0 = 0 → am_AtN m8_rows 23 [some (vr 0), some (vi a1), some (vi a2), some (vr a3)] [] KS M Q) : am_AtN m8_rows 20 [some (vr 0), some (vi a1), some (vi a2), some (vr a3)] [vi t0] KS M Q := by
  exact s_if_ne (tgt := 27) (show decode (am_cc m8_rows) 20 = .ok (.ifCond .ne 7, 3) by decide +kernel) (by decide) k1 k2
theorem g8_rows_23 {a1 a2 a3 : Int} {M : am_M} {Q : Option am_V → am_M → Prop} (k : Q (some (vl (-2))) M) : am_AtN m8_rows 23 [some (vr 0), some (vi a1), some (vi a2), some (vr a3)] [] KS M Q := by
  refine s_ldc2 (show decode (am_cc m8_rows) 23 = .ok (.ldc2_w 215, 3) by decide +kernel) lc_RX8_215 ⟨by decide, by decide⟩ ?_
  exact s_lreturn (show decode (am_cc m8_rows) 26 = .ok (.lreturn, 1) by decide +kernel) rfl k
theorem g8_rows_27 {a1 a2 a3 : Int} {M : am_M} {Q : Option am_V → am_M → Prop} (k : am_CallN m7_fill [vr 84, vr a3, vi a2, vi (M 0 0)] KS M (fun r M' => am_AtN m8_rows 40 [some (vr 0), some (vi a1), some (vi a2), some (vr a3)] (r.toList ++ []) KS M' Q)) : am_AtN m8_rows 27 [some (vr 0), some (vi a1), some (vi a2), some (vr a3)] [] KS M Q := by
  refine s_aload_n (show decode (am_cc m8_rows) 27 = .ok (.aload_n 0, 1) by decide +kernel) rfl ?_
  refine s_getf (k := 15) (v := vr 84) (show decode (am_cc m8_rows) 28 = .ok (.getfield 93, 3) by decide +kernel) kd0 (by decide) rfl jnX8 (by decide) lf_RX8_93 rfl ?_
  refine s_aload_n (show decode (am_cc m8_rows) 31 = .ok (.aload_n 3, 1) by decide +kernel) rfl ?_
  refine s_iload_n (show decode (am_cc m8_rows) 32 = .ok (.iload_n 2, 1) by decide +kernel) rfl ?_
  refine s_aload_n (show decode (am_cc m8_rows) 33 = .ok (.aload_n 0, 1) by decide +kernel) rfl ?_
  refine s_getf (k := 0) (v := vi (M 0 0)) (show decode (am_cc m8_rows) 34 = .ok (.getfield 9, 3) by decide +kernel) kd0 (by decide) rfl jnX8 (by decide) lf_RX8_9 rfl ?_
  exact n_callV (as := [vr a3, vi a2, vi (M 0 0)]) (stk := []) (show decode (am_cc m8_rows) 37 = .ok (.invokevirtual 217, 3) by decide +kernel) lk_RX8_217 kd84 (by decide) rfl rfl (by decide) (Nat.le_of_ble_eq_true rfl) ⟨rfl, rfl⟩ k
theorem g8_rows_40 {a1 a2 a3 : Int} {M : am_M} {Q : Option am_V → am_M → Prop} (k : am_CallN m7_ways [vr 84, vi a2, vi 0] KS M (fun r M' => am_AtN m8_rows 49 [some (vr 0), some (vi a1), some (vi a2), some (vr a3)] (r.toList ++ []) KS M' Q)) : am_AtN m8_rows 40 [some (vr 0), some (vi a1), some (vi a2), some (vr a3)] [] KS M Q := by
  refine s_aload_n (show decode (am_cc m8_rows) 40 = .ok (.aload_n 0, 1) by decide +kernel) rfl ?_
  refine s_getf (k := 15) (v := vr 84) (show decode (am_cc m8_rows) 41 = .ok (.getfield 93, 3) by decide +kernel) kd0 (by decide) rfl jnX8 (by decide) lf_RX8_93 rfl ?_
  refine s_iload_n (show decode (am_cc m8_rows) 44 = .ok (.iload_n 2, 1) by decide +kernel) rfl ?_
  refine s_iconst (show decode (am_cc m8_rows) 45 = .ok (.iconst 0, 1) by decide +kernel) ⟨by decide, by decide⟩ ?_
  exact n_callV (as := [vi a2, vi 0]) (stk := []) (show decode (am_cc m8_rows) 46 = .ok (.invokevirtual 220, 3) by decide +kernel) lk_RX8_220 kd84 (by decide) rfl rfl (by decide) (Nat.le_of_ble_eq_true rfl) ⟨rfl, rfl⟩ k
theorem g8_rows_49 {a1 a2 a3 t0 : Int} {M : am_M} {Q : Option am_V → am_M → Prop} (k : Q (some (vl t0)) M) : am_AtN m8_rows 49 [some (vr 0), some (vi a1), some (vi a2), some (vr a3)] [vl t0] KS M Q := by
  exact s_lreturn (show decode (am_cc m8_rows) 49 = .ok (.lreturn, 1) by decide +kernel) rfl k
theorem g8_lay_0 {a1 a2 a3 : Int} {M : am_M} {Q : Option am_V → am_M → Prop} (k : am_CallN m8_sentenceOf [vr 0, vi a1] KS M (fun r M' => am_AtN m8_lay 5 [some (vr 0), some (vi a1), some (vi a2), some (vl a3), none, none] (r.toList ++ []) KS M' Q)) : am_AtN m8_lay 0 [some (vr 0), some (vi a1), some (vi a2), some (vl a3), none, none] [] KS M Q := by
  refine s_aload_n (show decode (am_cc m8_lay) 0 = .ok (.aload_n 0, 1) by decide +kernel) rfl ?_
  refine s_iload_n (show decode (am_cc m8_lay) 1 = .ok (.iload_n 1, 1) by decide +kernel) rfl ?_
  exact n_callV (as := [vi a1]) (stk := []) (show decode (am_cc m8_lay) 2 = .ok (.invokevirtual 110, 3) by decide +kernel) lk_RX8_110 kd0 (by decide) rfl rfl (by decide) (Nat.le_of_ble_eq_true rfl) ⟨rfl, rfl⟩ k
theorem g8_lay_5 {a1 a2 a3 t0 : Int} {M : am_M} {Q : Option am_V → am_M → Prop} (k1 : ¬ t0 = -1 → am_AtN m8_lay 14 [some (vr 0), some (vi a1), some (vi a2), some (vl a3), none, some (vr t0)] [] KS M Q) (k2 : t0 = -1 → am_AtN m8_lay 12 [some (vr 0), some (vi a1), some (vi a2), some (vl a3), none, some (vr t0)] [] KS M Q) : am_AtN m8_lay 5 [some (vr 0), some (vi a1), some (vi a2), some (vl a3), none, none] [vr t0] KS M Q := by
  refine s_astore (show decode (am_cc m8_lay) 5 = .ok (.astore 5, 2) by decide +kernel) (by decide) ?_
  refine s_aload (show decode (am_cc m8_lay) 7 = .ok (.aload 5, 2) by decide +kernel) rfl ?_
  exact s_ifnonnull (tgt := 14) (show decode (am_cc m8_lay) 9 = .ok (.ifnonnull 5, 3) by decide +kernel) (by decide) k1 k2
theorem g8_lay_12 {a1 a2 a3 a5 : Int} {M : am_M} {Q : Option am_V → am_M → Prop} (k : Q (some (vi (-1))) M) : am_AtN m8_lay 12 [some (vr 0), some (vi a1), some (vi a2), some (vl a3), none, some (vr a5)] [] KS M Q := by
  refine s_iconst (show decode (am_cc m8_lay) 12 = .ok (.iconst (-1), 1) by decide +kernel) ⟨by decide, by decide⟩ ?_
  exact s_ireturn (show decode (am_cc m8_lay) 13 = .ok (.ireturn, 1) by decide +kernel) rfl k
theorem g8_lay_14 {a1 a2 a3 a5 : Int} {M : am_M} {Q : Option am_V → am_M → Prop} (k : am_CallN m8_within [vi a2, vi 21] KS M (fun r M' => am_AtN m8_lay 20 [some (vr 0), some (vi a1), some (vi a2), some (vl a3), none, some (vr a5)] (r.toList ++ []) KS M' Q)) : am_AtN m8_lay 14 [some (vr 0), some (vi a1), some (vi a2), some (vl a3), none, some (vr a5)] [] KS M Q := by
  refine s_iload_n (show decode (am_cc m8_lay) 14 = .ok (.iload_n 2, 1) by decide +kernel) rfl ?_
  refine s_bipush (show decode (am_cc m8_lay) 15 = .ok (.bipush 21, 2) by decide +kernel) ⟨by decide, by decide⟩ (by decide) ?_
  exact n_callS (as := [vi a2, vi 21]) (stk := []) (show decode (am_cc m8_lay) 17 = .ok (.invokestatic 114, 3) by decide +kernel) lk_RX8_114 (by decide) (Nat.le_of_ble_eq_true rfl) ⟨rfl, rfl⟩ k
theorem g8_lay_20 {a1 a2 a3 a5 t0 : Int} {M : am_M} {Q : Option am_V → am_M → Prop} (k1 : ¬ t0 = 0 → am_AtN m8_lay 26 [some (vr 0), some (vi a1), some (vi a2), some (vl a3), none, some (vr a5)] [] KS M Q) (k2 : t0 = 0 → am_AtN m8_lay 23 [some (vr 0), some (vi a1), some (vi a2), some (vl a3), none, some (vr a5)] [] KS M Q) : am_AtN m8_lay 20 [some (vr 0), some (vi a1), some (vi a2), some (vl a3), none, some (vr a5)] [vi t0] KS M Q := by
  exact s_if_ne (tgt := 26) (show decode (am_cc m8_lay) 20 = .ok (.ifCond .ne 6, 3) by decide +kernel) (by decide) k1 k2
theorem g8_lay_23 {a1 a2 a3 a5 : Int} {M : am_M} {Q : Option am_V → am_M → Prop} (k : Q (some (vi (-2))) M) : am_AtN m8_lay 23 [some (vr 0), some (vi a1), some (vi a2), some (vl a3), none, some (vr a5)] [] KS M Q := by
  refine s_bipush (show decode (am_cc m8_lay) 23 = .ok (.bipush (-2), 2) by decide +kernel) ⟨by decide, by decide⟩ (by decide) ?_
  exact s_ireturn (show decode (am_cc m8_lay) 25 = .ok (.ireturn, 1) by decide +kernel) rfl k
theorem g8_lay_26 {a1 a2 a3 a5 : Int} {M : am_M} {Q : Option am_V → am_M → Prop} (k : am_CallN m7_fill [vr 84, vr a5, vi a2, vi (M 0 0)] KS M (fun r M' => am_AtN m8_lay 40 [some (vr 0), some (vi a1), some (vi a2), some (vl a3), none, some (vr a5)] (r.toList ++ []) KS M' Q)) : am_AtN m8_lay 26 [some (vr 0), some (vi a1), some (vi a2), some (vl a3), none, some (vr a5)] [] KS M Q := by
  refine s_aload_n (show decode (am_cc m8_lay) 26 = .ok (.aload_n 0, 1) by decide +kernel) rfl ?_
  refine s_getf (k := 15) (v := vr 84) (show decode (am_cc m8_lay) 27 = .ok (.getfield 93, 3) by decide +kernel) kd0 (by decide) rfl jnX8 (by decide) lf_RX8_93 rfl ?_
  refine s_aload (show decode (am_cc m8_lay) 30 = .ok (.aload 5, 2) by decide +kernel) rfl ?_
  refine s_iload_n (show decode (am_cc m8_lay) 32 = .ok (.iload_n 2, 1) by decide +kernel) rfl ?_
  refine s_aload_n (show decode (am_cc m8_lay) 33 = .ok (.aload_n 0, 1) by decide +kernel) rfl ?_
  refine s_getf (k := 0) (v := vi (M 0 0)) (show decode (am_cc m8_lay) 34 = .ok (.getfield 9, 3) by decide +kernel) kd0 (by decide) rfl jnX8 (by decide) lf_RX8_9 rfl ?_
  exact n_callV (as := [vr a5, vi a2, vi (M 0 0)]) (stk := []) (show decode (am_cc m8_lay) 37 = .ok (.invokevirtual 217, 3) by decide +kernel) lk_RX8_217 kd84 (by decide) rfl rfl (by decide) (Nat.le_of_ble_eq_true rfl) ⟨rfl, rfl⟩ k
theorem g8_lay_40 {a1 a2 a3 a5 : Int} {M : am_M} {Q : Option am_V → am_M → Prop} (k1 : a3 < 0 → am_AtN m8_lay 60 [some (vr 0), some (vi a1), some (vi a2), some (vl a3), none, some (vr a5)] [] KS M Q) (k2 : ¬ a3 < 0 → am_AtN m8_lay 46 [some (vr 0), some (vi a1), some (vi a2), some (vl a3), none, some (vr a5)] [] KS M Q) : am_AtN m8_lay 40 [some (vr 0), some (vi a1), some (vi a2), some (vl a3), none, some (vr a5)] [] KS M Q := by
  refine s_lload_n (show decode (am_cc m8_lay) 40 = .ok (.lload_n 3, 1) by decide +kernel) rfl ?_
  refine s_lconst (v := 0) (show decode (am_cc m8_lay) 41 = .ok (.lconst 0, 1) by decide +kernel) (by decide) ⟨by decide, by decide⟩ ?_
  exact s_lcif_lt (tgt := 60) (show decode (am_cc m8_lay) 42 = .ok (.lcmp, 1) by decide +kernel) (show decode (am_cc m8_lay) 43 = .ok (.ifCond .lt 17, 3) by decide +kernel) (by decide) k1 k2
theorem g8_lay_46 {a1 a2 a3 a5 : Int} {M : am_M} {Q : Option am_V → am_M → Prop} (k : am_CallN m7_ways [vr 84, vi a2, vi 0] KS M (fun r M' => am_AtN m8_lay 56 [some (vr 0), some (vi a1), some (vi a2), some (vl a3), none, some (vr a5)] (r.toList ++ [vl a3]) KS M' Q)) : am_AtN m8_lay 46 [some (vr 0), some (vi a1), some (vi a2), some (vl a3), none, some (vr a5)] [] KS M Q := by
  refine s_lload_n (show decode (am_cc m8_lay) 46 = .ok (.lload_n 3, 1) by decide +kernel) rfl ?_
  refine s_aload_n (show decode (am_cc m8_lay) 47 = .ok (.aload_n 0, 1) by decide +kernel) rfl ?_
  refine s_getf (k := 15) (v := vr 84) (show decode (am_cc m8_lay) 48 = .ok (.getfield 93, 3) by decide +kernel) kd0 (by decide) rfl jnX8 (by decide) lf_RX8_93 rfl ?_
  refine s_iload_n (show decode (am_cc m8_lay) 51 = .ok (.iload_n 2, 1) by decide +kernel) rfl ?_
  refine s_iconst (show decode (am_cc m8_lay) 52 = .ok (.iconst 0, 1) by decide +kernel) ⟨by decide, by decide⟩ ?_
  exact n_callV (as := [vi a2, vi 0]) (stk := [vl a3]) (show decode (am_cc m8_lay) 53 = .ok (.invokevirtual 220, 3) by decide +kernel) lk_RX8_220 kd84 (by decide) rfl rfl (by decide) (Nat.le_of_ble_eq_true rfl) ⟨rfl, rfl⟩ k
theorem g8_lay_56 {a1 a2 a3 a5 t0 t1 : Int} {M : am_M} {Q : Option am_V → am_M → Prop} (k1 : t0 < t1 → am_AtN m8_lay 63 [some (vr 0), some (vi a1), some (vi a2), some (vl a3), none, some (vr a5)] [] KS M Q) (k2 : ¬ t0 < t1 → am_AtN m8_lay 60 [some (vr 0), some (vi a1), some (vi a2), some (vl a3), none, some (vr a5)] [] KS M Q) : am_AtN m8_lay 56 [some (vr 0), some (vi a1), some (vi a2), some (vl a3), none, some (vr a5)] [vl t1, vl t0] KS M Q := by
  exact s_lcif_lt (tgt := 63) (show decode (am_cc m8_lay) 56 = .ok (.lcmp, 1) by decide +kernel) (show decode (am_cc m8_lay) 57 = .ok (.ifCond .lt 6, 3) by decide +kernel) (by decide) k1 k2
theorem g8_lay_60 {a1 a2 a3 a5 : Int} {M : am_M} {Q : Option am_V → am_M → Prop} (k : Q (some (vi (-2))) M) : am_AtN m8_lay 60 [some (vr 0), some (vi a1), some (vi a2), some (vl a3), none, some (vr a5)] [] KS M Q := by
  refine s_bipush (show decode (am_cc m8_lay) 60 = .ok (.bipush (-2), 2) by decide +kernel) ⟨by decide, by decide⟩ (by decide) ?_
  exact s_ireturn (show decode (am_cc m8_lay) 62 = .ok (.ireturn, 1) by decide +kernel) rfl k
theorem g8_lay_63 {a1 a2 a3 a5 : Int} {M : am_M} {Q : Option am_V → am_M → Prop} (k : am_CallN m7_layOut [vr 84, vr a5, vi a2, vl a3, vr 54] KS M (fun r M' => am_AtN m8_lay 78 [some (vr 0), some (vi a1), some (vi a2), some (vl a3), none, some (vr a5)] (r.toList ++ []) KS M' Q)) : am_AtN m8_lay 63 [some (vr 0), some (vi a1), some (vi a2), some (vl a3), none, some (vr a5)] [] KS M Q := by
  refine s_aload_n (show decode (am_cc m8_lay) 63 = .ok (.aload_n 0, 1) by decide +kernel) rfl ?_
  refine s_getf (k := 15) (v := vr 84) (show decode (am_cc m8_lay) 64 = .ok (.getfield 93, 3) by decide +kernel) kd0 (by decide) rfl jnX8 (by decide) lf_RX8_93 rfl ?_
  refine s_aload (show decode (am_cc m8_lay) 67 = .ok (.aload 5, 2) by decide +kernel) rfl ?_
  refine s_iload_n (show decode (am_cc m8_lay) 69 = .ok (.iload_n 2, 1) by decide +kernel) rfl ?_
  refine s_lload_n (show decode (am_cc m8_lay) 70 = .ok (.lload_n 3, 1) by decide +kernel) rfl ?_
  refine s_aload_n (show decode (am_cc m8_lay) 71 = .ok (.aload_n 0, 1) by decide +kernel) rfl ?_
  refine s_getf (k := 8) (v := vr 54) (show decode (am_cc m8_lay) 72 = .ok (.getfield 50, 3) by decide +kernel) kd0 (by decide) rfl jnX8 (by decide) lf_RX8_50 rfl ?_
  exact n_callV (as := [vr a5, vi a2, vl a3, vr 54]) (stk := []) (show decode (am_cc m8_lay) 75 = .ok (.invokevirtual 224, 3) by decide +kernel) lk_RX8_224 kd84 (by decide) rfl rfl (by decide) (Nat.le_of_ble_eq_true rfl) ⟨rfl, rfl⟩ k
theorem g8_lay_78 {a1 a2 a3 a5 : Int} {M : am_M} {Q : Option am_V → am_M → Prop} (k : am_CallN m5_letterAt [vr 54, vi 0] KS M (fun r M' => am_AtN m8_lay 86 [some (vr 0), some (vi a1), some (vi a2), some (vl a3), none, some (vr a5)] (r.toList ++ []) KS M' Q)) : am_AtN m8_lay 78 [some (vr 0), some (vi a1), some (vi a2), some (vl a3), none, some (vr a5)] [] KS M Q := by
  refine s_aload_n (show decode (am_cc m8_lay) 78 = .ok (.aload_n 0, 1) by decide +kernel) rfl ?_
  refine s_getf (k := 8) (v := vr 54) (show decode (am_cc m8_lay) 79 = .ok (.getfield 50, 3) by decide +kernel) kd0 (by decide) rfl jnX8 (by decide) lf_RX8_50 rfl ?_
  refine s_iconst (show decode (am_cc m8_lay) 82 = .ok (.iconst 0, 1) by decide +kernel) ⟨by decide, by decide⟩ ?_
  exact n_callV (as := [vi 0]) (stk := []) (show decode (am_cc m8_lay) 83 = .ok (.invokevirtual 228, 3) by decide +kernel) lk_RX8_228 kd54 (by decide) rfl rfl (by decide) (Nat.le_of_ble_eq_true rfl) ⟨rfl, rfl⟩ k
theorem g8_lay_86 {a1 a2 a3 a5 t0 : Int} {M : am_M} {Q : Option am_V → am_M → Prop} (k : Q (some (vi t0)) M) : am_AtN m8_lay 86 [some (vr 0), some (vi a1), some (vi a2), some (vl a3), none, some (vr a5)] [vi t0] KS M Q := by
  exact s_ireturn (show decode (am_cc m8_lay) 86 = .ok (.ireturn, 1) by decide +kernel) rfl k
theorem g8_rank_0 {a1 : Int} {M : am_M} {Q : Option am_V → am_M → Prop} (k : am_CallN m8_sentenceOf [vr 0, vi a1] KS M (fun r M' => am_AtN m8_rank 5 [some (vr 0), some (vi a1), none] (r.toList ++ []) KS M' Q)) : am_AtN m8_rank 0 [some (vr 0), some (vi a1), none] [] KS M Q := by
  refine s_aload_n (show decode (am_cc m8_rank) 0 = .ok (.aload_n 0, 1) by decide +kernel) rfl ?_
  refine s_iload_n (show decode (am_cc m8_rank) 1 = .ok (.iload_n 1, 1) by decide +kernel) rfl ?_
  exact n_callV (as := [vi a1]) (stk := []) (show decode (am_cc m8_rank) 2 = .ok (.invokevirtual 110, 3) by decide +kernel) lk_RX8_110 kd0 (by decide) rfl rfl (by decide) (Nat.le_of_ble_eq_true rfl) ⟨rfl, rfl⟩ k
theorem g8_rank_5 {a1 t0 : Int} {M : am_M} {Q : Option am_V → am_M → Prop} (k1 : ¬ t0 = -1 → am_AtN m8_rank 14 [some (vr 0), some (vi a1), some (vr t0)] [] KS M Q) (k2 : t0 = -1 → am_AtN m8_rank 10 [some (vr 0), some (vi a1), some (vr t0)] [] KS M Q) : am_AtN m8_rank 5 [some (vr 0), some (vi a1), none] [vr t0] KS M Q := by
  refine s_astore_n (show decode (am_cc m8_rank) 5 = .ok (.astore_n 2, 1) by decide +kernel) (by decide) ?_
  refine s_aload_n (show decode (am_cc m8_rank) 6 = .ok (.aload_n 2, 1) by decide +kernel) rfl ?_
  exact s_ifnonnull (tgt := 14) (show decode (am_cc m8_rank) 7 = .ok (.ifnonnull 7, 3) by decide +kernel) (by decide) k1 k2
theorem g8_rank_10 {a1 a2 : Int} {M : am_M} {Q : Option am_V → am_M → Prop} (k : Q (some (vl (-1))) M) : am_AtN m8_rank 10 [some (vr 0), some (vi a1), some (vr a2)] [] KS M Q := by
  refine s_ldc2 (show decode (am_cc m8_rank) 10 = .ok (.ldc2_w 213, 3) by decide +kernel) lc_RX8_213 ⟨by decide, by decide⟩ ?_
  exact s_lreturn (show decode (am_cc m8_rank) 13 = .ok (.lreturn, 1) by decide +kernel) rfl k
theorem g8_rank_14 {a1 a2 : Int} {M : am_M} {Q : Option am_V → am_M → Prop} (k : am_CallN m5_walkedBy [vr 54, vr a2] KS M (fun r M' => am_AtN m8_rank 23 [some (vr 0), some (vi a1), some (vr a2)] (r.toList ++ [vr a2]) KS M' Q)) : am_AtN m8_rank 14 [some (vr 0), some (vi a1), some (vr a2)] [] KS M Q := by
  refine s_aload_n (show decode (am_cc m8_rank) 14 = .ok (.aload_n 2, 1) by decide +kernel) rfl ?_
  refine s_aload_n (show decode (am_cc m8_rank) 15 = .ok (.aload_n 0, 1) by decide +kernel) rfl ?_
  refine s_getf (k := 8) (v := vr 54) (show decode (am_cc m8_rank) 16 = .ok (.getfield 50, 3) by decide +kernel) kd0 (by decide) rfl jnX8 (by decide) lf_RX8_50 rfl ?_
  refine s_aload_n (show decode (am_cc m8_rank) 19 = .ok (.aload_n 2, 1) by decide +kernel) rfl ?_
  exact n_callV (as := [vr a2]) (stk := [vr a2]) (show decode (am_cc m8_rank) 20 = .ok (.invokevirtual 231, 3) by decide +kernel) lk_RX8_231 kd54 (by decide) rfl rfl (by decide) (Nat.le_of_ble_eq_true rfl) ⟨rfl, rfl⟩ k
theorem g8_rank_23 {a1 a2 t0 t1 : Int} {M : am_M} {Q : Option am_V → am_M → Prop} {r0 : List Int} (h1 : am_kd KS t0 = some (6, 2, r0)) (k : am_CallN m6_holdsAt [vr t0, vi t1] KS M (fun r M' => am_AtN m8_rank 26 [some (vr 0), some (vi a1), some (vr a2)] (r.toList ++ []) KS M' Q)) : am_AtN m8_rank 23 [some (vr 0), some (vi a1), some (vr a2)] [vi t1, vr t0] KS M Q := by
  exact n_callV (as := [vi t1]) (stk := []) (show decode (am_cc m8_rank) 23 = .ok (.invokevirtual 126, 3) by decide +kernel) lk_RX8_126 h1 (by decide) rfl rfl (by decide) (Nat.le_of_ble_eq_true rfl) ⟨rfl, rfl⟩ k
theorem g8_rank_26 {a1 a2 t0 : Int} {M : am_M} {Q : Option am_V → am_M → Prop} (k1 : ¬ t0 = 0 → am_AtN m8_rank 33 [some (vr 0), some (vi a1), some (vr a2)] [] KS M Q) (k2 : t0 = 0 → am_AtN m8_rank 29 [some (vr 0), some (vi a1), some (vr a2)] [] KS M Q) : am_AtN m8_rank 26 [some (vr 0), some (vi a1), some (vr a2)] [vi t0] KS M Q := by
  exact s_if_ne (tgt := 33) (show decode (am_cc m8_rank) 26 = .ok (.ifCond .ne 7, 3) by decide +kernel) (by decide) k1 k2
theorem g8_rank_29 {a1 a2 : Int} {M : am_M} {Q : Option am_V → am_M → Prop} (k : Q (some (vl (-3))) M) : am_AtN m8_rank 29 [some (vr 0), some (vi a1), some (vr a2)] [] KS M Q := by
  refine s_ldc2 (show decode (am_cc m8_rank) 29 = .ok (.ldc2_w 235, 3) by decide +kernel) lc_RX8_235 ⟨by decide, by decide⟩ ?_
  exact s_lreturn (show decode (am_cc m8_rank) 32 = .ok (.lreturn, 1) by decide +kernel) rfl k
theorem g8_rank_33 {a1 a2 : Int} {M : am_M} {Q : Option am_V → am_M → Prop} (k : am_CallN m5_size [vr 54] KS M (fun r M' => am_AtN m8_rank 40 [some (vr 0), some (vi a1), some (vr a2)] (r.toList ++ []) KS M' Q)) : am_AtN m8_rank 33 [some (vr 0), some (vi a1), some (vr a2)] [] KS M Q := by
  refine s_aload_n (show decode (am_cc m8_rank) 33 = .ok (.aload_n 0, 1) by decide +kernel) rfl ?_
  refine s_getf (k := 8) (v := vr 54) (show decode (am_cc m8_rank) 34 = .ok (.getfield 50, 3) by decide +kernel) kd0 (by decide) rfl jnX8 (by decide) lf_RX8_50 rfl ?_
  exact n_callV (as := []) (stk := []) (show decode (am_cc m8_rank) 37 = .ok (.invokevirtual 237, 3) by decide +kernel) lk_RX8_237 kd54 (by decide) rfl rfl (by decide) (Nat.le_of_ble_eq_true rfl) ⟨rfl, rfl⟩ k
theorem g8_rank_40 {a1 a2 t0 : Int} {M : am_M} {Q : Option am_V → am_M → Prop} (k1 : t0 ≤ 20 → am_AtN m8_rank 49 [some (vr 0), some (vi a1), some (vr a2)] [] KS M Q) (k2 : ¬ (t0 ≤ 20) → am_AtN m8_rank 45 [some (vr 0), some (vi a1), some (vr a2)] [] KS M Q) : am_AtN m8_rank 40 [some (vr 0), some (vi a1), some (vr a2)] [vi t0] KS M Q := by
  refine s_bipush (show decode (am_cc m8_rank) 40 = .ok (.bipush 20, 2) by decide +kernel) ⟨by decide, by decide⟩ (by decide) ?_
  exact s_icmp_le (tgt := 49) (show decode (am_cc m8_rank) 42 = .ok (.if_icmp .le 7, 3) by decide +kernel) (by decide) k1 k2
theorem g8_rank_45 {a1 a2 : Int} {M : am_M} {Q : Option am_V → am_M → Prop} (k : Q (some (vl (-4))) M) : am_AtN m8_rank 45 [some (vr 0), some (vi a1), some (vr a2)] [] KS M Q := by
  refine s_ldc2 (show decode (am_cc m8_rank) 45 = .ok (.ldc2_w 240, 3) by decide +kernel) lc_RX8_240 ⟨by decide, by decide⟩ ?_
  exact s_lreturn (show decode (am_cc m8_rank) 48 = .ok (.lreturn, 1) by decide +kernel) rfl k
theorem g8_rank_49 {a1 a2 : Int} {M : am_M} {Q : Option am_V → am_M → Prop} (k : am_CallN m5_size [vr 54] KS M (fun r M' => am_AtN m8_rank 61 [some (vr 0), some (vi a1), some (vr a2)] (r.toList ++ [vr a2, vr 84]) KS M' Q)) : am_AtN m8_rank 49 [some (vr 0), some (vi a1), some (vr a2)] [] KS M Q := by
  refine s_aload_n (show decode (am_cc m8_rank) 49 = .ok (.aload_n 0, 1) by decide +kernel) rfl ?_
  refine s_getf (k := 15) (v := vr 84) (show decode (am_cc m8_rank) 50 = .ok (.getfield 93, 3) by decide +kernel) kd0 (by decide) rfl jnX8 (by decide) lf_RX8_93 rfl ?_
  refine s_aload_n (show decode (am_cc m8_rank) 53 = .ok (.aload_n 2, 1) by decide +kernel) rfl ?_
  refine s_aload_n (show decode (am_cc m8_rank) 54 = .ok (.aload_n 0, 1) by decide +kernel) rfl ?_
  refine s_getf (k := 8) (v := vr 54) (show decode (am_cc m8_rank) 55 = .ok (.getfield 50, 3) by decide +kernel) kd0 (by decide) rfl jnX8 (by decide) lf_RX8_50 rfl ?_
  exact n_callV (as := []) (stk := [vr a2, vr 84]) (show decode (am_cc m8_rank) 58 = .ok (.invokevirtual 237, 3) by decide +kernel) lk_RX8_237 kd54 (by decide) rfl rfl (by decide) (Nat.le_of_ble_eq_true rfl) ⟨rfl, rfl⟩ k
theorem g8_rank_61 {a1 a2 t0 t1 t2 : Int} {M : am_M} {Q : Option am_V → am_M → Prop} {r0 : List Int} (h1 : am_kd KS t0 = some (7, 2, r0)) (k : am_CallN m7_fill [vr t0, vr t1, vi t2, vi (M 0 0)] KS M (fun r M' => am_AtN m8_rank 68 [some (vr 0), some (vi a1), some (vr a2)] (r.toList ++ []) KS M' Q)) : am_AtN m8_rank 61 [some (vr 0), some (vi a1), some (vr a2)] [vi t2, vr t1, vr t0] KS M Q := by
  refine s_aload_n (show decode (am_cc m8_rank) 61 = .ok (.aload_n 0, 1) by decide +kernel) rfl ?_
  refine s_getf (k := 0) (v := vi (M 0 0)) (show decode (am_cc m8_rank) 62 = .ok (.getfield 9, 3) by decide +kernel) kd0 (by decide) rfl jnX8 (by decide) lf_RX8_9 rfl ?_
  exact n_callV (as := [vr t1, vi t2, vi (M 0 0)]) (stk := []) (show decode (am_cc m8_rank) 65 = .ok (.invokevirtual 217, 3) by decide +kernel) lk_RX8_217 h1 (by decide) rfl rfl (by decide) (Nat.le_of_ble_eq_true rfl) ⟨rfl, rfl⟩ k
theorem g8_rank_68 {a1 a2 : Int} {M : am_M} {Q : Option am_V → am_M → Prop} (k : am_CallN m7_placeOf [vr 84, vr a2, vr 54] KS M (fun r M' => am_AtN m8_rank 80 [some (vr 0), some (vi a1), some (vr a2)] (r.toList ++ []) KS M' Q)) : am_AtN m8_rank 68 [some (vr 0), some (vi a1), some (vr a2)] [] KS M Q := by
  refine s_aload_n (show decode (am_cc m8_rank) 68 = .ok (.aload_n 0, 1) by decide +kernel) rfl ?_
  refine s_getf (k := 15) (v := vr 84) (show decode (am_cc m8_rank) 69 = .ok (.getfield 93, 3) by decide +kernel) kd0 (by decide) rfl jnX8 (by decide) lf_RX8_93 rfl ?_
  refine s_aload_n (show decode (am_cc m8_rank) 72 = .ok (.aload_n 2, 1) by decide +kernel) rfl ?_
  refine s_aload_n (show decode (am_cc m8_rank) 73 = .ok (.aload_n 0, 1) by decide +kernel) rfl ?_
  refine s_getf (k := 8) (v := vr 54) (show decode (am_cc m8_rank) 74 = .ok (.getfield 50, 3) by decide +kernel) kd0 (by decide) rfl jnX8 (by decide) lf_RX8_50 rfl ?_
  exact n_callV (as := [vr a2, vr 54]) (stk := []) (show decode (am_cc m8_rank) 77 = .ok (.invokevirtual 242, 3) by decide +kernel) lk_RX8_242 kd84 (by decide) rfl rfl (by decide) (Nat.le_of_ble_eq_true rfl) ⟨rfl, rfl⟩ k
theorem g8_rank_80 {a1 a2 t0 : Int} {M : am_M} {Q : Option am_V → am_M → Prop} (k : Q (some (vl t0)) M) : am_AtN m8_rank 80 [some (vr 0), some (vi a1), some (vr a2)] [vl t0] KS M Q := by
  exact s_lreturn (show decode (am_cc m8_rank) 80 = .ok (.lreturn, 1) by decide +kernel) rfl k
theorem g8_letter_0 {a1 : Int} {M : am_M} {Q : Option am_V → am_M → Prop} (k : am_CallN m8_within [vi a1, vi (M 0 0)] KS M (fun r M' => am_AtN m8_letter 8 [some (vr 0), some (vi a1)] (r.toList ++ []) KS M' Q)) : am_AtN m8_letter 0 [some (vr 0), some (vi a1)] [] KS M Q := by
  refine s_iload_n (show decode (am_cc m8_letter) 0 = .ok (.iload_n 1, 1) by decide +kernel) rfl ?_
  refine s_aload_n (show decode (am_cc m8_letter) 1 = .ok (.aload_n 0, 1) by decide +kernel) rfl ?_
  refine s_getf (k := 0) (v := vi (M 0 0)) (show decode (am_cc m8_letter) 2 = .ok (.getfield 9, 3) by decide +kernel) kd0 (by decide) rfl jnX8 (by decide) lf_RX8_9 rfl ?_
  exact n_callS (as := [vi a1, vi (M 0 0)]) (stk := []) (show decode (am_cc m8_letter) 5 = .ok (.invokestatic 114, 3) by decide +kernel) lk_RX8_114 (by decide) (Nat.le_of_ble_eq_true rfl) ⟨rfl, rfl⟩ k
theorem g8_letter_8 {a1 t0 : Int} {M : am_M} {Q : Option am_V → am_M → Prop} (k1 : ¬ t0 = 0 → am_AtN m8_letter 13 [some (vr 0), some (vi a1)] [] KS M Q) (k2 : t0 = 0 → am_AtN m8_letter 11 [some (vr 0), some (vi a1)] [] KS M Q) : am_AtN m8_letter 8 [some (vr 0), some (vi a1)] [vi t0] KS M Q := by
  exact s_if_ne (tgt := 13) (show decode (am_cc m8_letter) 8 = .ok (.ifCond .ne 5, 3) by decide +kernel) (by decide) k1 k2
theorem g8_letter_11 {a1 : Int} {M : am_M} {Q : Option am_V → am_M → Prop} (k : Q (some (vi (-1))) M) : am_AtN m8_letter 11 [some (vr 0), some (vi a1)] [] KS M Q := by
  refine s_iconst (show decode (am_cc m8_letter) 11 = .ok (.iconst (-1), 1) by decide +kernel) ⟨by decide, by decide⟩ ?_
  exact s_ireturn (show decode (am_cc m8_letter) 12 = .ok (.ireturn, 1) by decide +kernel) rfl k
theorem g8_letter_13 {a1 : Int} {M : am_M} {Q : Option am_V → am_M → Prop} (k : am_CallN m5_size [vr 54] KS M (fun r M' => am_AtN m8_letter 20 [some (vr 0), some (vi a1)] (r.toList ++ []) KS M' Q)) : am_AtN m8_letter 13 [some (vr 0), some (vi a1)] [] KS M Q := by
  refine s_aload_n (show decode (am_cc m8_letter) 13 = .ok (.aload_n 0, 1) by decide +kernel) rfl ?_
  refine s_getf (k := 8) (v := vr 54) (show decode (am_cc m8_letter) 14 = .ok (.getfield 50, 3) by decide +kernel) kd0 (by decide) rfl jnX8 (by decide) lf_RX8_50 rfl ?_
  exact n_callV (as := []) (stk := []) (show decode (am_cc m8_letter) 17 = .ok (.invokevirtual 237, 3) by decide +kernel) lk_RX8_237 kd54 (by decide) rfl rfl (by decide) (Nat.le_of_ble_eq_true rfl) ⟨rfl, rfl⟩ k
theorem g8_letter_20 {a1 t0 : Int} {M : am_M} {Q : Option am_V → am_M → Prop} (k1 : t0 < 24 → am_AtN m8_letter 28 [some (vr 0), some (vi a1)] [] KS M Q) (k2 : ¬ (t0 < 24) → am_AtN m8_letter 25 [some (vr 0), some (vi a1)] [] KS M Q) : am_AtN m8_letter 20 [some (vr 0), some (vi a1)] [vi t0] KS M Q := by
  refine s_bipush (show decode (am_cc m8_letter) 20 = .ok (.bipush 24, 2) by decide +kernel) ⟨by decide, by decide⟩ (by decide) ?_
  exact s_icmp_lt (tgt := 28) (show decode (am_cc m8_letter) 22 = .ok (.if_icmp .lt 6, 3) by decide +kernel) (by decide) k1 k2
theorem g8_letter_25 {a1 : Int} {M : am_M} {Q : Option am_V → am_M → Prop} (k : Q (some (vi (-4))) M) : am_AtN m8_letter 25 [some (vr 0), some (vi a1)] [] KS M Q := by
  refine s_bipush (show decode (am_cc m8_letter) 25 = .ok (.bipush (-4), 2) by decide +kernel) ⟨by decide, by decide⟩ (by decide) ?_
  exact s_ireturn (show decode (am_cc m8_letter) 27 = .ok (.ireturn, 1) by decide +kernel) rfl k
theorem g8_letter_28 {a1 : Int} {M : am_M} {Q : Option am_V → am_M → Prop} (k : am_CallN m5_add [vr 54, vi a1] KS M (fun r M' => am_AtN m8_letter 36 [some (vr 0), some (vi a1)] (r.toList ++ []) KS M' Q)) : am_AtN m8_letter 28 [some (vr 0), some (vi a1)] [] KS M Q := by
  refine s_aload_n (show decode (am_cc m8_letter) 28 = .ok (.aload_n 0, 1) by decide +kernel) rfl ?_
  refine s_getf (k := 8) (v := vr 54) (show decode (am_cc m8_letter) 29 = .ok (.getfield 50, 3) by decide +kernel) kd0 (by decide) rfl jnX8 (by decide) lf_RX8_50 rfl ?_
  refine s_iload_n (show decode (am_cc m8_letter) 32 = .ok (.iload_n 1, 1) by decide +kernel) rfl ?_
  exact n_callV (as := [vi a1]) (stk := []) (show decode (am_cc m8_letter) 33 = .ok (.invokevirtual 246, 3) by decide +kernel) lk_RX8_246 kd54 (by decide) rfl rfl (by decide) (Nat.le_of_ble_eq_true rfl) ⟨rfl, rfl⟩ k
theorem g8_letter_36 {a1 : Int} {M : am_M} {Q : Option am_V → am_M → Prop} (k : am_CallN m5_size [vr 54] KS M (fun r M' => am_AtN m8_letter 43 [some (vr 0), some (vi a1)] (r.toList ++ []) KS M' Q)) : am_AtN m8_letter 36 [some (vr 0), some (vi a1)] [] KS M Q := by
  refine s_aload_n (show decode (am_cc m8_letter) 36 = .ok (.aload_n 0, 1) by decide +kernel) rfl ?_
  refine s_getf (k := 8) (v := vr 54) (show decode (am_cc m8_letter) 37 = .ok (.getfield 50, 3) by decide +kernel) kd0 (by decide) rfl jnX8 (by decide) lf_RX8_50 rfl ?_
  exact n_callV (as := []) (stk := []) (show decode (am_cc m8_letter) 40 = .ok (.invokevirtual 237, 3) by decide +kernel) lk_RX8_237 kd54 (by decide) rfl rfl (by decide) (Nat.le_of_ble_eq_true rfl) ⟨rfl, rfl⟩ k
theorem g8_letter_43 {a1 t0 : Int} {M : am_M} {Q : Option am_V → am_M → Prop} (k : Q (some (vi t0)) M) : am_AtN m8_letter 43 [some (vr 0), some (vi a1)] [vi t0] KS M Q := by
  exact s_ireturn (show decode (am_cc m8_letter) 43 = .ok (.ireturn, 1) by decide +kernel) rfl k
theorem g8_clear_0 {M : am_M} {Q : Option am_V → am_M → Prop} (k : am_CallN m5_size [vr 54] KS M (fun r M' => am_AtN m8_clear 7 [some (vr 0), none] (r.toList ++ []) KS M' Q)) : am_AtN m8_clear 0 [some (vr 0), none] [] KS M Q := by
  refine s_aload_n (show decode (am_cc m8_clear) 0 = .ok (.aload_n 0, 1) by decide +kernel) rfl ?_
  refine s_getf (k := 8) (v := vr 54) (show decode (am_cc m8_clear) 1 = .ok (.getfield 50, 3) by decide +kernel) kd0 (by decide) rfl jnX8 (by decide) lf_RX8_50 rfl ?_
  exact n_callV (as := []) (stk := []) (show decode (am_cc m8_clear) 4 = .ok (.invokevirtual 237, 3) by decide +kernel) lk_RX8_237 kd54 (by decide) rfl rfl (by decide) (Nat.le_of_ble_eq_true rfl) ⟨rfl, rfl⟩ k
theorem g8_clear_7 {t0 : Int} {M : am_M} {Q : Option am_V → am_M → Prop} (k : am_CallN m5_empty [vr 54] KS M (fun r M' => am_AtN m8_clear 15 [some (vr 0), some (vi t0)] (r.toList ++ []) KS M' Q)) : am_AtN m8_clear 7 [some (vr 0), none] [vi t0] KS M Q := by
  refine s_istore_n (show decode (am_cc m8_clear) 7 = .ok (.istore_n 1, 1) by decide +kernel) (by decide) ?_
  refine s_aload_n (show decode (am_cc m8_clear) 8 = .ok (.aload_n 0, 1) by decide +kernel) rfl ?_
  refine s_getf (k := 8) (v := vr 54) (show decode (am_cc m8_clear) 9 = .ok (.getfield 50, 3) by decide +kernel) kd0 (by decide) rfl jnX8 (by decide) lf_RX8_50 rfl ?_
  exact n_callV (as := []) (stk := []) (show decode (am_cc m8_clear) 12 = .ok (.invokevirtual 107, 3) by decide +kernel) lk_RX8_107 kd54 (by decide) rfl rfl (by decide) (Nat.le_of_ble_eq_true rfl) ⟨rfl, rfl⟩ k
theorem g8_clear_15 {a1 : Int} {M : am_M} {Q : Option am_V → am_M → Prop} (k : Q (some (vi a1)) M) : am_AtN m8_clear 15 [some (vr 0), some (vi a1)] [] KS M Q := by
  refine s_iload_n (show decode (am_cc m8_clear) 15 = .ok (.iload_n 1, 1) by decide +kernel) rfl ?_
  exact s_ireturn (show decode (am_cc m8_clear) 16 = .ok (.ireturn, 1) by decide +kernel) rfl k
theorem g8_at_0 {a1 : Int} {M : am_M} {Q : Option am_V → am_M → Prop} (k : am_CallN m5_letterAt [vr 54, vi a1] KS M (fun r M' => am_AtN m8_at 8 [some (vr 0), some (vi a1)] (r.toList ++ []) KS M' Q)) : am_AtN m8_at 0 [some (vr 0), some (vi a1)] [] KS M Q := by
  refine s_aload_n (show decode (am_cc m8_at) 0 = .ok (.aload_n 0, 1) by decide +kernel) rfl ?_
  refine s_getf (k := 8) (v := vr 54) (show decode (am_cc m8_at) 1 = .ok (.getfield 50, 3) by decide +kernel) kd0 (by decide) rfl jnX8 (by decide) lf_RX8_50 rfl ?_
  refine s_iload_n (show decode (am_cc m8_at) 4 = .ok (.iload_n 1, 1) by decide +kernel) rfl ?_
  exact n_callV (as := [vi a1]) (stk := []) (show decode (am_cc m8_at) 5 = .ok (.invokevirtual 228, 3) by decide +kernel) lk_RX8_228 kd54 (by decide) rfl rfl (by decide) (Nat.le_of_ble_eq_true rfl) ⟨rfl, rfl⟩ k
theorem g8_at_8 {a1 t0 : Int} {M : am_M} {Q : Option am_V → am_M → Prop} (k : Q (some (vi t0)) M) : am_AtN m8_at 8 [some (vr 0), some (vi a1)] [vi t0] KS M Q := by
  exact s_ireturn (show decode (am_cc m8_at) 8 = .ok (.ireturn, 1) by decide +kernel) rfl k
theorem g8_is_0 {a1 : Int} {M : am_M} {Q : Option am_V → am_M → Prop} (k : am_CallN m8_sentenceOf [vr 0, vi a1] KS M (fun r M' => am_AtN m8_is 5 [some (vr 0), some (vi a1), none] (r.toList ++ []) KS M' Q)) : am_AtN m8_is 0 [some (vr 0), some (vi a1), none] [] KS M Q := by
  refine s_aload_n (show decode (am_cc m8_is) 0 = .ok (.aload_n 0, 1) by decide +kernel) rfl ?_
  refine s_iload_n (show decode (am_cc m8_is) 1 = .ok (.iload_n 1, 1) by decide +kernel) rfl ?_
  exact n_callV (as := [vi a1]) (stk := []) (show decode (am_cc m8_is) 2 = .ok (.invokevirtual 110, 3) by decide +kernel) lk_RX8_110 kd0 (by decide) rfl rfl (by decide) (Nat.le_of_ble_eq_true rfl) ⟨rfl, rfl⟩ k
theorem g8_is_5 {a1 t0 : Int} {M : am_M} {Q : Option am_V → am_M → Prop} (k1 : ¬ t0 = -1 → am_AtN m8_is 12 [some (vr 0), some (vi a1), some (vr t0)] [] KS M Q) (k2 : t0 = -1 → am_AtN m8_is 10 [some (vr 0), some (vi a1), some (vr t0)] [] KS M Q) : am_AtN m8_is 5 [some (vr 0), some (vi a1), none] [vr t0] KS M Q := by
  refine s_astore_n (show decode (am_cc m8_is) 5 = .ok (.astore_n 2, 1) by decide +kernel) (by decide) ?_
  refine s_aload_n (show decode (am_cc m8_is) 6 = .ok (.aload_n 2, 1) by decide +kernel) rfl ?_
  exact s_ifnonnull (tgt := 12) (show decode (am_cc m8_is) 7 = .ok (.ifnonnull 5, 3) by decide +kernel) (by decide) k1 k2
theorem g8_is_10 {a1 a2 : Int} {M : am_M} {Q : Option am_V → am_M → Prop} (k : Q (some (vi (-1))) M) : am_AtN m8_is 10 [some (vr 0), some (vi a1), some (vr a2)] [] KS M Q := by
  refine s_iconst (show decode (am_cc m8_is) 10 = .ok (.iconst (-1), 1) by decide +kernel) ⟨by decide, by decide⟩ ?_
  exact s_ireturn (show decode (am_cc m8_is) 11 = .ok (.ireturn, 1) by decide +kernel) rfl k
theorem g8_is_12 {a1 a2 : Int} {M : am_M} {Q : Option am_V → am_M → Prop} (k : am_CallN m5_walkedBy [vr 54, vr a2] KS M (fun r M' => am_AtN m8_is 21 [some (vr 0), some (vi a1), some (vr a2)] (r.toList ++ [vr a2]) KS M' Q)) : am_AtN m8_is 12 [some (vr 0), some (vi a1), some (vr a2)] [] KS M Q := by
  refine s_aload_n (show decode (am_cc m8_is) 12 = .ok (.aload_n 2, 1) by decide +kernel) rfl ?_
  refine s_aload_n (show decode (am_cc m8_is) 13 = .ok (.aload_n 0, 1) by decide +kernel) rfl ?_
  refine s_getf (k := 8) (v := vr 54) (show decode (am_cc m8_is) 14 = .ok (.getfield 50, 3) by decide +kernel) kd0 (by decide) rfl jnX8 (by decide) lf_RX8_50 rfl ?_
  refine s_aload_n (show decode (am_cc m8_is) 17 = .ok (.aload_n 2, 1) by decide +kernel) rfl ?_
  exact n_callV (as := [vr a2]) (stk := [vr a2]) (show decode (am_cc m8_is) 18 = .ok (.invokevirtual 231, 3) by decide +kernel) lk_RX8_231 kd54 (by decide) rfl rfl (by decide) (Nat.le_of_ble_eq_true rfl) ⟨rfl, rfl⟩ k
theorem g8_is_21 {a1 a2 t0 t1 : Int} {M : am_M} {Q : Option am_V → am_M → Prop} {r0 : List Int} (h1 : am_kd KS t0 = some (6, 2, r0)) (k : am_CallN m6_holdsAt [vr t0, vi t1] KS M (fun r M' => am_AtN m8_is 24 [some (vr 0), some (vi a1), some (vr a2)] (r.toList ++ []) KS M' Q)) : am_AtN m8_is 21 [some (vr 0), some (vi a1), some (vr a2)] [vi t1, vr t0] KS M Q := by
  exact n_callV (as := [vi t1]) (stk := []) (show decode (am_cc m8_is) 21 = .ok (.invokevirtual 126, 3) by decide +kernel) lk_RX8_126 h1 (by decide) rfl rfl (by decide) (Nat.le_of_ble_eq_true rfl) ⟨rfl, rfl⟩ k
theorem g8_is_24 {a1 a2 t0 : Int} {M : am_M} {Q : Option am_V → am_M → Prop} (k : am_CallN m8_oneIf [vi t0] KS M (fun r M' => am_AtN m8_is 27 [some (vr 0), some (vi a1), some (vr a2)] (r.toList ++ []) KS M' Q)) : am_AtN m8_is 24 [some (vr 0), some (vi a1), some (vr a2)] [vi t0] KS M Q := by
  exact n_callS (as := [vi t0]) (stk := []) (show decode (am_cc m8_is) 24 = .ok (.invokestatic 130, 3) by decide +kernel) lk_RX8_130 (by decide) (Nat.le_of_ble_eq_true rfl) ⟨rfl, rfl⟩ k
theorem g8_is_27 {a1 a2 t0 : Int} {M : am_M} {Q : Option am_V → am_M → Prop} (k : Q (some (vi t0)) M) : am_AtN m8_is 27 [some (vr 0), some (vi a1), some (vr a2)] [vi t0] KS M Q := by
  exact s_ireturn (show decode (am_cc m8_is) 27 = .ok (.ireturn, 1) by decide +kernel) rfl k
theorem g8_run_0 {a1 : Int} {M : am_M} {Q : Option am_V → am_M → Prop} (k : am_CallN m8_programOf [vr 0, vi a1] KS M (fun r M' => am_AtN m8_run 5 [some (vr 0), some (vi a1), none] (r.toList ++ []) KS M' Q)) : am_AtN m8_run 0 [some (vr 0), some (vi a1), none] [] KS M Q := by
  refine s_aload_n (show decode (am_cc m8_run) 0 = .ok (.aload_n 0, 1) by decide +kernel) rfl ?_
  refine s_iload_n (show decode (am_cc m8_run) 1 = .ok (.iload_n 1, 1) by decide +kernel) rfl ?_
  exact n_callV (as := [vi a1]) (stk := []) (show decode (am_cc m8_run) 2 = .ok (.invokevirtual 153, 3) by decide +kernel) lk_RX8_153 kd0 (by decide) rfl rfl (by decide) (Nat.le_of_ble_eq_true rfl) ⟨rfl, rfl⟩ k
theorem g8_run_5 {a1 t0 : Int} {M : am_M} {Q : Option am_V → am_M → Prop} (k1 : ¬ t0 = -1 → am_AtN m8_run 12 [some (vr 0), some (vi a1), some (vr t0)] [] KS M Q) (k2 : t0 = -1 → am_AtN m8_run 10 [some (vr 0), some (vi a1), some (vr t0)] [] KS M Q) : am_AtN m8_run 5 [some (vr 0), some (vi a1), none] [vr t0] KS M Q := by
  refine s_astore_n (show decode (am_cc m8_run) 5 = .ok (.astore_n 2, 1) by decide +kernel) (by decide) ?_
  refine s_aload_n (show decode (am_cc m8_run) 6 = .ok (.aload_n 2, 1) by decide +kernel) rfl ?_
  exact s_ifnonnull (tgt := 12) (show decode (am_cc m8_run) 7 = .ok (.ifnonnull 5, 3) by decide +kernel) (by decide) k1 k2
theorem g8_run_10 {a1 a2 : Int} {M : am_M} {Q : Option am_V → am_M → Prop} (k : Q (some (vi (-1))) M) : am_AtN m8_run 10 [some (vr 0), some (vi a1), some (vr a2)] [] KS M Q := by
  refine s_iconst (show decode (am_cc m8_run) 10 = .ok (.iconst (-1), 1) by decide +kernel) ⟨by decide, by decide⟩ ?_
  exact s_ireturn (show decode (am_cc m8_run) 11 = .ok (.ireturn, 1) by decide +kernel) rfl k
theorem g8_run_12 {a1 a2 : Int} {M : am_M} {Q : Option am_V → am_M → Prop} {r0 : List Int} (h1 : am_kd KS a2 = some (4, 3, r0)) (k : am_CallN m4_rewrite [vr a2, vr 54, vr 58] KS M (fun r M' => am_AtN m8_run 24 [some (vr 0), some (vi a1), some (vr a2)] (r.toList ++ []) KS M' Q)) : am_AtN m8_run 12 [some (vr 0), some (vi a1), some (vr a2)] [] KS M Q := by
  refine s_aload_n (show decode (am_cc m8_run) 12 = .ok (.aload_n 2, 1) by decide +kernel) rfl ?_
  refine s_aload_n (show decode (am_cc m8_run) 13 = .ok (.aload_n 0, 1) by decide +kernel) rfl ?_
  refine s_getf (k := 8) (v := vr 54) (show decode (am_cc m8_run) 14 = .ok (.getfield 50, 3) by decide +kernel) kd0 (by decide) rfl jnX8 (by decide) lf_RX8_50 rfl ?_
  refine s_aload_n (show decode (am_cc m8_run) 17 = .ok (.aload_n 0, 1) by decide +kernel) rfl ?_
  refine s_getf (k := 10) (v := vr 58) (show decode (am_cc m8_run) 18 = .ok (.getfield 57, 3) by decide +kernel) kd0 (by decide) rfl jnX8 (by decide) lf_RX8_57 rfl ?_
  exact n_callV (as := [vr 54, vr 58]) (stk := []) (show decode (am_cc m8_run) 21 = .ok (.invokevirtual 249, 3) by decide +kernel) lk_RX8_249 h1 (by decide) rfl rfl (by decide) (Nat.le_of_ble_eq_true rfl) ⟨rfl, rfl⟩ k
theorem g8_run_24 {a1 a2 t0 : Int} {M : am_M} {Q : Option am_V → am_M → Prop} (k1 : ¬ t0 = 0 → am_AtN m8_run 30 [some (vr 0), some (vi a1), some (vr a2)] [] KS M Q) (k2 : t0 = 0 → am_AtN m8_run 27 [some (vr 0), some (vi a1), some (vr a2)] [] KS M Q) : am_AtN m8_run 24 [some (vr 0), some (vi a1), some (vr a2)] [vi t0] KS M Q := by
  exact s_if_ne (tgt := 30) (show decode (am_cc m8_run) 24 = .ok (.ifCond .ne 6, 3) by decide +kernel) (by decide) k1 k2
theorem g8_run_27 {a1 a2 : Int} {M : am_M} {Q : Option am_V → am_M → Prop} (k : Q (some (vi (-3))) M) : am_AtN m8_run 27 [some (vr 0), some (vi a1), some (vr a2)] [] KS M Q := by
  refine s_bipush (show decode (am_cc m8_run) 27 = .ok (.bipush (-3), 2) by decide +kernel) ⟨by decide, by decide⟩ (by decide) ?_
  exact s_ireturn (show decode (am_cc m8_run) 29 = .ok (.ireturn, 1) by decide +kernel) rfl k
theorem g8_run_30 {a1 a2 : Int} {M : am_M} {Q : Option am_V → am_M → Prop} (k : am_CallN m5_size [vr 58] KS M (fun r M' => am_AtN m8_run 37 [some (vr 0), some (vi a1), some (vr a2)] (r.toList ++ []) KS M' Q)) : am_AtN m8_run 30 [some (vr 0), some (vi a1), some (vr a2)] [] KS M Q := by
  refine s_aload_n (show decode (am_cc m8_run) 30 = .ok (.aload_n 0, 1) by decide +kernel) rfl ?_
  refine s_getf (k := 10) (v := vr 58) (show decode (am_cc m8_run) 31 = .ok (.getfield 57, 3) by decide +kernel) kd0 (by decide) rfl jnX8 (by decide) lf_RX8_57 rfl ?_
  exact n_callV (as := []) (stk := []) (show decode (am_cc m8_run) 34 = .ok (.invokevirtual 237, 3) by decide +kernel) lk_RX8_237 kd58 (by decide) rfl rfl (by decide) (Nat.le_of_ble_eq_true rfl) ⟨rfl, rfl⟩ k
theorem g8_run_37 {a1 a2 t0 : Int} {M : am_M} {Q : Option am_V → am_M → Prop} (k1 : t0 ≤ 24 → am_AtN m8_run 45 [some (vr 0), some (vi a1), some (vr a2)] [] KS M Q) (k2 : ¬ (t0 ≤ 24) → am_AtN m8_run 42 [some (vr 0), some (vi a1), some (vr a2)] [] KS M Q) : am_AtN m8_run 37 [some (vr 0), some (vi a1), some (vr a2)] [vi t0] KS M Q := by
  refine s_bipush (show decode (am_cc m8_run) 37 = .ok (.bipush 24, 2) by decide +kernel) ⟨by decide, by decide⟩ (by decide) ?_
  exact s_icmp_le (tgt := 45) (show decode (am_cc m8_run) 39 = .ok (.if_icmp .le 6, 3) by decide +kernel) (by decide) k1 k2
theorem g8_run_42 {a1 a2 : Int} {M : am_M} {Q : Option am_V → am_M → Prop} (k : Q (some (vi (-4))) M) : am_AtN m8_run 42 [some (vr 0), some (vi a1), some (vr a2)] [] KS M Q := by
  refine s_bipush (show decode (am_cc m8_run) 42 = .ok (.bipush (-4), 2) by decide +kernel) ⟨by decide, by decide⟩ (by decide) ?_
  exact s_ireturn (show decode (am_cc m8_run) 44 = .ok (.ireturn, 1) by decide +kernel) rfl k
theorem g8_run_45 {a1 a2 : Int} {M : am_M} {Q : Option am_V → am_M → Prop} (k : am_CallN m5_copy [vr 54, vr 58] KS M (fun r M' => am_AtN m8_run 56 [some (vr 0), some (vi a1), some (vr a2)] (r.toList ++ []) KS M' Q)) : am_AtN m8_run 45 [some (vr 0), some (vi a1), some (vr a2)] [] KS M Q := by
  refine s_aload_n (show decode (am_cc m8_run) 45 = .ok (.aload_n 0, 1) by decide +kernel) rfl ?_
  refine s_getf (k := 8) (v := vr 54) (show decode (am_cc m8_run) 46 = .ok (.getfield 50, 3) by decide +kernel) kd0 (by decide) rfl jnX8 (by decide) lf_RX8_50 rfl ?_
  refine s_aload_n (show decode (am_cc m8_run) 49 = .ok (.aload_n 0, 1) by decide +kernel) rfl ?_
  refine s_getf (k := 10) (v := vr 58) (show decode (am_cc m8_run) 50 = .ok (.getfield 57, 3) by decide +kernel) kd0 (by decide) rfl jnX8 (by decide) lf_RX8_57 rfl ?_
  exact n_callV (as := [vr 58]) (stk := []) (show decode (am_cc m8_run) 53 = .ok (.invokevirtual 253, 3) by decide +kernel) lk_RX8_253 kd54 (by decide) rfl rfl (by decide) (Nat.le_of_ble_eq_true rfl) ⟨rfl, rfl⟩ k
theorem g8_run_56 {a1 a2 : Int} {M : am_M} {Q : Option am_V → am_M → Prop} (k : am_CallN m5_size [vr 54] KS M (fun r M' => am_AtN m8_run 63 [some (vr 0), some (vi a1), some (vr a2)] (r.toList ++ []) KS M' Q)) : am_AtN m8_run 56 [some (vr 0), some (vi a1), some (vr a2)] [] KS M Q := by
  refine s_aload_n (show decode (am_cc m8_run) 56 = .ok (.aload_n 0, 1) by decide +kernel) rfl ?_
  refine s_getf (k := 8) (v := vr 54) (show decode (am_cc m8_run) 57 = .ok (.getfield 50, 3) by decide +kernel) kd0 (by decide) rfl jnX8 (by decide) lf_RX8_50 rfl ?_
  exact n_callV (as := []) (stk := []) (show decode (am_cc m8_run) 60 = .ok (.invokevirtual 237, 3) by decide +kernel) lk_RX8_237 kd54 (by decide) rfl rfl (by decide) (Nat.le_of_ble_eq_true rfl) ⟨rfl, rfl⟩ k
theorem g8_run_63 {a1 a2 t0 : Int} {M : am_M} {Q : Option am_V → am_M → Prop} (k : Q (some (vi t0)) M) : am_AtN m8_run 63 [some (vr 0), some (vi a1), some (vr a2)] [vi t0] KS M Q := by
  exact s_ireturn (show decode (am_cc m8_run) 63 = .ok (.ireturn, 1) by decide +kernel) rfl k
theorem g8_rounds_0 {a1 : Int} {M : am_M} {Q : Option am_V → am_M → Prop} (k : am_CallN m8_programOf [vr 0, vi a1] KS M (fun r M' => am_AtN m8_rounds 5 [some (vr 0), some (vi a1), none, none] (r.toList ++ []) KS M' Q)) : am_AtN m8_rounds 0 [some (vr 0), some (vi a1), none, none] [] KS M Q := by
  refine s_aload_n (show decode (am_cc m8_rounds) 0 = .ok (.aload_n 0, 1) by decide +kernel) rfl ?_
  refine s_iload_n (show decode (am_cc m8_rounds) 1 = .ok (.iload_n 1, 1) by decide +kernel) rfl ?_
  exact n_callV (as := [vi a1]) (stk := []) (show decode (am_cc m8_rounds) 2 = .ok (.invokevirtual 153, 3) by decide +kernel) lk_RX8_153 kd0 (by decide) rfl rfl (by decide) (Nat.le_of_ble_eq_true rfl) ⟨rfl, rfl⟩ k
theorem g8_rounds_5 {a1 t0 : Int} {M : am_M} {Q : Option am_V → am_M → Prop} (k1 : ¬ t0 = -1 → am_AtN m8_rounds 12 [some (vr 0), some (vi a1), some (vr t0), none] [] KS M Q) (k2 : t0 = -1 → am_AtN m8_rounds 10 [some (vr 0), some (vi a1), some (vr t0), none] [] KS M Q) : am_AtN m8_rounds 5 [some (vr 0), some (vi a1), none, none] [vr t0] KS M Q := by
  refine s_astore_n (show decode (am_cc m8_rounds) 5 = .ok (.astore_n 2, 1) by decide +kernel) (by decide) ?_
  refine s_aload_n (show decode (am_cc m8_rounds) 6 = .ok (.aload_n 2, 1) by decide +kernel) rfl ?_
  exact s_ifnonnull (tgt := 12) (show decode (am_cc m8_rounds) 7 = .ok (.ifnonnull 5, 3) by decide +kernel) (by decide) k1 k2
theorem g8_rounds_10 {a1 a2 : Int} {M : am_M} {Q : Option am_V → am_M → Prop} (k : Q (some (vi (-1))) M) : am_AtN m8_rounds 10 [some (vr 0), some (vi a1), some (vr a2), none] [] KS M Q := by
  refine s_iconst (show decode (am_cc m8_rounds) 10 = .ok (.iconst (-1), 1) by decide +kernel) ⟨by decide, by decide⟩ ?_
  exact s_ireturn (show decode (am_cc m8_rounds) 11 = .ok (.ireturn, 1) by decide +kernel) rfl k
theorem g8_rounds_12 {a1 a2 : Int} {M : am_M} {Q : Option am_V → am_M → Prop} (k : am_CallN m5_copy [vr 56, vr 54] KS M (fun r M' => am_AtN m8_rounds 23 [some (vr 0), some (vi a1), some (vr a2), none] (r.toList ++ []) KS M' Q)) : am_AtN m8_rounds 12 [some (vr 0), some (vi a1), some (vr a2), none] [] KS M Q := by
  refine s_aload_n (show decode (am_cc m8_rounds) 12 = .ok (.aload_n 0, 1) by decide +kernel) rfl ?_
  refine s_getf (k := 9) (v := vr 56) (show decode (am_cc m8_rounds) 13 = .ok (.getfield 54, 3) by decide +kernel) kd0 (by decide) rfl jnX8 (by decide) lf_RX8_54 rfl ?_
  refine s_aload_n (show decode (am_cc m8_rounds) 16 = .ok (.aload_n 0, 1) by decide +kernel) rfl ?_
  refine s_getf (k := 8) (v := vr 54) (show decode (am_cc m8_rounds) 17 = .ok (.getfield 50, 3) by decide +kernel) kd0 (by decide) rfl jnX8 (by decide) lf_RX8_50 rfl ?_
  exact n_callV (as := [vr 54]) (stk := []) (show decode (am_cc m8_rounds) 20 = .ok (.invokevirtual 253, 3) by decide +kernel) lk_RX8_253 kd56 (by decide) rfl rfl (by decide) (Nat.le_of_ble_eq_true rfl) ⟨rfl, rfl⟩ k
theorem g8_rounds_23 {a1 a2 : Int} {M : am_M} {Q : Option am_V → am_M → Prop} (k : am_AtN m8_rounds 25 [some (vr 0), some (vi a1), some (vr a2), some (vi 0)] [] KS M Q) : am_AtN m8_rounds 23 [some (vr 0), some (vi a1), some (vr a2), none] [] KS M Q := by
  refine s_iconst (show decode (am_cc m8_rounds) 23 = .ok (.iconst 0, 1) by decide +kernel) ⟨by decide, by decide⟩ ?_
  refine s_istore_n (show decode (am_cc m8_rounds) 24 = .ok (.istore_n 3, 1) by decide +kernel) (by decide) ?_
  exact k
theorem g8_rounds_25 {a1 a2 a3 : Int} {M : am_M} {Q : Option am_V → am_M → Prop} (k1 : 60 ≤ a3 → am_AtN m8_rounds 97 [some (vr 0), some (vi a1), some (vr a2), some (vi a3)] [] KS M Q) (k2 : ¬ (60 ≤ a3) → am_AtN m8_rounds 31 [some (vr 0), some (vi a1), some (vr a2), some (vi a3)] [] KS M Q) : am_AtN m8_rounds 25 [some (vr 0), some (vi a1), some (vr a2), some (vi a3)] [] KS M Q := by
  refine s_iload_n (show decode (am_cc m8_rounds) 25 = .ok (.iload_n 3, 1) by decide +kernel) rfl ?_
  refine s_bipush (show decode (am_cc m8_rounds) 26 = .ok (.bipush 60, 2) by decide +kernel) ⟨by decide, by decide⟩ (by decide) ?_
  exact s_icmp_ge (tgt := 97) (show decode (am_cc m8_rounds) 28 = .ok (.if_icmp .ge 69, 3) by decide +kernel) (by decide) k1 k2
theorem g8_rounds_31 {a1 a2 a3 : Int} {M : am_M} {Q : Option am_V → am_M → Prop} {r0 : List Int} (h1 : am_kd KS a2 = some (4, 3, r0)) (k : am_CallN m4_rewrite [vr a2, vr 56, vr 58] KS M (fun r M' => am_AtN m8_rounds 43 [some (vr 0), some (vi a1), some (vr a2), some (vi a3)] (r.toList ++ []) KS M' Q)) : am_AtN m8_rounds 31 [some (vr 0), some (vi a1), some (vr a2), some (vi a3)] [] KS M Q := by
  refine s_aload_n (show decode (am_cc m8_rounds) 31 = .ok (.aload_n 2, 1) by decide +kernel) rfl ?_
  refine s_aload_n (show decode (am_cc m8_rounds) 32 = .ok (.aload_n 0, 1) by decide +kernel) rfl ?_
  refine s_getf (k := 9) (v := vr 56) (show decode (am_cc m8_rounds) 33 = .ok (.getfield 54, 3) by decide +kernel) kd0 (by decide) rfl jnX8 (by decide) lf_RX8_54 rfl ?_
  refine s_aload_n (show decode (am_cc m8_rounds) 36 = .ok (.aload_n 0, 1) by decide +kernel) rfl ?_
  refine s_getf (k := 10) (v := vr 58) (show decode (am_cc m8_rounds) 37 = .ok (.getfield 57, 3) by decide +kernel) kd0 (by decide) rfl jnX8 (by decide) lf_RX8_57 rfl ?_
  exact n_callV (as := [vr 56, vr 58]) (stk := []) (show decode (am_cc m8_rounds) 40 = .ok (.invokevirtual 249, 3) by decide +kernel) lk_RX8_249 h1 (by decide) rfl rfl (by decide) (Nat.le_of_ble_eq_true rfl) ⟨rfl, rfl⟩ k
theorem g8_rounds_43 {a1 a2 a3 t0 : Int} {M : am_M} {Q : Option am_V → am_M → Prop} (k1 : ¬ t0 = 0 → am_AtN m8_rounds 49 [some (vr 0), some (vi a1), some (vr a2), some (vi a3)] [] KS M Q) (k2 : t0 = 0 → am_AtN m8_rounds 46 [some (vr 0), some (vi a1), some (vr a2), some (vi a3)] [] KS M Q) : am_AtN m8_rounds 43 [some (vr 0), some (vi a1), some (vr a2), some (vi a3)] [vi t0] KS M Q := by
  exact s_if_ne (tgt := 49) (show decode (am_cc m8_rounds) 43 = .ok (.ifCond .ne 6, 3) by decide +kernel) (by decide) k1 k2
theorem g8_rounds_46 {a1 a2 a3 : Int} {M : am_M} {Q : Option am_V → am_M → Prop} (k : Q (some (vi (-9))) M) : am_AtN m8_rounds 46 [some (vr 0), some (vi a1), some (vr a2), some (vi a3)] [] KS M Q := by
  refine s_bipush (show decode (am_cc m8_rounds) 46 = .ok (.bipush (-9), 2) by decide +kernel) ⟨by decide, by decide⟩ (by decide) ?_
  exact s_ireturn (show decode (am_cc m8_rounds) 48 = .ok (.ireturn, 1) by decide +kernel) rfl k
theorem g8_rounds_49 {a1 a2 a3 : Int} {M : am_M} {Q : Option am_V → am_M → Prop} (k : am_CallN m5_size [vr 58] KS M (fun r M' => am_AtN m8_rounds 56 [some (vr 0), some (vi a1), some (vr a2), some (vi a3)] (r.toList ++ []) KS M' Q)) : am_AtN m8_rounds 49 [some (vr 0), some (vi a1), some (vr a2), some (vi a3)] [] KS M Q := by
  refine s_aload_n (show decode (am_cc m8_rounds) 49 = .ok (.aload_n 0, 1) by decide +kernel) rfl ?_
  refine s_getf (k := 10) (v := vr 58) (show decode (am_cc m8_rounds) 50 = .ok (.getfield 57, 3) by decide +kernel) kd0 (by decide) rfl jnX8 (by decide) lf_RX8_57 rfl ?_
  exact n_callV (as := []) (stk := []) (show decode (am_cc m8_rounds) 53 = .ok (.invokevirtual 237, 3) by decide +kernel) lk_RX8_237 kd58 (by decide) rfl rfl (by decide) (Nat.le_of_ble_eq_true rfl) ⟨rfl, rfl⟩ k
theorem g8_rounds_56 {a1 a2 a3 t0 : Int} {M : am_M} {Q : Option am_V → am_M → Prop} (k1 : t0 ≤ 24 → am_AtN m8_rounds 64 [some (vr 0), some (vi a1), some (vr a2), some (vi a3)] [] KS M Q) (k2 : ¬ (t0 ≤ 24) → am_AtN m8_rounds 61 [some (vr 0), some (vi a1), some (vr a2), some (vi a3)] [] KS M Q) : am_AtN m8_rounds 56 [some (vr 0), some (vi a1), some (vr a2), some (vi a3)] [vi t0] KS M Q := by
  refine s_bipush (show decode (am_cc m8_rounds) 56 = .ok (.bipush 24, 2) by decide +kernel) ⟨by decide, by decide⟩ (by decide) ?_
  exact s_icmp_le (tgt := 64) (show decode (am_cc m8_rounds) 58 = .ok (.if_icmp .le 6, 3) by decide +kernel) (by decide) k1 k2
theorem g8_rounds_61 {a1 a2 a3 : Int} {M : am_M} {Q : Option am_V → am_M → Prop} (k : Q (some (vi (-9))) M) : am_AtN m8_rounds 61 [some (vr 0), some (vi a1), some (vr a2), some (vi a3)] [] KS M Q := by
  refine s_bipush (show decode (am_cc m8_rounds) 61 = .ok (.bipush (-9), 2) by decide +kernel) ⟨by decide, by decide⟩ (by decide) ?_
  exact s_ireturn (show decode (am_cc m8_rounds) 63 = .ok (.ireturn, 1) by decide +kernel) rfl k
theorem g8_rounds_64 {a1 a2 a3 : Int} {M : am_M} {Q : Option am_V → am_M → Prop} (k : am_CallN m5_isLike [vr 56, vr 58] KS M (fun r M' => am_AtN m8_rounds 75 [some (vr 0), some (vi a1), some (vr a2), some (vi a3)] (r.toList ++ []) KS M' Q)) : am_AtN m8_rounds 64 [some (vr 0), some (vi a1), some (vr a2), some (vi a3)] [] KS M Q := by
  refine s_aload_n (show decode (am_cc m8_rounds) 64 = .ok (.aload_n 0, 1) by decide +kernel) rfl ?_
  refine s_getf (k := 9) (v := vr 56) (show decode (am_cc m8_rounds) 65 = .ok (.getfield 54, 3) by decide +kernel) kd0 (by decide) rfl jnX8 (by decide) lf_RX8_54 rfl ?_
  refine s_aload_n (show decode (am_cc m8_rounds) 68 = .ok (.aload_n 0, 1) by decide +kernel) rfl ?_
  refine s_getf (k := 10) (v := vr 58) (show decode (am_cc m8_rounds) 69 = .ok (.getfield 57, 3) by decide +kernel) kd0 (by decide) rfl jnX8 (by decide) lf_RX8_57 rfl ?_
  exact n_callV (as := [vr 58]) (stk := []) (show decode (am_cc m8_rounds) 72 = .ok (.invokevirtual 256, 3) by decide +kernel) lk_RX8_256 kd56 (by decide) rfl rfl (by decide) (Nat.le_of_ble_eq_true rfl) ⟨rfl, rfl⟩ k
theorem g8_rounds_75 {a1 a2 a3 t0 : Int} {M : am_M} {Q : Option am_V → am_M → Prop} (k1 : t0 = 0 → am_AtN m8_rounds 80 [some (vr 0), some (vi a1), some (vr a2), some (vi a3)] [] KS M Q) (k2 : ¬ (t0 = 0) → am_AtN m8_rounds 78 [some (vr 0), some (vi a1), some (vr a2), some (vi a3)] [] KS M Q) : am_AtN m8_rounds 75 [some (vr 0), some (vi a1), some (vr a2), some (vi a3)] [vi t0] KS M Q := by
  exact s_if_eq (tgt := 80) (show decode (am_cc m8_rounds) 75 = .ok (.ifCond .eq 5, 3) by decide +kernel) (by decide) k1 k2
theorem g8_rounds_78 {a1 a2 a3 : Int} {M : am_M} {Q : Option am_V → am_M → Prop} (k : Q (some (vi a3)) M) : am_AtN m8_rounds 78 [some (vr 0), some (vi a1), some (vr a2), some (vi a3)] [] KS M Q := by
  refine s_iload_n (show decode (am_cc m8_rounds) 78 = .ok (.iload_n 3, 1) by decide +kernel) rfl ?_
  exact s_ireturn (show decode (am_cc m8_rounds) 79 = .ok (.ireturn, 1) by decide +kernel) rfl k
theorem g8_rounds_80 {a1 a2 a3 : Int} {M : am_M} {Q : Option am_V → am_M → Prop} (k : am_CallN m5_copy [vr 56, vr 58] KS M (fun r M' => am_AtN m8_rounds 91 [some (vr 0), some (vi a1), some (vr a2), some (vi a3)] (r.toList ++ []) KS M' Q)) : am_AtN m8_rounds 80 [some (vr 0), some (vi a1), some (vr a2), some (vi a3)] [] KS M Q := by
  refine s_aload_n (show decode (am_cc m8_rounds) 80 = .ok (.aload_n 0, 1) by decide +kernel) rfl ?_
  refine s_getf (k := 9) (v := vr 56) (show decode (am_cc m8_rounds) 81 = .ok (.getfield 54, 3) by decide +kernel) kd0 (by decide) rfl jnX8 (by decide) lf_RX8_54 rfl ?_
  refine s_aload_n (show decode (am_cc m8_rounds) 84 = .ok (.aload_n 0, 1) by decide +kernel) rfl ?_
  refine s_getf (k := 10) (v := vr 58) (show decode (am_cc m8_rounds) 85 = .ok (.getfield 57, 3) by decide +kernel) kd0 (by decide) rfl jnX8 (by decide) lf_RX8_57 rfl ?_
  exact n_callV (as := [vr 58]) (stk := []) (show decode (am_cc m8_rounds) 88 = .ok (.invokevirtual 253, 3) by decide +kernel) lk_RX8_253 kd56 (by decide) rfl rfl (by decide) (Nat.le_of_ble_eq_true rfl) ⟨rfl, rfl⟩ k
theorem g8_rounds_91 {a1 a2 a3 : Int} {M : am_M} {Q : Option am_V → am_M → Prop} (h1 : -2147483648 ≤ a3 + 1 ∧ a3 + 1 ≤ 2147483647) (k : am_AtN m8_rounds 25 [some (vr 0), some (vi a1), some (vr a2), some (vi (a3 + 1))] [] KS M Q) : am_AtN m8_rounds 91 [some (vr 0), some (vi a1), some (vr a2), some (vi a3)] [] KS M Q := by
  refine s_iinc (show decode (am_cc m8_rounds) 91 = .ok (.iinc 3 1, 3) by decide +kernel) rfl (by decide) h1 ?_
  refine s_goto (tgt := 25) (show decode (am_cc m8_rounds) 94 = .ok (.goto (-69), 3) by decide +kernel) (by decide) ?_
  exact k
theorem g8_rounds_97 {a1 a2 a3 : Int} {M : am_M} {Q : Option am_V → am_M → Prop} (k : Q (some (vi (-9))) M) : am_AtN m8_rounds 97 [some (vr 0), some (vi a1), some (vr a2), some (vi a3)] [] KS M Q := by
  refine s_bipush (show decode (am_cc m8_rounds) 97 = .ok (.bipush (-9), 2) by decide +kernel) ⟨by decide, by decide⟩ (by decide) ?_
  exact s_ireturn (show decode (am_cc m8_rounds) 99 = .ok (.ireturn, 1) by decide +kernel) rfl k
theorem g8_count_0 {a1 : Int} {M : am_M} {Q : Option am_V → am_M → Prop} (k1 : ¬ a1 = 0 → am_AtN m8_count 9 [some (vr 0), some (vi a1)] [] KS M Q) (k2 : a1 = 0 → am_AtN m8_count 4 [some (vr 0), some (vi a1)] [] KS M Q) : am_AtN m8_count 0 [some (vr 0), some (vi a1)] [] KS M Q := by
  refine s_iload_n (show decode (am_cc m8_count) 0 = .ok (.iload_n 1, 1) by decide +kernel) rfl ?_
  exact s_if_ne (tgt := 9) (show decode (am_cc m8_count) 1 = .ok (.ifCond .ne 8, 3) by decide +kernel) (by decide) k1 k2
theorem g8_count_4 {a1 : Int} {M : am_M} {Q : Option am_V → am_M → Prop} (k : Q (some (vi (M 0 0))) M) : am_AtN m8_count 4 [some (vr 0), some (vi a1)] [] KS M Q := by
  refine s_aload_n (show decode (am_cc m8_count) 4 = .ok (.aload_n 0, 1) by decide +kernel) rfl ?_
  refine s_getf (k := 0) (v := vi (M 0 0)) (show decode (am_cc m8_count) 5 = .ok (.getfield 9, 3) by decide +kernel) kd0 (by decide) rfl jnX8 (by decide) lf_RX8_9 rfl ?_
  exact s_ireturn (show decode (am_cc m8_count) 8 = .ok (.ireturn, 1) by decide +kernel) rfl k
theorem g8_count_9 {a1 : Int} {M : am_M} {Q : Option am_V → am_M → Prop} (k1 : ¬ a1 = 1 → am_AtN m8_count 19 [some (vr 0), some (vi a1)] [] KS M Q) (k2 : a1 = 1 → am_AtN m8_count 14 [some (vr 0), some (vi a1)] [] KS M Q) : am_AtN m8_count 9 [some (vr 0), some (vi a1)] [] KS M Q := by
  refine s_iload_n (show decode (am_cc m8_count) 9 = .ok (.iload_n 1, 1) by decide +kernel) rfl ?_
  refine s_iconst (show decode (am_cc m8_count) 10 = .ok (.iconst 1, 1) by decide +kernel) ⟨by decide, by decide⟩ ?_
  exact s_icmp_ne (tgt := 19) (show decode (am_cc m8_count) 11 = .ok (.if_icmp .ne 8, 3) by decide +kernel) (by decide) k1 k2
theorem g8_count_14 {a1 : Int} {M : am_M} {Q : Option am_V → am_M → Prop} (k : Q (some (vi (M 0 1))) M) : am_AtN m8_count 14 [some (vr 0), some (vi a1)] [] KS M Q := by
  refine s_aload_n (show decode (am_cc m8_count) 14 = .ok (.aload_n 0, 1) by decide +kernel) rfl ?_
  refine s_getf (k := 1) (v := vi (M 0 1)) (show decode (am_cc m8_count) 15 = .ok (.getfield 13, 3) by decide +kernel) kd0 (by decide) rfl jnX8 (by decide) lf_RX8_13 rfl ?_
  exact s_ireturn (show decode (am_cc m8_count) 18 = .ok (.ireturn, 1) by decide +kernel) rfl k
theorem g8_count_19 {a1 : Int} {M : am_M} {Q : Option am_V → am_M → Prop} (k1 : ¬ a1 = 2 → am_AtN m8_count 32 [some (vr 0), some (vi a1)] [] KS M Q) (k2 : a1 = 2 → am_AtN m8_count 24 [some (vr 0), some (vi a1)] [] KS M Q) : am_AtN m8_count 19 [some (vr 0), some (vi a1)] [] KS M Q := by
  refine s_iload_n (show decode (am_cc m8_count) 19 = .ok (.iload_n 1, 1) by decide +kernel) rfl ?_
  refine s_iconst (show decode (am_cc m8_count) 20 = .ok (.iconst 2, 1) by decide +kernel) ⟨by decide, by decide⟩ ?_
  exact s_icmp_ne (tgt := 32) (show decode (am_cc m8_count) 21 = .ok (.if_icmp .ne 11, 3) by decide +kernel) (by decide) k1 k2
theorem g8_count_24 {a1 : Int} {M : am_M} {Q : Option am_V → am_M → Prop} (k : am_CallN m5_size [vr 54] KS M (fun r M' => am_AtN m8_count 31 [some (vr 0), some (vi a1)] (r.toList ++ []) KS M' Q)) : am_AtN m8_count 24 [some (vr 0), some (vi a1)] [] KS M Q := by
  refine s_aload_n (show decode (am_cc m8_count) 24 = .ok (.aload_n 0, 1) by decide +kernel) rfl ?_
  refine s_getf (k := 8) (v := vr 54) (show decode (am_cc m8_count) 25 = .ok (.getfield 50, 3) by decide +kernel) kd0 (by decide) rfl jnX8 (by decide) lf_RX8_50 rfl ?_
  exact n_callV (as := []) (stk := []) (show decode (am_cc m8_count) 28 = .ok (.invokevirtual 237, 3) by decide +kernel) lk_RX8_237 kd54 (by decide) rfl rfl (by decide) (Nat.le_of_ble_eq_true rfl) ⟨rfl, rfl⟩ k
theorem g8_count_31 {a1 t0 : Int} {M : am_M} {Q : Option am_V → am_M → Prop} (k : Q (some (vi t0)) M) : am_AtN m8_count 31 [some (vr 0), some (vi a1)] [vi t0] KS M Q := by
  exact s_ireturn (show decode (am_cc m8_count) 31 = .ok (.ireturn, 1) by decide +kernel) rfl k
theorem g8_count_32 {a1 : Int} {M : am_M} {Q : Option am_V → am_M → Prop} (k : Q (some (vi (-2))) M) : am_AtN m8_count 32 [some (vr 0), some (vi a1)] [] KS M Q := by
  refine s_bipush (show decode (am_cc m8_count) 32 = .ok (.bipush (-2), 2) by decide +kernel) ⟨by decide, by decide⟩ (by decide) ?_
  exact s_ireturn (show decode (am_cc m8_count) 34 = .ok (.ireturn, 1) by decide +kernel) rfl k
theorem g8_sentenceOf_0 {a1 : Int} {M : am_M} {Q : Option am_V → am_M → Prop} (k : am_CallN m8_within [vi a1, vi 8] KS M (fun r M' => am_AtN m8_sentenceOf 6 [some (vr 0), some (vi a1)] (r.toList ++ []) KS M' Q)) : am_AtN m8_sentenceOf 0 [some (vr 0), some (vi a1)] [] KS M Q := by
  refine s_iload_n (show decode (am_cc m8_sentenceOf) 0 = .ok (.iload_n 1, 1) by decide +kernel) rfl ?_
  refine s_bipush (show decode (am_cc m8_sentenceOf) 1 = .ok (.bipush 8, 2) by decide +kernel) ⟨by decide, by decide⟩ (by decide) ?_
  exact n_callS (as := [vi a1, vi 8]) (stk := []) (show decode (am_cc m8_sentenceOf) 3 = .ok (.invokestatic 114, 3) by decide +kernel) lk_RX8_114 (by decide) (Nat.le_of_ble_eq_true rfl) ⟨rfl, rfl⟩ k
theorem g8_sentenceOf_6 {a1 t0 : Int} {M : am_M} {Q : Option am_V → am_M → Prop} (k1 : t0 = 0 → am_AtN m8_sentenceOf 18 [some (vr 0), some (vi a1)] [] KS M Q) (k2 : ¬ (t0 = 0) → am_AtN m8_sentenceOf 9 [some (vr 0), some (vi a1)] [] KS M Q) : am_AtN m8_sentenceOf 6 [some (vr 0), some (vi a1)] [vi t0] KS M Q := by
  exact s_if_eq (tgt := 18) (show decode (am_cc m8_sentenceOf) 6 = .ok (.ifCond .eq 12, 3) by decide +kernel) (by decide) k1 k2
theorem g8_sentenceOf_9 {a1 : Int} {M : am_M} {Q : Option am_V → am_M → Prop} (h1 : 0 ≤ a1) (h2 : a1 < 8) (k : am_AtN m8_sentenceOf 19 [some (vr 0), some (vi a1)] [vr (([3, 6, 9, 12, 15, 18, 21, 24] : List Int).getD (Int.toNat a1) (-1))] KS M Q) : am_AtN m8_sentenceOf 9 [some (vr 0), some (vi a1)] [] KS M Q := by
  refine s_aload_n (show decode (am_cc m8_sentenceOf) 9 = .ok (.aload_n 0, 1) by decide +kernel) rfl ?_
  refine s_getf (k := 3) (v := vr 2) (show decode (am_cc m8_sentenceOf) 10 = .ok (.getfield 22, 3) by decide +kernel) kd0 (by decide) rfl jnX8 (by decide) lf_RX8_22 rfl ?_
  refine s_iload_n (show decode (am_cc m8_sentenceOf) 13 = .ok (.iload_n 1, 1) by decide +kernel) rfl ?_
  refine s_aaload (show decode (am_cc m8_sentenceOf) 14 = .ok (.aaload, 1) by decide +kernel) kd2 (by decide) h1 h2 ?_
  refine s_goto (tgt := 19) (show decode (am_cc m8_sentenceOf) 15 = .ok (.goto 4, 3) by decide +kernel) (by decide) ?_
  exact k
theorem g8_sentenceOf_18 {a1 : Int} {M : am_M} {Q : Option am_V → am_M → Prop} (k : am_AtN m8_sentenceOf 19 [some (vr 0), some (vi a1)] [vr (-1)] KS M Q) : am_AtN m8_sentenceOf 18 [some (vr 0), some (vi a1)] [] KS M Q := by
  refine s_null (show decode (am_cc m8_sentenceOf) 18 = .ok (.aconst_null, 1) by decide +kernel) ?_
  exact k
theorem g8_sentenceOf_19 {a1 t0 : Int} {M : am_M} {Q : Option am_V → am_M → Prop} (h1 : -1 ≤ t0) (k : Q (some (vr t0)) M) : am_AtN m8_sentenceOf 19 [some (vr 0), some (vi a1)] [vr t0] KS M Q := by
  exact s_areturn (show decode (am_cc m8_sentenceOf) 19 = .ok (.areturn, 1) by decide +kernel) ⟨_, rfl⟩ h1 k
theorem g8_programOf_0 {a1 : Int} {M : am_M} {Q : Option am_V → am_M → Prop} (k : am_CallN m8_within [vi a1, vi 4] KS M (fun r M' => am_AtN m8_programOf 5 [some (vr 0), some (vi a1)] (r.toList ++ []) KS M' Q)) : am_AtN m8_programOf 0 [some (vr 0), some (vi a1)] [] KS M Q := by
  refine s_iload_n (show decode (am_cc m8_programOf) 0 = .ok (.iload_n 1, 1) by decide +kernel) rfl ?_
  refine s_iconst (show decode (am_cc m8_programOf) 1 = .ok (.iconst 4, 1) by decide +kernel) ⟨by decide, by decide⟩ ?_
  exact n_callS (as := [vi a1, vi 4]) (stk := []) (show decode (am_cc m8_programOf) 2 = .ok (.invokestatic 114, 3) by decide +kernel) lk_RX8_114 (by decide) (Nat.le_of_ble_eq_true rfl) ⟨rfl, rfl⟩ k
theorem g8_programOf_5 {a1 t0 : Int} {M : am_M} {Q : Option am_V → am_M → Prop} (k1 : t0 = 0 → am_AtN m8_programOf 17 [some (vr 0), some (vi a1)] [] KS M Q) (k2 : ¬ (t0 = 0) → am_AtN m8_programOf 8 [some (vr 0), some (vi a1)] [] KS M Q) : am_AtN m8_programOf 5 [some (vr 0), some (vi a1)] [vi t0] KS M Q := by
  exact s_if_eq (tgt := 17) (show decode (am_cc m8_programOf) 5 = .ok (.ifCond .eq 12, 3) by decide +kernel) (by decide) k1 k2
theorem g8_programOf_8 {a1 : Int} {M : am_M} {Q : Option am_V → am_M → Prop} (h1 : 0 ≤ a1) (h2 : a1 < 4) (k : am_AtN m8_programOf 18 [some (vr 0), some (vi a1)] [vr (([28, 32, 36, 40] : List Int).getD (Int.toNat a1) (-1))] KS M Q) : am_AtN m8_programOf 8 [some (vr 0), some (vi a1)] [] KS M Q := by
  refine s_aload_n (show decode (am_cc m8_programOf) 8 = .ok (.aload_n 0, 1) by decide +kernel) rfl ?_
  refine s_getf (k := 4) (v := vr 27) (show decode (am_cc m8_programOf) 9 = .ok (.getfield 29, 3) by decide +kernel) kd0 (by decide) rfl jnX8 (by decide) lf_RX8_29 rfl ?_
  refine s_iload_n (show decode (am_cc m8_programOf) 12 = .ok (.iload_n 1, 1) by decide +kernel) rfl ?_
  refine s_aaload (show decode (am_cc m8_programOf) 13 = .ok (.aaload, 1) by decide +kernel) kd27 (by decide) h1 h2 ?_
  refine s_goto (tgt := 18) (show decode (am_cc m8_programOf) 14 = .ok (.goto 4, 3) by decide +kernel) (by decide) ?_
  exact k
theorem g8_programOf_17 {a1 : Int} {M : am_M} {Q : Option am_V → am_M → Prop} (k : am_AtN m8_programOf 18 [some (vr 0), some (vi a1)] [vr (-1)] KS M Q) : am_AtN m8_programOf 17 [some (vr 0), some (vi a1)] [] KS M Q := by
  refine s_null (show decode (am_cc m8_programOf) 17 = .ok (.aconst_null, 1) by decide +kernel) ?_
  exact k
theorem g8_programOf_18 {a1 t0 : Int} {M : am_M} {Q : Option am_V → am_M → Prop} (h1 : -1 ≤ t0) (k : Q (some (vr t0)) M) : am_AtN m8_programOf 18 [some (vr 0), some (vi a1)] [vr t0] KS M Q := by
  exact s_areturn (show decode (am_cc m8_programOf) 18 = .ok (.areturn, 1) by decide +kernel) ⟨_, rfl⟩ h1 k
theorem g8_claimOf_0 {a1 a2 a3 a4 : Int} {M : am_M} {Q : Option am_V → am_M → Prop} (k : am_CallN m8_sentenceOf [vr 0, vi a1] KS M (fun r M' => am_AtN m8_claimOf 5 [some (vr 0), some (vi a1), some (vi a2), some (vi a3), some (vi a4), none, none, none, none] (r.toList ++ []) KS M' Q)) : am_AtN m8_claimOf 0 [some (vr 0), some (vi a1), some (vi a2), some (vi a3), some (vi a4), none, none, none, none] [] KS M Q := by
  refine s_aload_n (show decode (am_cc m8_claimOf) 0 = .ok (.aload_n 0, 1) by decide +kernel) rfl ?_
  refine s_iload_n (show decode (am_cc m8_claimOf) 1 = .ok (.iload_n 1, 1) by decide +kernel) rfl ?_
  exact n_callV (as := [vi a1]) (stk := []) (show decode (am_cc m8_claimOf) 2 = .ok (.invokevirtual 110, 3) by decide +kernel) lk_RX8_110 kd0 (by decide) rfl rfl (by decide) (Nat.le_of_ble_eq_true rfl) ⟨rfl, rfl⟩ k
theorem g8_claimOf_5 {a1 a2 a3 a4 t0 : Int} {M : am_M} {Q : Option am_V → am_M → Prop} (k : am_CallN m8_programOf [vr 0, vi a2] KS M (fun r M' => am_AtN m8_claimOf 12 [some (vr 0), some (vi a1), some (vi a2), some (vi a3), some (vi a4), some (vr t0), none, none, none] (r.toList ++ []) KS M' Q)) : am_AtN m8_claimOf 5 [some (vr 0), some (vi a1), some (vi a2), some (vi a3), some (vi a4), none, none, none, none] [vr t0] KS M Q := by
  refine s_astore (show decode (am_cc m8_claimOf) 5 = .ok (.astore 5, 2) by decide +kernel) (by decide) ?_
  refine s_aload_n (show decode (am_cc m8_claimOf) 7 = .ok (.aload_n 0, 1) by decide +kernel) rfl ?_
  refine s_iload_n (show decode (am_cc m8_claimOf) 8 = .ok (.iload_n 2, 1) by decide +kernel) rfl ?_
  exact n_callV (as := [vi a2]) (stk := []) (show decode (am_cc m8_claimOf) 9 = .ok (.invokevirtual 153, 3) by decide +kernel) lk_RX8_153 kd0 (by decide) rfl rfl (by decide) (Nat.le_of_ble_eq_true rfl) ⟨rfl, rfl⟩ k
theorem g8_claimOf_12 {a1 a2 a3 a4 a5 t0 : Int} {M : am_M} {Q : Option am_V → am_M → Prop} (k : am_CallN m8_programOf [vr 0, vi a3] KS M (fun r M' => am_AtN m8_claimOf 19 [some (vr 0), some (vi a1), some (vi a2), some (vi a3), some (vi a4), some (vr a5), some (vr t0), none, none] (r.toList ++ []) KS M' Q)) : am_AtN m8_claimOf 12 [some (vr 0), some (vi a1), some (vi a2), some (vi a3), some (vi a4), some (vr a5), none, none, none] [vr t0] KS M Q := by
  refine s_astore (show decode (am_cc m8_claimOf) 12 = .ok (.astore 6, 2) by decide +kernel) (by decide) ?_
  refine s_aload_n (show decode (am_cc m8_claimOf) 14 = .ok (.aload_n 0, 1) by decide +kernel) rfl ?_
  refine s_iload_n (show decode (am_cc m8_claimOf) 15 = .ok (.iload_n 3, 1) by decide +kernel) rfl ?_
  exact n_callV (as := [vi a3]) (stk := []) (show decode (am_cc m8_claimOf) 16 = .ok (.invokevirtual 153, 3) by decide +kernel) lk_RX8_153 kd0 (by decide) rfl rfl (by decide) (Nat.le_of_ble_eq_true rfl) ⟨rfl, rfl⟩ k
theorem g8_claimOf_19 {a1 a2 a3 a4 a5 a6 t0 : Int} {M : am_M} {Q : Option am_V → am_M → Prop} (k : am_CallN m8_sentenceOf [vr 0, vi a4] KS M (fun r M' => am_AtN m8_claimOf 27 [some (vr 0), some (vi a1), some (vi a2), some (vi a3), some (vi a4), some (vr a5), some (vr a6), some (vr t0), none] (r.toList ++ []) KS M' Q)) : am_AtN m8_claimOf 19 [some (vr 0), some (vi a1), some (vi a2), some (vi a3), some (vi a4), some (vr a5), some (vr a6), none, none] [vr t0] KS M Q := by
  refine s_astore (show decode (am_cc m8_claimOf) 19 = .ok (.astore 7, 2) by decide +kernel) (by decide) ?_
  refine s_aload_n (show decode (am_cc m8_claimOf) 21 = .ok (.aload_n 0, 1) by decide +kernel) rfl ?_
  refine s_iload (show decode (am_cc m8_claimOf) 22 = .ok (.iload 4, 2) by decide +kernel) rfl ?_
  exact n_callV (as := [vi a4]) (stk := []) (show decode (am_cc m8_claimOf) 24 = .ok (.invokevirtual 110, 3) by decide +kernel) lk_RX8_110 kd0 (by decide) rfl rfl (by decide) (Nat.le_of_ble_eq_true rfl) ⟨rfl, rfl⟩ k
theorem g8_claimOf_27 {a1 a2 a3 a4 a5 a6 a7 t0 : Int} {M : am_M} {Q : Option am_V → am_M → Prop} (k1 : a5 = -1 → am_AtN m8_claimOf 44 [some (vr 0), some (vi a1), some (vi a2), some (vi a3), some (vi a4), some (vr a5), some (vr a6), some (vr a7), some (vr t0)] [] KS M Q) (k2 : ¬ a5 = -1 → am_AtN m8_claimOf 34 [some (vr 0), some (vi a1), some (vi a2), some (vi a3), some (vi a4), some (vr a5), some (vr a6), some (vr a7), some (vr t0)] [] KS M Q) : am_AtN m8_claimOf 27 [some (vr 0), some (vi a1), some (vi a2), some (vi a3), some (vi a4), some (vr a5), some (vr a6), some (vr a7), none] [vr t0] KS M Q := by
  refine s_astore (show decode (am_cc m8_claimOf) 27 = .ok (.astore 8, 2) by decide +kernel) (by decide) ?_
  refine s_aload (show decode (am_cc m8_claimOf) 29 = .ok (.aload 5, 2) by decide +kernel) rfl ?_
  exact s_ifnull (tgt := 44) (show decode (am_cc m8_claimOf) 31 = .ok (.ifnull 13, 3) by decide +kernel) (by decide) k1 k2
theorem g8_claimOf_34 {a1 a2 a3 a4 a5 a6 a7 a8 : Int} {M : am_M} {Q : Option am_V → am_M → Prop} (k1 : a6 = -1 → am_AtN m8_claimOf 44 [some (vr 0), some (vi a1), some (vi a2), some (vi a3), some (vi a4), some (vr a5), some (vr a6), some (vr a7), some (vr a8)] [] KS M Q) (k2 : ¬ a6 = -1 → am_AtN m8_claimOf 39 [some (vr 0), some (vi a1), some (vi a2), some (vi a3), some (vi a4), some (vr a5), some (vr a6), some (vr a7), some (vr a8)] [] KS M Q) : am_AtN m8_claimOf 34 [some (vr 0), some (vi a1), some (vi a2), some (vi a3), some (vi a4), some (vr a5), some (vr a6), some (vr a7), some (vr a8)] [] KS M Q := by
  refine s_aload (show decode (am_cc m8_claimOf) 34 = .ok (.aload 6, 2) by decide +kernel) rfl ?_
  exact s_ifnull (tgt := 44) (show decode (am_cc m8_claimOf) 36 = .ok (.ifnull 8, 3) by decide +kernel) (by decide) k1 k2
theorem g8_claimOf_39 {a1 a2 a3 a4 a5 a6 a7 a8 : Int} {M : am_M} {Q : Option am_V → am_M → Prop} (k1 : ¬ a8 = -1 → am_AtN m8_claimOf 46 [some (vr 0), some (vi a1), some (vi a2), some (vi a3), some (vi a4), some (vr a5), some (vr a6), some (vr a7), some (vr a8)] [] KS M Q) (k2 : a8 = -1 → am_AtN m8_claimOf 44 [some (vr 0), some (vi a1), some (vi a2), some (vi a3), some (vi a4), some (vr a5), some (vr a6), some (vr a7), some (vr a8)] [] KS M Q) : am_AtN m8_claimOf 39 [some (vr 0), some (vi a1), some (vi a2), some (vi a3), some (vi a4), some (vr a5), some (vr a6), some (vr a7), some (vr a8)] [] KS M Q := by
  refine s_aload (show decode (am_cc m8_claimOf) 39 = .ok (.aload 8, 2) by decide +kernel) rfl ?_
  exact s_ifnonnull (tgt := 46) (show decode (am_cc m8_claimOf) 41 = .ok (.ifnonnull 5, 3) by decide +kernel) (by decide) k1 k2
theorem g8_claimOf_44 {a1 a2 a3 a4 a5 a6 a7 a8 : Int} {M : am_M} {Q : Option am_V → am_M → Prop} (k : Q (some (vr (-1))) M) : am_AtN m8_claimOf 44 [some (vr 0), some (vi a1), some (vi a2), some (vi a3), some (vi a4), some (vr a5), some (vr a6), some (vr a7), some (vr a8)] [] KS M Q := by
  refine s_null (show decode (am_cc m8_claimOf) 44 = .ok (.aconst_null, 1) by decide +kernel) ?_
  exact s_areturn (show decode (am_cc m8_claimOf) 45 = .ok (.areturn, 1) by decide +kernel) ⟨_, rfl⟩ (by decide) k
theorem g8_claimOf_46 {a1 a2 a3 a4 a5 a6 a7 a8 : Int} {M : am_M} {Q : Option am_V → am_M → Prop} (k1 : ¬ a7 = -1 → am_AtN m8_claimOf 58 [some (vr 0), some (vi a1), some (vi a2), some (vi a3), some (vi a4), some (vr a5), some (vr a6), some (vr a7), some (vr a8)] [] KS M Q) (k2 : a7 = -1 → am_AtN m8_claimOf 51 [some (vr 0), some (vi a1), some (vi a2), some (vi a3), some (vi a4), some (vr a5), some (vr a6), some (vr a7), some (vr a8)] [] KS M Q) : am_AtN m8_claimOf 46 [some (vr 0), some (vi a1), some (vi a2), some (vi a3), some (vi a4), some (vr a5), some (vr a6), some (vr a7), some (vr a8)] [] KS M Q := by
  refine s_aload (show decode (am_cc m8_claimOf) 46 = .ok (.aload 7, 2) by decide +kernel) rfl ?_
  exact s_ifnonnull (tgt := 58) (show decode (am_cc m8_claimOf) 48 = .ok (.ifnonnull 10, 3) by decide +kernel) (by decide) k1 k2
theorem g8_claimOf_51 {a1 a2 a3 a4 a5 a6 a7 a8 : Int} {M : am_M} {Q : Option am_V → am_M → Prop} (k1 : a3 = -1 → am_AtN m8_claimOf 58 [some (vr 0), some (vi a1), some (vi a2), some (vi a3), some (vi a4), some (vr a5), some (vr a6), some (vr a7), some (vr a8)] [] KS M Q) (k2 : ¬ (a3 = -1) → am_AtN m8_claimOf 56 [some (vr 0), some (vi a1), some (vi a2), some (vi a3), some (vi a4), some (vr a5), some (vr a6), some (vr a7), some (vr a8)] [] KS M Q) : am_AtN m8_claimOf 51 [some (vr 0), some (vi a1), some (vi a2), some (vi a3), some (vi a4), some (vr a5), some (vr a6), some (vr a7), some (vr a8)] [] KS M Q := by
  refine s_iload_n (show decode (am_cc m8_claimOf) 51 = .ok (.iload_n 3, 1) by decide +kernel) rfl ?_
  refine s_iconst (show decode (am_cc m8_claimOf) 52 = .ok (.iconst (-1), 1) by decide +kernel) ⟨by decide, by decide⟩ ?_
  exact s_icmp_eq (tgt := 58) (show decode (am_cc m8_claimOf) 53 = .ok (.if_icmp .eq 5, 3) by decide +kernel) (by decide) k1 k2
theorem g8_claimOf_56 {a1 a2 a3 a4 a5 a6 a7 a8 : Int} {M : am_M} {Q : Option am_V → am_M → Prop} (k : Q (some (vr (-1))) M) : am_AtN m8_claimOf 56 [some (vr 0), some (vi a1), some (vi a2), some (vi a3), some (vi a4), some (vr a5), some (vr a6), some (vr a7), some (vr a8)] [] KS M Q := by
  refine s_null (show decode (am_cc m8_claimOf) 56 = .ok (.aconst_null, 1) by decide +kernel) ?_
  exact s_areturn (show decode (am_cc m8_claimOf) 57 = .ok (.areturn, 1) by decide +kernel) ⟨_, rfl⟩ (by decide) k
theorem g8_claimOf_58 {a1 a2 a3 a4 a5 a6 a7 a8 : Int} {M : am_M} {Q : Option am_V → am_M → Prop} (k : am_CallN m2_state [vr 66, vr a5, vr a6, vr a7, vr a8, vi (M 0 0)] KS M (fun r M' => am_AtN m8_claimOf 77 [some (vr 0), some (vi a1), some (vi a2), some (vi a3), some (vi a4), some (vr a5), some (vr a6), some (vr a7), some (vr a8)] (r.toList ++ []) KS M' Q)) : am_AtN m8_claimOf 58 [some (vr 0), some (vi a1), some (vi a2), some (vi a3), some (vi a4), some (vr a5), some (vr a6), some (vr a7), some (vr a8)] [] KS M Q := by
  refine s_aload_n (show decode (am_cc m8_claimOf) 58 = .ok (.aload_n 0, 1) by decide +kernel) rfl ?_
  refine s_getf (k := 12) (v := vr 66) (show decode (am_cc m8_claimOf) 59 = .ok (.getfield 72, 3) by decide +kernel) kd0 (by decide) rfl jnX8 (by decide) lf_RX8_72 rfl ?_
  refine s_aload (show decode (am_cc m8_claimOf) 62 = .ok (.aload 5, 2) by decide +kernel) rfl ?_
  refine s_aload (show decode (am_cc m8_claimOf) 64 = .ok (.aload 6, 2) by decide +kernel) rfl ?_
  refine s_aload (show decode (am_cc m8_claimOf) 66 = .ok (.aload 7, 2) by decide +kernel) rfl ?_
  refine s_aload (show decode (am_cc m8_claimOf) 68 = .ok (.aload 8, 2) by decide +kernel) rfl ?_
  refine s_aload_n (show decode (am_cc m8_claimOf) 70 = .ok (.aload_n 0, 1) by decide +kernel) rfl ?_
  refine s_getf (k := 0) (v := vi (M 0 0)) (show decode (am_cc m8_claimOf) 71 = .ok (.getfield 9, 3) by decide +kernel) kd0 (by decide) rfl jnX8 (by decide) lf_RX8_9 rfl ?_
  exact n_callV (as := [vr a5, vr a6, vr a7, vr a8, vi (M 0 0)]) (stk := []) (show decode (am_cc m8_claimOf) 74 = .ok (.invokevirtual 260, 3) by decide +kernel) lk_RX8_260 kd66 (by decide) rfl rfl (by decide) (Nat.le_of_ble_eq_true rfl) ⟨rfl, rfl⟩ k
theorem g8_claimOf_77 {a1 a2 a3 a4 a5 a6 a7 a8 : Int} {M : am_M} {Q : Option am_V → am_M → Prop} (k : Q (some (vr 66)) M) : am_AtN m8_claimOf 77 [some (vr 0), some (vi a1), some (vi a2), some (vi a3), some (vi a4), some (vr a5), some (vr a6), some (vr a7), some (vr a8)] [] KS M Q := by
  refine s_aload_n (show decode (am_cc m8_claimOf) 77 = .ok (.aload_n 0, 1) by decide +kernel) rfl ?_
  refine s_getf (k := 12) (v := vr 66) (show decode (am_cc m8_claimOf) 78 = .ok (.getfield 72, 3) by decide +kernel) kd0 (by decide) rfl jnX8 (by decide) lf_RX8_72 rfl ?_
  exact s_areturn (show decode (am_cc m8_claimOf) 81 = .ok (.areturn, 1) by decide +kernel) ⟨_, rfl⟩ (by decide) k
theorem g8_followingOf_0 {a1 a2 : Int} {M : am_M} {Q : Option am_V → am_M → Prop} (k : am_CallN m8_sentenceOf [vr 0, vi a1] KS M (fun r M' => am_AtN m8_followingOf 5 [some (vr 0), some (vi a1), some (vi a2), none, none] (r.toList ++ []) KS M' Q)) : am_AtN m8_followingOf 0 [some (vr 0), some (vi a1), some (vi a2), none, none] [] KS M Q := by
  refine s_aload_n (show decode (am_cc m8_followingOf) 0 = .ok (.aload_n 0, 1) by decide +kernel) rfl ?_
  refine s_iload_n (show decode (am_cc m8_followingOf) 1 = .ok (.iload_n 1, 1) by decide +kernel) rfl ?_
  exact n_callV (as := [vi a1]) (stk := []) (show decode (am_cc m8_followingOf) 2 = .ok (.invokevirtual 110, 3) by decide +kernel) lk_RX8_110 kd0 (by decide) rfl rfl (by decide) (Nat.le_of_ble_eq_true rfl) ⟨rfl, rfl⟩ k
theorem g8_followingOf_5 {a1 a2 t0 : Int} {M : am_M} {Q : Option am_V → am_M → Prop} (k : am_CallN m8_sentenceOf [vr 0, vi a2] KS M (fun r M' => am_AtN m8_followingOf 11 [some (vr 0), some (vi a1), some (vi a2), some (vr t0), none] (r.toList ++ []) KS M' Q)) : am_AtN m8_followingOf 5 [some (vr 0), some (vi a1), some (vi a2), none, none] [vr t0] KS M Q := by
  refine s_astore_n (show decode (am_cc m8_followingOf) 5 = .ok (.astore_n 3, 1) by decide +kernel) (by decide) ?_
  refine s_aload_n (show decode (am_cc m8_followingOf) 6 = .ok (.aload_n 0, 1) by decide +kernel) rfl ?_
  refine s_iload_n (show decode (am_cc m8_followingOf) 7 = .ok (.iload_n 2, 1) by decide +kernel) rfl ?_
  exact n_callV (as := [vi a2]) (stk := []) (show decode (am_cc m8_followingOf) 8 = .ok (.invokevirtual 110, 3) by decide +kernel) lk_RX8_110 kd0 (by decide) rfl rfl (by decide) (Nat.le_of_ble_eq_true rfl) ⟨rfl, rfl⟩ k
theorem g8_followingOf_11 {a1 a2 a3 t0 : Int} {M : am_M} {Q : Option am_V → am_M → Prop} (k1 : a3 = -1 → am_AtN m8_followingOf 22 [some (vr 0), some (vi a1), some (vi a2), some (vr a3), some (vr t0)] [] KS M Q) (k2 : ¬ a3 = -1 → am_AtN m8_followingOf 17 [some (vr 0), some (vi a1), some (vi a2), some (vr a3), some (vr t0)] [] KS M Q) : am_AtN m8_followingOf 11 [some (vr 0), some (vi a1), some (vi a2), some (vr a3), none] [vr t0] KS M Q := by
  refine s_astore (show decode (am_cc m8_followingOf) 11 = .ok (.astore 4, 2) by decide +kernel) (by decide) ?_
  refine s_aload_n (show decode (am_cc m8_followingOf) 13 = .ok (.aload_n 3, 1) by decide +kernel) rfl ?_
  exact s_ifnull (tgt := 22) (show decode (am_cc m8_followingOf) 14 = .ok (.ifnull 8, 3) by decide +kernel) (by decide) k1 k2
theorem g8_followingOf_17 {a1 a2 a3 a4 : Int} {M : am_M} {Q : Option am_V → am_M → Prop} (k1 : ¬ a4 = -1 → am_AtN m8_followingOf 24 [some (vr 0), some (vi a1), some (vi a2), some (vr a3), some (vr a4)] [] KS M Q) (k2 : a4 = -1 → am_AtN m8_followingOf 22 [some (vr 0), some (vi a1), some (vi a2), some (vr a3), some (vr a4)] [] KS M Q) : am_AtN m8_followingOf 17 [some (vr 0), some (vi a1), some (vi a2), some (vr a3), some (vr a4)] [] KS M Q := by
  refine s_aload (show decode (am_cc m8_followingOf) 17 = .ok (.aload 4, 2) by decide +kernel) rfl ?_
  exact s_ifnonnull (tgt := 24) (show decode (am_cc m8_followingOf) 19 = .ok (.ifnonnull 5, 3) by decide +kernel) (by decide) k1 k2
theorem g8_followingOf_22 {a1 a2 a3 a4 : Int} {M : am_M} {Q : Option am_V → am_M → Prop} (k : Q (some (vr (-1))) M) : am_AtN m8_followingOf 22 [some (vr 0), some (vi a1), some (vi a2), some (vr a3), some (vr a4)] [] KS M Q := by
  refine s_null (show decode (am_cc m8_followingOf) 22 = .ok (.aconst_null, 1) by decide +kernel) ?_
  exact s_areturn (show decode (am_cc m8_followingOf) 23 = .ok (.areturn, 1) by decide +kernel) ⟨_, rfl⟩ (by decide) k
theorem g8_followingOf_24 {a1 a2 a3 a4 : Int} {M : am_M} {Q : Option am_V → am_M → Prop} (k : am_CallN m2_state [vr 66, vr a3, vr 47, vr (-1), vr a4, vi (M 0 0)] KS M (fun r M' => am_AtN m8_followingOf 43 [some (vr 0), some (vi a1), some (vi a2), some (vr a3), some (vr a4)] (r.toList ++ []) KS M' Q)) : am_AtN m8_followingOf 24 [some (vr 0), some (vi a1), some (vi a2), some (vr a3), some (vr a4)] [] KS M Q := by
  refine s_aload_n (show decode (am_cc m8_followingOf) 24 = .ok (.aload_n 0, 1) by decide +kernel) rfl ?_
  refine s_getf (k := 12) (v := vr 66) (show decode (am_cc m8_followingOf) 25 = .ok (.getfield 72, 3) by decide +kernel) kd0 (by decide) rfl jnX8 (by decide) lf_RX8_72 rfl ?_
  refine s_aload_n (show decode (am_cc m8_followingOf) 28 = .ok (.aload_n 3, 1) by decide +kernel) rfl ?_
  refine s_aload_n (show decode (am_cc m8_followingOf) 29 = .ok (.aload_n 0, 1) by decide +kernel) rfl ?_
  refine s_getf (k := 6) (v := vr 47) (show decode (am_cc m8_followingOf) 30 = .ok (.getfield 38, 3) by decide +kernel) kd0 (by decide) rfl jnX8 (by decide) lf_RX8_38 rfl ?_
  refine s_null (show decode (am_cc m8_followingOf) 33 = .ok (.aconst_null, 1) by decide +kernel) ?_
  refine s_aload (show decode (am_cc m8_followingOf) 34 = .ok (.aload 4, 2) by decide +kernel) rfl ?_
  refine s_aload_n (show decode (am_cc m8_followingOf) 36 = .ok (.aload_n 0, 1) by decide +kernel) rfl ?_
  refine s_getf (k := 0) (v := vi (M 0 0)) (show decode (am_cc m8_followingOf) 37 = .ok (.getfield 9, 3) by decide +kernel) kd0 (by decide) rfl jnX8 (by decide) lf_RX8_9 rfl ?_
  exact n_callV (as := [vr a3, vr 47, vr (-1), vr a4, vi (M 0 0)]) (stk := []) (show decode (am_cc m8_followingOf) 40 = .ok (.invokevirtual 260, 3) by decide +kernel) lk_RX8_260 kd66 (by decide) rfl rfl (by decide) (Nat.le_of_ble_eq_true rfl) ⟨rfl, rfl⟩ k
theorem g8_followingOf_43 {a1 a2 a3 a4 : Int} {M : am_M} {Q : Option am_V → am_M → Prop} (k : Q (some (vr 66)) M) : am_AtN m8_followingOf 43 [some (vr 0), some (vi a1), some (vi a2), some (vr a3), some (vr a4)] [] KS M Q := by
  refine s_aload_n (show decode (am_cc m8_followingOf) 43 = .ok (.aload_n 0, 1) by decide +kernel) rfl ?_
  refine s_getf (k := 12) (v := vr 66) (show decode (am_cc m8_followingOf) 44 = .ok (.getfield 72, 3) by decide +kernel) kd0 (by decide) rfl jnX8 (by decide) lf_RX8_72 rfl ?_
  exact s_areturn (show decode (am_cc m8_followingOf) 47 = .ok (.areturn, 1) by decide +kernel) ⟨_, rfl⟩ (by decide) k
