theorem g3_into_0 {a1 a2 a3 a4 : Int} {M : am_M} {Q : Option am_V → am_M → Prop} (k : am_CallN m3_explore [vr 60, vr a2, vr a3, vi a4] KS M (fun r M' => am_AtN m3_into 8 [some (vr 60), some (vr a1), some (vr a2), some (vr a3), some (vi a4), none, none, none] (r.toList ++ []) KS M' Q)) : am_AtN m3_into 0 [some (vr 60), some (vr a1), some (vr a2), some (vr a3), some (vi a4), none, none, none] [] KS M Q := by
  refine s_aload_n (show decode (am_cc m3_into) 0 = .ok (.aload_n 0, 1) by decide +kernel) rfl ?_
  refine s_aload_n (show decode (am_cc m3_into) 1 = .ok (.aload_n 2, 1) by decide +kernel) rfl ?_
  refine s_aload_n (show decode (am_cc m3_into) 2 = .ok (.aload_n 3, 1) by decide +kernel) rfl ?_
  refine s_iload (show decode (am_cc m3_into) 3 = .ok (.iload 4, 2) by decide +kernel) rfl ?_
  exact n_callV (as := [vr a2, vr a3, vi a4]) (stk := []) (show decode (am_cc m3_into) 5 = .ok (.invokevirtual 29, 3) by decide +kernel) lk_RX3_29 kd60 (by decide) rfl rfl (by decide) (Nat.le_of_ble_eq_true rfl) ⟨rfl, rfl⟩ k
theorem g3_into_8 {a1 a2 a3 a4 : Int} {M : am_M} {Q : Option am_V → am_M → Prop} (k1 : M 60 3 ≤ 6 → am_AtN m3_into 20 [some (vr 60), some (vr a1), some (vr a2), some (vr a3), some (vi a4), none, none, none] [] KS M Q) (k2 : ¬ (M 60 3 ≤ 6) → am_AtN m3_into 17 [some (vr 60), some (vr a1), some (vr a2), some (vr a3), some (vi a4), none, none, none] [] KS M Q) : am_AtN m3_into 8 [some (vr 60), some (vr a1), some (vr a2), some (vr a3), some (vi a4), none, none, none] [] KS M Q := by
  refine s_aload_n (show decode (am_cc m3_into) 8 = .ok (.aload_n 0, 1) by decide +kernel) rfl ?_
  refine s_getf (k := 3) (v := vi (M 60 3)) (show decode (am_cc m3_into) 9 = .ok (.getfield 25, 3) by decide +kernel) kd60 (by decide) rfl jnX3 (by decide) lf_RX3_25 rfl ?_
  refine s_bipush (show decode (am_cc m3_into) 12 = .ok (.bipush 6, 2) by decide +kernel) ⟨by decide, by decide⟩ (by decide) ?_
  exact s_icmp_le (tgt := 20) (show decode (am_cc m3_into) 14 = .ok (.if_icmp .le 6, 3) by decide +kernel) (by decide) k1 k2
theorem g3_into_17 {a1 a2 a3 a4 : Int} {M : am_M} {Q : Option am_V → am_M → Prop} (k : Q (some (vi (-4))) M) : am_AtN m3_into 17 [some (vr 60), some (vr a1), some (vr a2), some (vr a3), some (vi a4), none, none, none] [] KS M Q := by
  refine s_bipush (show decode (am_cc m3_into) 17 = .ok (.bipush (-4), 2) by decide +kernel) ⟨by decide, by decide⟩ (by decide) ?_
  exact s_ireturn (show decode (am_cc m3_into) 19 = .ok (.ireturn, 1) by decide +kernel) rfl k
theorem g3_into_20 {a1 a2 a3 a4 : Int} {M : am_M} {Q : Option am_V → am_M → Prop} (k : am_CallN m6_startAnew [vr 63] KS M (fun r M' => am_AtN m3_into 27 [some (vr 60), some (vr a1), some (vr a2), some (vr a3), some (vi a4), none, none, none] (r.toList ++ []) KS M' Q)) : am_AtN m3_into 20 [some (vr 60), some (vr a1), some (vr a2), some (vr a3), some (vi a4), none, none, none] [] KS M Q := by
  refine s_aload_n (show decode (am_cc m3_into) 20 = .ok (.aload_n 0, 1) by decide +kernel) rfl ?_
  refine s_getf (k := 2) (v := vr 63) (show decode (am_cc m3_into) 21 = .ok (.getfield 21, 3) by decide +kernel) kd60 (by decide) rfl jnX3 (by decide) lf_RX3_21 rfl ?_
  exact n_callV (as := []) (stk := []) (show decode (am_cc m3_into) 24 = .ok (.invokevirtual 33, 3) by decide +kernel) lk_RX3_33 kd63 (by decide) rfl rfl (by decide) (Nat.le_of_ble_eq_true rfl) ⟨rfl, rfl⟩ k
theorem g3_into_27 {a1 a2 a3 a4 : Int} {M : am_M} {Q : Option am_V → am_M → Prop} (k : am_AtN m3_into 30 [some (vr 60), some (vr a1), some (vr a2), some (vr a3), some (vi a4), some (vi 0), none, none] [] KS M Q) : am_AtN m3_into 27 [some (vr 60), some (vr a1), some (vr a2), some (vr a3), some (vi a4), none, none, none] [] KS M Q := by
  refine s_iconst (show decode (am_cc m3_into) 27 = .ok (.iconst 0, 1) by decide +kernel) ⟨by decide, by decide⟩ ?_
  refine s_istore (show decode (am_cc m3_into) 28 = .ok (.istore 5, 2) by decide +kernel) (by decide) ?_
  exact k
theorem g3_into_30 {a1 a2 a3 a4 a5 : Int} {M : am_M} {Q : Option am_V → am_M → Prop} (k1 : M 60 3 ≤ a5 → am_AtN m3_into 132 [some (vr 60), some (vr a1), some (vr a2), some (vr a3), some (vi a4), some (vi a5), none, none] [] KS M Q) (k2 : ¬ (M 60 3 ≤ a5) → am_AtN m3_into 39 [some (vr 60), some (vr a1), some (vr a2), some (vr a3), some (vi a4), some (vi a5), none, none] [] KS M Q) : am_AtN m3_into 30 [some (vr 60), some (vr a1), some (vr a2), some (vr a3), some (vi a4), some (vi a5), none, none] [] KS M Q := by
  refine s_iload (show decode (am_cc m3_into) 30 = .ok (.iload 5, 2) by decide +kernel) rfl ?_
  refine s_aload_n (show decode (am_cc m3_into) 32 = .ok (.aload_n 0, 1) by decide +kernel) rfl ?_
  refine s_getf (k := 3) (v := vi (M 60 3)) (show decode (am_cc m3_into) 33 = .ok (.getfield 25, 3) by decide +kernel) kd60 (by decide) rfl jnX3 (by decide) lf_RX3_25 rfl ?_
  exact s_icmp_ge (tgt := 132) (show decode (am_cc m3_into) 36 = .ok (.if_icmp .ge 96, 3) by decide +kernel) (by decide) k1 k2
theorem g3_into_39 {a1 a2 a3 a4 a5 : Int} {M : am_M} {Q : Option am_V → am_M → Prop} {r0 : List Int} (h1 : 0 ≤ a5) (h2 : a5 < 36) (h3 : 0 ≤ M 62 a5) (h4 : am_kd KS a2 = some (6, 2, r0)) (k : am_CallN m6_holdsAt [vr a2, vi ((M 62 a5) / 6)] KS M (fun r M' => am_AtN m3_into 63 [some (vr 60), some (vr a1), some (vr a2), some (vr a3), some (vi a4), some (vi a5), some (vi (M 62 a5)), none] (r.toList ++ [vi a5, vr 63]) KS M' Q)) : am_AtN m3_into 39 [some (vr 60), some (vr a1), some (vr a2), some (vr a3), some (vi a4), some (vi a5), none, none] [] KS M Q := by
  refine s_aload_n (show decode (am_cc m3_into) 39 = .ok (.aload_n 0, 1) by decide +kernel) rfl ?_
  refine s_getf (k := 1) (v := vr 62) (show decode (am_cc m3_into) 40 = .ok (.getfield 15, 3) by decide +kernel) kd60 (by decide) rfl jnX3 (by decide) lf_RX3_15 rfl ?_
  refine s_iload (show decode (am_cc m3_into) 43 = .ok (.iload 5, 2) by decide +kernel) rfl ?_
  refine s_iaload (show decode (am_cc m3_into) 45 = .ok (.iaload, 1) by decide +kernel) kd62 h1 h2 ?_
  refine s_istore (show decode (am_cc m3_into) 46 = .ok (.istore 6, 2) by decide +kernel) (by decide) ?_
  refine s_aload_n (show decode (am_cc m3_into) 48 = .ok (.aload_n 0, 1) by decide +kernel) rfl ?_
  refine s_getf (k := 2) (v := vr 63) (show decode (am_cc m3_into) 49 = .ok (.getfield 21, 3) by decide +kernel) kd60 (by decide) rfl jnX3 (by decide) lf_RX3_21 rfl ?_
  refine s_iload (show decode (am_cc m3_into) 52 = .ok (.iload 5, 2) by decide +kernel) rfl ?_
  refine s_aload_n (show decode (am_cc m3_into) 54 = .ok (.aload_n 2, 1) by decide +kernel) rfl ?_
  refine s_iload (show decode (am_cc m3_into) 55 = .ok (.iload 6, 2) by decide +kernel) rfl ?_
  refine s_bipush (show decode (am_cc m3_into) 57 = .ok (.bipush 6, 2) by decide +kernel) ⟨by decide, by decide⟩ (by decide) ?_
  refine s_idiv (show decode (am_cc m3_into) 59 = .ok (.idiv, 1) by decide +kernel) h3 (by decide) ?_
  exact n_callV (as := [vi ((M 62 a5) / 6)]) (stk := [vi a5, vr 63]) (show decode (am_cc m3_into) 60 = .ok (.invokevirtual 36, 3) by decide +kernel) lk_RX3_36 h4 (by decide) rfl rfl (by decide) (Nat.le_of_ble_eq_true rfl) ⟨rfl, rfl⟩ k
theorem g3_into_63 {a1 a2 a3 a4 a5 a6 t0 t1 t2 : Int} {M : am_M} {Q : Option am_V → am_M → Prop} (k1 : t2 = 0 → am_AtN m3_into 82 [some (vr 60), some (vr a1), some (vr a2), some (vr a3), some (vi a4), some (vi a5), some (vi a6), none] [vi t1, vr t0] KS M Q) (k2 : ¬ (t2 = 0) → am_AtN m3_into 66 [some (vr 60), some (vr a1), some (vr a2), some (vr a3), some (vi a4), some (vi a5), some (vi a6), none] [vi t1, vr t0] KS M Q) : am_AtN m3_into 63 [some (vr 60), some (vr a1), some (vr a2), some (vr a3), some (vi a4), some (vi a5), some (vi a6), none] [vi t2, vi t1, vr t0] KS M Q := by
  exact s_if_eq (tgt := 82) (show decode (am_cc m3_into) 63 = .ok (.ifCond .eq 19, 3) by decide +kernel) (by decide) k1 k2
theorem g3_into_66 {a1 a2 a3 a4 a5 a6 t0 t1 : Int} {M : am_M} {Q : Option am_V → am_M → Prop} {r0 : List Int} (h1 : 0 ≤ a6) (h2 : am_kd KS a3 = some (6, 2, r0)) (k : am_CallN m6_holdsAt [vr a3, vi (a6 % 6)] KS M (fun r M' => am_AtN m3_into 75 [some (vr 60), some (vr a1), some (vr a2), some (vr a3), some (vi a4), some (vi a5), some (vi a6), none] (r.toList ++ [vi t1, vr t0]) KS M' Q)) : am_AtN m3_into 66 [some (vr 60), some (vr a1), some (vr a2), some (vr a3), some (vi a4), some (vi a5), some (vi a6), none] [vi t1, vr t0] KS M Q := by
  refine s_aload_n (show decode (am_cc m3_into) 66 = .ok (.aload_n 3, 1) by decide +kernel) rfl ?_
  refine s_iload (show decode (am_cc m3_into) 67 = .ok (.iload 6, 2) by decide +kernel) rfl ?_
  refine s_bipush (show decode (am_cc m3_into) 69 = .ok (.bipush 6, 2) by decide +kernel) ⟨by decide, by decide⟩ (by decide) ?_
  refine s_irem (show decode (am_cc m3_into) 71 = .ok (.irem, 1) by decide +kernel) h1 (by decide) ?_
  exact n_callV (as := [vi (a6 % 6)]) (stk := [vi t1, vr t0]) (show decode (am_cc m3_into) 72 = .ok (.invokevirtual 36, 3) by decide +kernel) lk_RX3_36 h2 (by decide) rfl rfl (by decide) (Nat.le_of_ble_eq_true rfl) ⟨rfl, rfl⟩ k
theorem g3_into_75 {a1 a2 a3 a4 a5 a6 t0 t1 t2 : Int} {M : am_M} {Q : Option am_V → am_M → Prop} (k1 : t2 = 0 → am_AtN m3_into 82 [some (vr 60), some (vr a1), some (vr a2), some (vr a3), some (vi a4), some (vi a5), some (vi a6), none] [vi t1, vr t0] KS M Q) (k2 : ¬ (t2 = 0) → am_AtN m3_into 78 [some (vr 60), some (vr a1), some (vr a2), some (vr a3), some (vi a4), some (vi a5), some (vi a6), none] [vi t1, vr t0] KS M Q) : am_AtN m3_into 75 [some (vr 60), some (vr a1), some (vr a2), some (vr a3), some (vi a4), some (vi a5), some (vi a6), none] [vi t2, vi t1, vr t0] KS M Q := by
  exact s_if_eq (tgt := 82) (show decode (am_cc m3_into) 75 = .ok (.ifCond .eq 7, 3) by decide +kernel) (by decide) k1 k2
theorem g3_into_78 {a1 a2 a3 a4 a5 a6 t0 t1 : Int} {M : am_M} {Q : Option am_V → am_M → Prop} (k : am_AtN m3_into 83 [some (vr 60), some (vr a1), some (vr a2), some (vr a3), some (vi a4), some (vi a5), some (vi a6), none] [vi 1, vi t1, vr t0] KS M Q) : am_AtN m3_into 78 [some (vr 60), some (vr a1), some (vr a2), some (vr a3), some (vi a4), some (vi a5), some (vi a6), none] [vi t1, vr t0] KS M Q := by
  refine s_iconst (show decode (am_cc m3_into) 78 = .ok (.iconst 1, 1) by decide +kernel) ⟨by decide, by decide⟩ ?_
  refine s_goto (tgt := 83) (show decode (am_cc m3_into) 79 = .ok (.goto 4, 3) by decide +kernel) (by decide) ?_
  exact k
theorem g3_into_82 {a1 a2 a3 a4 a5 a6 t0 t1 : Int} {M : am_M} {Q : Option am_V → am_M → Prop} (k : am_AtN m3_into 83 [some (vr 60), some (vr a1), some (vr a2), some (vr a3), some (vi a4), some (vi a5), some (vi a6), none] [vi 0, vi t1, vr t0] KS M Q) : am_AtN m3_into 82 [some (vr 60), some (vr a1), some (vr a2), some (vr a3), some (vi a4), some (vi a5), some (vi a6), none] [vi t1, vr t0] KS M Q := by
  refine s_iconst (show decode (am_cc m3_into) 82 = .ok (.iconst 0, 1) by decide +kernel) ⟨by decide, by decide⟩ ?_
  exact k
theorem g3_into_83 {a1 a2 a3 a4 a5 a6 t0 t1 t2 : Int} {M : am_M} {Q : Option am_V → am_M → Prop} {r0 : List Int} (h1 : am_kd KS t0 = some (6, 2, r0)) (k : am_CallN m6_hold [vr t0, vi t1, vi t2] KS M (fun r M' => am_AtN m3_into 86 [some (vr 60), some (vr a1), some (vr a2), some (vr a3), some (vi a4), some (vi a5), some (vi a6), none] (r.toList ++ []) KS M' Q)) : am_AtN m3_into 83 [some (vr 60), some (vr a1), some (vr a2), some (vr a3), some (vi a4), some (vi a5), some (vi a6), none] [vi t2, vi t1, vr t0] KS M Q := by
  exact n_callV (as := [vi t1, vi t2]) (stk := []) (show decode (am_cc m3_into) 83 = .ok (.invokevirtual 40, 3) by decide +kernel) lk_RX3_40 h1 (by decide) rfl rfl (by decide) (Nat.le_of_ble_eq_true rfl) ⟨rfl, rfl⟩ k
theorem g3_into_86 {a1 a2 a3 a4 a5 a6 : Int} {M : am_M} {Q : Option am_V → am_M → Prop} (k : am_AtN m3_into 89 [some (vr 60), some (vr a1), some (vr a2), some (vr a3), some (vi a4), some (vi a5), some (vi a6), some (vi 0)] [] KS M Q) : am_AtN m3_into 86 [some (vr 60), some (vr a1), some (vr a2), some (vr a3), some (vi a4), some (vi a5), some (vi a6), none] [] KS M Q := by
  refine s_iconst (show decode (am_cc m3_into) 86 = .ok (.iconst 0, 1) by decide +kernel) ⟨by decide, by decide⟩ ?_
  refine s_istore (show decode (am_cc m3_into) 87 = .ok (.istore 7, 2) by decide +kernel) (by decide) ?_
  exact k
theorem g3_into_89 {a1 a2 a3 a4 a5 a6 a7 : Int} {M : am_M} {Q : Option am_V → am_M → Prop} (k1 : a4 ≤ a7 → am_AtN m3_into 126 [some (vr 60), some (vr a1), some (vr a2), some (vr a3), some (vi a4), some (vi a5), some (vi a6), some (vi a7)] [] KS M Q) (k2 : ¬ (a4 ≤ a7) → am_AtN m3_into 96 [some (vr 60), some (vr a1), some (vr a2), some (vr a3), some (vi a4), some (vi a5), some (vi a6), some (vi a7)] [] KS M Q) : am_AtN m3_into 89 [some (vr 60), some (vr a1), some (vr a2), some (vr a3), some (vi a4), some (vi a5), some (vi a6), some (vi a7)] [] KS M Q := by
  refine s_iload (show decode (am_cc m3_into) 89 = .ok (.iload 7, 2) by decide +kernel) rfl ?_
  refine s_iload (show decode (am_cc m3_into) 91 = .ok (.iload 4, 2) by decide +kernel) rfl ?_
  exact s_icmp_ge (tgt := 126) (show decode (am_cc m3_into) 93 = .ok (.if_icmp .ge 33, 3) by decide +kernel) (by decide) k1 k2
theorem g3_into_96 {a1 a2 a3 a4 a5 a6 a7 : Int} {M : am_M} {Q : Option am_V → am_M → Prop} (k : am_CallN m3_after [vi a6, vi a7, vr a2, vr a3] KS M (fun r M' => am_AtN m3_into 114 [some (vr 60), some (vr a1), some (vr a2), some (vr a3), some (vi a4), some (vi a5), some (vi a6), some (vi a7)] (r.toList ++ [vr 60, vi a7, vi a5, vr 63]) KS M' Q)) : am_AtN m3_into 96 [some (vr 60), some (vr a1), some (vr a2), some (vr a3), some (vi a4), some (vi a5), some (vi a6), some (vi a7)] [] KS M Q := by
  refine s_aload_n (show decode (am_cc m3_into) 96 = .ok (.aload_n 0, 1) by decide +kernel) rfl ?_
  refine s_getf (k := 2) (v := vr 63) (show decode (am_cc m3_into) 97 = .ok (.getfield 21, 3) by decide +kernel) kd60 (by decide) rfl jnX3 (by decide) lf_RX3_21 rfl ?_
  refine s_iload (show decode (am_cc m3_into) 100 = .ok (.iload 5, 2) by decide +kernel) rfl ?_
  refine s_iload (show decode (am_cc m3_into) 102 = .ok (.iload 7, 2) by decide +kernel) rfl ?_
  refine s_aload_n (show decode (am_cc m3_into) 104 = .ok (.aload_n 0, 1) by decide +kernel) rfl ?_
  refine s_iload (show decode (am_cc m3_into) 105 = .ok (.iload 6, 2) by decide +kernel) rfl ?_
  refine s_iload (show decode (am_cc m3_into) 107 = .ok (.iload 7, 2) by decide +kernel) rfl ?_
  refine s_aload_n (show decode (am_cc m3_into) 109 = .ok (.aload_n 2, 1) by decide +kernel) rfl ?_
  refine s_aload_n (show decode (am_cc m3_into) 110 = .ok (.aload_n 3, 1) by decide +kernel) rfl ?_
  exact n_callS (as := [vi a6, vi a7, vr a2, vr a3]) (stk := [vr 60, vi a7, vi a5, vr 63]) (show decode (am_cc m3_into) 111 = .ok (.invokestatic 44, 3) by decide +kernel) lk_RX3_44 (by decide) (Nat.le_of_ble_eq_true rfl) ⟨rfl, rfl⟩ k
theorem g3_into_114 {a1 a2 a3 a4 a5 a6 a7 t0 t1 t2 t3 t4 : Int} {M : am_M} {Q : Option am_V → am_M → Prop} {r0 : List Int} (h1 : am_kd KS t3 = some (3, 4, r0)) (k : am_CallN m3_numberOf [vr t3, vi t4] KS M (fun r M' => am_AtN m3_into 117 [some (vr 60), some (vr a1), some (vr a2), some (vr a3), some (vi a4), some (vi a5), some (vi a6), some (vi a7)] (r.toList ++ [vi t2, vi t1, vr t0]) KS M' Q)) : am_AtN m3_into 114 [some (vr 60), some (vr a1), some (vr a2), some (vr a3), some (vi a4), some (vi a5), some (vi a6), some (vi a7)] [vi t4, vr t3, vi t2, vi t1, vr t0] KS M Q := by
  exact n_callV (as := [vi t4]) (stk := [vi t2, vi t1, vr t0]) (show decode (am_cc m3_into) 114 = .ok (.invokevirtual 48, 3) by decide +kernel) lk_RX3_48 h1 (by decide) rfl rfl (by decide) (Nat.le_of_ble_eq_true rfl) ⟨rfl, rfl⟩ k
theorem g3_into_117 {a1 a2 a3 a4 a5 a6 a7 t0 t1 t2 t3 : Int} {M : am_M} {Q : Option am_V → am_M → Prop} {r0 : List Int} (h1 : am_kd KS t0 = some (6, 2, r0)) (k : am_CallN m6_lead [vr t0, vi t1, vi t2, vi t3] KS M (fun r M' => am_AtN m3_into 120 [some (vr 60), some (vr a1), some (vr a2), some (vr a3), some (vi a4), some (vi a5), some (vi a6), some (vi a7)] (r.toList ++ []) KS M' Q)) : am_AtN m3_into 117 [some (vr 60), some (vr a1), some (vr a2), some (vr a3), some (vi a4), some (vi a5), some (vi a6), some (vi a7)] [vi t3, vi t2, vi t1, vr t0] KS M Q := by
  exact n_callV (as := [vi t1, vi t2, vi t3]) (stk := []) (show decode (am_cc m3_into) 117 = .ok (.invokevirtual 52, 3) by decide +kernel) lk_RX3_52 h1 (by decide) rfl rfl (by decide) (Nat.le_of_ble_eq_true rfl) ⟨rfl, rfl⟩ k
theorem g3_into_120 {a1 a2 a3 a4 a5 a6 a7 : Int} {M : am_M} {Q : Option am_V → am_M → Prop} (h1 : -2147483648 ≤ a7 + 1 ∧ a7 + 1 ≤ 2147483647) (k : am_AtN m3_into 89 [some (vr 60), some (vr a1), some (vr a2), some (vr a3), some (vi a4), some (vi a5), some (vi a6), some (vi (a7 + 1))] [] KS M Q) : am_AtN m3_into 120 [some (vr 60), some (vr a1), some (vr a2), some (vr a3), some (vi a4), some (vi a5), some (vi a6), some (vi a7)] [] KS M Q := by
  refine s_iinc (show decode (am_cc m3_into) 120 = .ok (.iinc 7 1, 3) by decide +kernel) rfl (by decide) h1 ?_
  refine s_goto (tgt := 89) (show decode (am_cc m3_into) 123 = .ok (.goto (-34), 3) by decide +kernel) (by decide) ?_
  exact k
theorem g3_into_126 {a1 a2 a3 a4 a5 a6 a7 : Int} {M : am_M} {Q : Option am_V → am_M → Prop} (h1 : -2147483648 ≤ a5 + 1 ∧ a5 + 1 ≤ 2147483647) (k : am_AtN m3_into 30 [some (vr 60), some (vr a1), some (vr a2), some (vr a3), some (vi a4), some (vi (a5 + 1)), none, none] [] KS M Q) : am_AtN m3_into 126 [some (vr 60), some (vr a1), some (vr a2), some (vr a3), some (vi a4), some (vi a5), some (vi a6), some (vi a7)] [] KS M Q := by
  refine s_iinc (show decode (am_cc m3_into) 126 = .ok (.iinc 5 1, 3) by decide +kernel) rfl (by decide) h1 ?_
  refine s_goto (tgt := 30) (show decode (am_cc m3_into) 129 = .ok (.goto (-99), 3) by decide +kernel) (by decide) ?_
  refine am_fg 6 ?_
  refine am_fg 7 ?_
  exact k
theorem g3_into_132 {a1 a2 a3 a4 a5 : Int} {M : am_M} {Q : Option am_V → am_M → Prop} {r0 : List Int} (h1 : am_kd KS a1 = some (6, 2, r0)) (k : am_CallN m6_copy [vr a1, vr 63] KS M (fun r M' => am_AtN m3_into 140 [some (vr 60), some (vr a1), some (vr a2), some (vr a3), some (vi a4), some (vi a5), none, none] (r.toList ++ []) KS M' Q)) : am_AtN m3_into 132 [some (vr 60), some (vr a1), some (vr a2), some (vr a3), some (vi a4), some (vi a5), none, none] [] KS M Q := by
  refine s_aload_n (show decode (am_cc m3_into) 132 = .ok (.aload_n 1, 1) by decide +kernel) rfl ?_
  refine s_aload_n (show decode (am_cc m3_into) 133 = .ok (.aload_n 0, 1) by decide +kernel) rfl ?_
  refine s_getf (k := 2) (v := vr 63) (show decode (am_cc m3_into) 134 = .ok (.getfield 21, 3) by decide +kernel) kd60 (by decide) rfl jnX3 (by decide) lf_RX3_21 rfl ?_
  exact n_callV (as := [vr 63]) (stk := []) (show decode (am_cc m3_into) 137 = .ok (.invokevirtual 56, 3) by decide +kernel) lk_RX3_56 h1 (by decide) rfl rfl (by decide) (Nat.le_of_ble_eq_true rfl) ⟨rfl, rfl⟩ k
theorem g3_into_140 {a1 a2 a3 a4 a5 : Int} {M : am_M} {Q : Option am_V → am_M → Prop} (k : Q (some (vi (M 60 3))) M) : am_AtN m3_into 140 [some (vr 60), some (vr a1), some (vr a2), some (vr a3), some (vi a4), some (vi a5), none, none] [] KS M Q := by
  refine s_aload_n (show decode (am_cc m3_into) 140 = .ok (.aload_n 0, 1) by decide +kernel) rfl ?_
  refine s_getf (k := 3) (v := vi (M 60 3)) (show decode (am_cc m3_into) 141 = .ok (.getfield 25, 3) by decide +kernel) kd60 (by decide) rfl jnX3 (by decide) lf_RX3_25 rfl ?_
  exact s_ireturn (show decode (am_cc m3_into) 144 = .ok (.ireturn, 1) by decide +kernel) rfl k
theorem g3_explore_0 {a1 a2 a3 : Int} {M : am_M} {Q : Option am_V → am_M → Prop} (k : am_CallN mJ_fill [vr 61, vi (-2)] KS M (fun r M' => am_AtN m3_explore 9 [some (vr 60), some (vr a1), some (vr a2), some (vi a3), none, none] (r.toList ++ []) KS M' Q)) : am_AtN m3_explore 0 [some (vr 60), some (vr a1), some (vr a2), some (vi a3), none, none] [] KS M Q := by
  refine s_aload_n (show decode (am_cc m3_explore) 0 = .ok (.aload_n 0, 1) by decide +kernel) rfl ?_
  refine s_getf (k := 0) (v := vr 61) (show decode (am_cc m3_explore) 1 = .ok (.getfield 11, 3) by decide +kernel) kd60 (by decide) rfl jnX3 (by decide) lf_RX3_11 rfl ?_
  refine s_bipush (show decode (am_cc m3_explore) 4 = .ok (.bipush (-2), 2) by decide +kernel) ⟨by decide, by decide⟩ (by decide) ?_
  exact n_callS (as := [vr 61, vi (-2)]) (stk := []) (show decode (am_cc m3_explore) 6 = .ok (.invokestatic 60, 3) by decide +kernel) lk_RX3_60 (by decide) (Nat.le_of_ble_eq_true rfl) ⟨rfl, rfl⟩ k
theorem g3_explore_9 {a1 a2 a3 : Int} {M : am_M} {Q : Option am_V → am_M → Prop} (k : am_CallN m3_meet [vr 60, vi 0] KS (am_up M 60 3 0) (fun r M' => am_AtN m3_explore 19 [some (vr 60), some (vr a1), some (vr a2), some (vi a3), none, none] (r.toList ++ []) KS M' Q)) : am_AtN m3_explore 9 [some (vr 60), some (vr a1), some (vr a2), some (vi a3), none, none] [] KS M Q := by
  refine s_aload_n (show decode (am_cc m3_explore) 9 = .ok (.aload_n 0, 1) by decide +kernel) rfl ?_
  refine s_iconst (show decode (am_cc m3_explore) 10 = .ok (.iconst 0, 1) by decide +kernel) ⟨by decide, by decide⟩ ?_
  refine s_putf (k := 3) (x := 0) (ty0 := tyX3) (show decode (am_cc m3_explore) 11 = .ok (.putfield 25, 3) by decide +kernel) kd60 (by decide) rfl jnX3 tyX3_ok nmX3 (by decide) lf_RX3_25 rfl (Or.inl ⟨rfl, rfl, rfl⟩) ?_
  refine s_aload_n (show decode (am_cc m3_explore) 14 = .ok (.aload_n 0, 1) by decide +kernel) rfl ?_
  refine s_iconst (show decode (am_cc m3_explore) 15 = .ok (.iconst 0, 1) by decide +kernel) ⟨by decide, by decide⟩ ?_
  exact n_callV (as := [vi 0]) (stk := []) (show decode (am_cc m3_explore) 16 = .ok (.invokevirtual 66, 3) by decide +kernel) lk_RX3_66 kd60 (by decide) rfl rfl (by decide) (Nat.le_of_ble_eq_true rfl) ⟨rfl, rfl⟩ k
theorem g3_explore_19 {a1 a2 a3 : Int} {M : am_M} {Q : Option am_V → am_M → Prop} (k : am_AtN m3_explore 22 [some (vr 60), some (vr a1), some (vr a2), some (vi a3), some (vi 0), none] [] KS M Q) : am_AtN m3_explore 19 [some (vr 60), some (vr a1), some (vr a2), some (vi a3), none, none] [] KS M Q := by
  refine s_iconst (show decode (am_cc m3_explore) 19 = .ok (.iconst 0, 1) by decide +kernel) ⟨by decide, by decide⟩ ?_
  refine s_istore (show decode (am_cc m3_explore) 20 = .ok (.istore 4, 2) by decide +kernel) (by decide) ?_
  exact k
theorem g3_explore_22 {a1 a2 a3 a4 : Int} {M : am_M} {Q : Option am_V → am_M → Prop} (k1 : M 60 3 ≤ a4 → am_AtN m3_explore 77 [some (vr 60), some (vr a1), some (vr a2), some (vi a3), some (vi a4), none] [] KS M Q) (k2 : ¬ (M 60 3 ≤ a4) → am_AtN m3_explore 31 [some (vr 60), some (vr a1), some (vr a2), some (vi a3), some (vi a4), none] [] KS M Q) : am_AtN m3_explore 22 [some (vr 60), some (vr a1), some (vr a2), some (vi a3), some (vi a4), none] [] KS M Q := by
  refine s_iload (show decode (am_cc m3_explore) 22 = .ok (.iload 4, 2) by decide +kernel) rfl ?_
  refine s_aload_n (show decode (am_cc m3_explore) 24 = .ok (.aload_n 0, 1) by decide +kernel) rfl ?_
  refine s_getf (k := 3) (v := vi (M 60 3)) (show decode (am_cc m3_explore) 25 = .ok (.getfield 25, 3) by decide +kernel) kd60 (by decide) rfl jnX3 (by decide) lf_RX3_25 rfl ?_
  exact s_icmp_ge (tgt := 77) (show decode (am_cc m3_explore) 28 = .ok (.if_icmp .ge 49, 3) by decide +kernel) (by decide) k1 k2
theorem g3_explore_31 {a1 a2 a3 a4 : Int} {M : am_M} {Q : Option am_V → am_M → Prop} (k1 : 36 ≤ a4 → am_AtN m3_explore 77 [some (vr 60), some (vr a1), some (vr a2), some (vi a3), some (vi a4), none] [] KS M Q) (k2 : ¬ (36 ≤ a4) → am_AtN m3_explore 38 [some (vr 60), some (vr a1), some (vr a2), some (vi a3), some (vi a4), none] [] KS M Q) : am_AtN m3_explore 31 [some (vr 60), some (vr a1), some (vr a2), some (vi a3), some (vi a4), none] [] KS M Q := by
  refine s_iload (show decode (am_cc m3_explore) 31 = .ok (.iload 4, 2) by decide +kernel) rfl ?_
  refine s_bipush (show decode (am_cc m3_explore) 33 = .ok (.bipush 36, 2) by decide +kernel) ⟨by decide, by decide⟩ (by decide) ?_
  exact s_icmp_ge (tgt := 77) (show decode (am_cc m3_explore) 35 = .ok (.if_icmp .ge 42, 3) by decide +kernel) (by decide) k1 k2
theorem g3_explore_38 {a1 a2 a3 a4 : Int} {M : am_M} {Q : Option am_V → am_M → Prop} (k : am_AtN m3_explore 41 [some (vr 60), some (vr a1), some (vr a2), some (vi a3), some (vi a4), some (vi 0)] [] KS M Q) : am_AtN m3_explore 38 [some (vr 60), some (vr a1), some (vr a2), some (vi a3), some (vi a4), none] [] KS M Q := by
  refine s_iconst (show decode (am_cc m3_explore) 38 = .ok (.iconst 0, 1) by decide +kernel) ⟨by decide, by decide⟩ ?_
  refine s_istore (show decode (am_cc m3_explore) 39 = .ok (.istore 5, 2) by decide +kernel) (by decide) ?_
  exact k
theorem g3_explore_41 {a1 a2 a3 a4 a5 : Int} {M : am_M} {Q : Option am_V → am_M → Prop} (k1 : a3 ≤ a5 → am_AtN m3_explore 71 [some (vr 60), some (vr a1), some (vr a2), some (vi a3), some (vi a4), some (vi a5)] [] KS M Q) (k2 : ¬ (a3 ≤ a5) → am_AtN m3_explore 47 [some (vr 60), some (vr a1), some (vr a2), some (vi a3), some (vi a4), some (vi a5)] [] KS M Q) : am_AtN m3_explore 41 [some (vr 60), some (vr a1), some (vr a2), some (vi a3), some (vi a4), some (vi a5)] [] KS M Q := by
  refine s_iload (show decode (am_cc m3_explore) 41 = .ok (.iload 5, 2) by decide +kernel) rfl ?_
  refine s_iload_n (show decode (am_cc m3_explore) 43 = .ok (.iload_n 3, 1) by decide +kernel) rfl ?_
  exact s_icmp_ge (tgt := 71) (show decode (am_cc m3_explore) 44 = .ok (.if_icmp .ge 27, 3) by decide +kernel) (by decide) k1 k2
theorem g3_explore_47 {a1 a2 a3 a4 a5 : Int} {M : am_M} {Q : Option am_V → am_M → Prop} (h1 : 0 ≤ a4) (h2 : a4 < 36) (k : am_CallN m3_after [vi (M 62 a4), vi a5, vr a1, vr a2] KS M (fun r M' => am_AtN m3_explore 62 [some (vr 60), some (vr a1), some (vr a2), some (vi a3), some (vi a4), some (vi a5)] (r.toList ++ [vr 60]) KS M' Q)) : am_AtN m3_explore 47 [some (vr 60), some (vr a1), some (vr a2), some (vi a3), some (vi a4), some (vi a5)] [] KS M Q := by
  refine s_aload_n (show decode (am_cc m3_explore) 47 = .ok (.aload_n 0, 1) by decide +kernel) rfl ?_
  refine s_aload_n (show decode (am_cc m3_explore) 48 = .ok (.aload_n 0, 1) by decide +kernel) rfl ?_
  refine s_getf (k := 1) (v := vr 62) (show decode (am_cc m3_explore) 49 = .ok (.getfield 15, 3) by decide +kernel) kd60 (by decide) rfl jnX3 (by decide) lf_RX3_15 rfl ?_
  refine s_iload (show decode (am_cc m3_explore) 52 = .ok (.iload 4, 2) by decide +kernel) rfl ?_
  refine s_iaload (show decode (am_cc m3_explore) 54 = .ok (.iaload, 1) by decide +kernel) kd62 h1 h2 ?_
  refine s_iload (show decode (am_cc m3_explore) 55 = .ok (.iload 5, 2) by decide +kernel) rfl ?_
  refine s_aload_n (show decode (am_cc m3_explore) 57 = .ok (.aload_n 1, 1) by decide +kernel) rfl ?_
  refine s_aload_n (show decode (am_cc m3_explore) 58 = .ok (.aload_n 2, 1) by decide +kernel) rfl ?_
  exact n_callS (as := [vi (M 62 a4), vi a5, vr a1, vr a2]) (stk := [vr 60]) (show decode (am_cc m3_explore) 59 = .ok (.invokestatic 44, 3) by decide +kernel) lk_RX3_44 (by decide) (Nat.le_of_ble_eq_true rfl) ⟨rfl, rfl⟩ k
theorem g3_explore_62 {a1 a2 a3 a4 a5 t0 t1 : Int} {M : am_M} {Q : Option am_V → am_M → Prop} {r0 : List Int} (h1 : am_kd KS t0 = some (3, 4, r0)) (k : am_CallN m3_meet [vr t0, vi t1] KS M (fun r M' => am_AtN m3_explore 65 [some (vr 60), some (vr a1), some (vr a2), some (vi a3), some (vi a4), some (vi a5)] (r.toList ++ []) KS M' Q)) : am_AtN m3_explore 62 [some (vr 60), some (vr a1), some (vr a2), some (vi a3), some (vi a4), some (vi a5)] [vi t1, vr t0] KS M Q := by
  exact n_callV (as := [vi t1]) (stk := []) (show decode (am_cc m3_explore) 62 = .ok (.invokevirtual 66, 3) by decide +kernel) lk_RX3_66 h1 (by decide) rfl rfl (by decide) (Nat.le_of_ble_eq_true rfl) ⟨rfl, rfl⟩ k
theorem g3_explore_65 {a1 a2 a3 a4 a5 : Int} {M : am_M} {Q : Option am_V → am_M → Prop} (h1 : -2147483648 ≤ a5 + 1 ∧ a5 + 1 ≤ 2147483647) (k : am_AtN m3_explore 41 [some (vr 60), some (vr a1), some (vr a2), some (vi a3), some (vi a4), some (vi (a5 + 1))] [] KS M Q) : am_AtN m3_explore 65 [some (vr 60), some (vr a1), some (vr a2), some (vi a3), some (vi a4), some (vi a5)] [] KS M Q := by
  refine s_iinc (show decode (am_cc m3_explore) 65 = .ok (.iinc 5 1, 3) by decide +kernel) rfl (by decide) h1 ?_
  refine s_goto (tgt := 41) (show decode (am_cc m3_explore) 68 = .ok (.goto (-27), 3) by decide +kernel) (by decide) ?_
  exact k
theorem g3_explore_71 {a1 a2 a3 a4 a5 : Int} {M : am_M} {Q : Option am_V → am_M → Prop} (h1 : -2147483648 ≤ a4 + 1 ∧ a4 + 1 ≤ 2147483647) (k : am_AtN m3_explore 22 [some (vr 60), some (vr a1), some (vr a2), some (vi a3), some (vi (a4 + 1)), none] [] KS M Q) : am_AtN m3_explore 71 [some (vr 60), some (vr a1), some (vr a2), some (vi a3), some (vi a4), some (vi a5)] [] KS M Q := by
  refine s_iinc (show decode (am_cc m3_explore) 71 = .ok (.iinc 4 1, 3) by decide +kernel) rfl (by decide) h1 ?_
  refine s_goto (tgt := 22) (show decode (am_cc m3_explore) 74 = .ok (.goto (-52), 3) by decide +kernel) (by decide) ?_
  refine am_fg 5 ?_
  exact k
theorem g3_explore_77 {a1 a2 a3 a4 : Int} {M : am_M} {Q : Option am_V → am_M → Prop} (k : Q none M) : am_AtN m3_explore 77 [some (vr 60), some (vr a1), some (vr a2), some (vi a3), some (vi a4), none] [] KS M Q := by
  exact s_return (show decode (am_cc m3_explore) 77 = .ok (.return_, 1) by decide +kernel) rfl k
theorem g3_meet_0 {a1 : Int} {M : am_M} {Q : Option am_V → am_M → Prop} (k : am_CallN m8_within [vi a1, vi 36] KS M (fun r M' => am_AtN m3_meet 6 [some (vr 60), some (vi a1)] (r.toList ++ []) KS M' Q)) : am_AtN m3_meet 0 [some (vr 60), some (vi a1)] [] KS M Q := by
  refine s_iload_n (show decode (am_cc m3_meet) 0 = .ok (.iload_n 1, 1) by decide +kernel) rfl ?_
  refine s_bipush (show decode (am_cc m3_meet) 1 = .ok (.bipush 36, 2) by decide +kernel) ⟨by decide, by decide⟩ (by decide) ?_
  exact n_callN (as := [vi a1, vi 36]) (stk := []) (show decode (am_cc m3_meet) 3 = .ok (.invokestatic 70, 3) by decide +kernel) lk_RX3_70 (by decide) (Nat.le_of_ble_eq_true rfl) ⟨rfl, rfl⟩ k
theorem g3_meet_6 {a1 t0 : Int} {M : am_M} {Q : Option am_V → am_M → Prop} (k1 : t0 = 0 → am_AtN m3_meet 32 [some (vr 60), some (vi a1)] [] KS M Q) (k2 : ¬ (t0 = 0) → am_AtN m3_meet 9 [some (vr 60), some (vi a1)] [] KS M Q) : am_AtN m3_meet 6 [some (vr 60), some (vi a1)] [vi t0] KS M Q := by
  exact s_if_eq (tgt := 32) (show decode (am_cc m3_meet) 6 = .ok (.ifCond .eq 26, 3) by decide +kernel) (by decide) k1 k2
theorem g3_meet_9 {a1 : Int} {M : am_M} {Q : Option am_V → am_M → Prop} (h1 : 0 ≤ a1) (h2 : a1 < 36) (k1 : ¬ M 61 a1 = -2 → am_AtN m3_meet 32 [some (vr 60), some (vi a1)] [] KS M Q) (k2 : M 61 a1 = -2 → am_AtN m3_meet 20 [some (vr 60), some (vi a1)] [] KS M Q) : am_AtN m3_meet 9 [some (vr 60), some (vi a1)] [] KS M Q := by
  refine s_aload_n (show decode (am_cc m3_meet) 9 = .ok (.aload_n 0, 1) by decide +kernel) rfl ?_
  refine s_getf (k := 0) (v := vr 61) (show decode (am_cc m3_meet) 10 = .ok (.getfield 11, 3) by decide +kernel) kd60 (by decide) rfl jnX3 (by decide) lf_RX3_11 rfl ?_
  refine s_iload_n (show decode (am_cc m3_meet) 13 = .ok (.iload_n 1, 1) by decide +kernel) rfl ?_
  refine s_iaload (show decode (am_cc m3_meet) 14 = .ok (.iaload, 1) by decide +kernel) kd61 h1 h2 ?_
  refine s_bipush (show decode (am_cc m3_meet) 15 = .ok (.bipush (-2), 2) by decide +kernel) ⟨by decide, by decide⟩ (by decide) ?_
  exact s_icmp_ne (tgt := 32) (show decode (am_cc m3_meet) 17 = .ok (.if_icmp .ne 15, 3) by decide +kernel) (by decide) k1 k2
theorem g3_meet_20 {a1 : Int} {M : am_M} {Q : Option am_V → am_M → Prop} (k : am_CallN m8_within [vi (M 60 3), vi 36] KS M (fun r M' => am_AtN m3_meet 29 [some (vr 60), some (vi a1)] (r.toList ++ []) KS M' Q)) : am_AtN m3_meet 20 [some (vr 60), some (vi a1)] [] KS M Q := by
  refine s_aload_n (show decode (am_cc m3_meet) 20 = .ok (.aload_n 0, 1) by decide +kernel) rfl ?_
  refine s_getf (k := 3) (v := vi (M 60 3)) (show decode (am_cc m3_meet) 21 = .ok (.getfield 25, 3) by decide +kernel) kd60 (by decide) rfl jnX3 (by decide) lf_RX3_25 rfl ?_
  refine s_bipush (show decode (am_cc m3_meet) 24 = .ok (.bipush 36, 2) by decide +kernel) ⟨by decide, by decide⟩ (by decide) ?_
  exact n_callN (as := [vi (M 60 3), vi 36]) (stk := []) (show decode (am_cc m3_meet) 26 = .ok (.invokestatic 70, 3) by decide +kernel) lk_RX3_70 (by decide) (Nat.le_of_ble_eq_true rfl) ⟨rfl, rfl⟩ k
theorem g3_meet_29 {a1 t0 : Int} {M : am_M} {Q : Option am_V → am_M → Prop} (k1 : ¬ t0 = 0 → am_AtN m3_meet 33 [some (vr 60), some (vi a1)] [] KS M Q) (k2 : t0 = 0 → am_AtN m3_meet 32 [some (vr 60), some (vi a1)] [] KS M Q) : am_AtN m3_meet 29 [some (vr 60), some (vi a1)] [vi t0] KS M Q := by
  exact s_if_ne (tgt := 33) (show decode (am_cc m3_meet) 29 = .ok (.ifCond .ne 4, 3) by decide +kernel) (by decide) k1 k2
theorem g3_meet_32 {a1 : Int} {M : am_M} {Q : Option am_V → am_M → Prop} (k : Q none M) : am_AtN m3_meet 32 [some (vr 60), some (vi a1)] [] KS M Q := by
  exact s_return (show decode (am_cc m3_meet) 32 = .ok (.return_, 1) by decide +kernel) rfl k
theorem g3_meet_33 {a1 : Int} {M : am_M} {Q : Option am_V → am_M → Prop} (h1 : 0 ≤ a1) (h2 : a1 < 36) (h3 : 0 ≤ (am_up M 61 a1 (M 60 3)) 60 3) (h4 : (am_up M 61 a1 (M 60 3)) 60 3 < 36) (h5 : -2147483648 ≤ ((am_up (am_up M 61 a1 (M 60 3)) 62 ((am_up M 61 a1 (M 60 3)) 60 3) a1) 60 3) + 1 ∧ ((am_up (am_up M 61 a1 (M 60 3)) 62 ((am_up M 61 a1 (M 60 3)) 60 3) a1) 60 3) + 1 ≤ 2147483647) (k : Q none (am_up (am_up (am_up M 61 a1 (M 60 3)) 62 ((am_up M 61 a1 (M 60 3)) 60 3) a1) 60 3 (((am_up (am_up M 61 a1 (M 60 3)) 62 ((am_up M 61 a1 (M 60 3)) 60 3) a1) 60 3) + 1))) : am_AtN m3_meet 33 [some (vr 60), some (vi a1)] [] KS M Q := by
  refine s_aload_n (show decode (am_cc m3_meet) 33 = .ok (.aload_n 0, 1) by decide +kernel) rfl ?_
  refine s_getf (k := 0) (v := vr 61) (show decode (am_cc m3_meet) 34 = .ok (.getfield 11, 3) by decide +kernel) kd60 (by decide) rfl jnX3 (by decide) lf_RX3_11 rfl ?_
  refine s_iload_n (show decode (am_cc m3_meet) 37 = .ok (.iload_n 1, 1) by decide +kernel) rfl ?_
  refine s_aload_n (show decode (am_cc m3_meet) 38 = .ok (.aload_n 0, 1) by decide +kernel) rfl ?_
  refine s_getf (k := 3) (v := vi (M 60 3)) (show decode (am_cc m3_meet) 39 = .ok (.getfield 25, 3) by decide +kernel) kd60 (by decide) rfl jnX3 (by decide) lf_RX3_25 rfl ?_
  refine s_iastore (show decode (am_cc m3_meet) 42 = .ok (.iastore, 1) by decide +kernel) kd61 h1 h2 ?_
  refine s_aload_n (show decode (am_cc m3_meet) 43 = .ok (.aload_n 0, 1) by decide +kernel) rfl ?_
  refine s_getf (k := 1) (v := vr 62) (show decode (am_cc m3_meet) 44 = .ok (.getfield 15, 3) by decide +kernel) kd60 (by decide) rfl jnX3 (by decide) lf_RX3_15 rfl ?_
  refine s_aload_n (show decode (am_cc m3_meet) 47 = .ok (.aload_n 0, 1) by decide +kernel) rfl ?_
  refine s_getf (k := 3) (v := vi ((am_up M 61 a1 (M 60 3)) 60 3)) (show decode (am_cc m3_meet) 48 = .ok (.getfield 25, 3) by decide +kernel) kd60 (by decide) rfl jnX3 (by decide) lf_RX3_25 rfl ?_
  refine s_iload_n (show decode (am_cc m3_meet) 51 = .ok (.iload_n 1, 1) by decide +kernel) rfl ?_
  refine s_iastore (show decode (am_cc m3_meet) 52 = .ok (.iastore, 1) by decide +kernel) kd62 h3 h4 ?_
  refine s_aload_n (show decode (am_cc m3_meet) 53 = .ok (.aload_n 0, 1) by decide +kernel) rfl ?_
  refine s_dupr (show decode (am_cc m3_meet) 54 = .ok (.dup, 1) by decide +kernel) ?_
  refine s_getf (k := 3) (v := vi ((am_up (am_up M 61 a1 (M 60 3)) 62 ((am_up M 61 a1 (M 60 3)) 60 3) a1) 60 3)) (show decode (am_cc m3_meet) 55 = .ok (.getfield 25, 3) by decide +kernel) kd60 (by decide) rfl jnX3 (by decide) lf_RX3_25 rfl ?_
  refine s_iconst (show decode (am_cc m3_meet) 58 = .ok (.iconst 1, 1) by decide +kernel) ⟨by decide, by decide⟩ ?_
  refine s_iadd (show decode (am_cc m3_meet) 59 = .ok (.iadd, 1) by decide +kernel) h5 ?_
  refine s_putf (k := 3) (x := ((am_up (am_up M 61 a1 (M 60 3)) 62 ((am_up M 61 a1 (M 60 3)) 60 3) a1) 60 3) + 1) (ty0 := tyX3) (show decode (am_cc m3_meet) 60 = .ok (.putfield 25, 3) by decide +kernel) kd60 (by decide) rfl jnX3 tyX3_ok nmX3 (by decide) lf_RX3_25 rfl (Or.inl ⟨rfl, rfl, rfl⟩) ?_
  exact s_return (show decode (am_cc m3_meet) 63 = .ok (.return_, 1) by decide +kernel) rfl k
theorem g3_numberOf_0 {a1 : Int} {M : am_M} {Q : Option am_V → am_M → Prop} (k : am_CallN m8_within [vi a1, vi 36] KS M (fun r M' => am_AtN m3_numberOf 6 [some (vr 60), some (vi a1)] (r.toList ++ []) KS M' Q)) : am_AtN m3_numberOf 0 [some (vr 60), some (vi a1)] [] KS M Q := by
  refine s_iload_n (show decode (am_cc m3_numberOf) 0 = .ok (.iload_n 1, 1) by decide +kernel) rfl ?_
  refine s_bipush (show decode (am_cc m3_numberOf) 1 = .ok (.bipush 36, 2) by decide +kernel) ⟨by decide, by decide⟩ (by decide) ?_
  exact n_callN (as := [vi a1, vi 36]) (stk := []) (show decode (am_cc m3_numberOf) 3 = .ok (.invokestatic 70, 3) by decide +kernel) lk_RX3_70 (by decide) (Nat.le_of_ble_eq_true rfl) ⟨rfl, rfl⟩ k
theorem g3_numberOf_6 {a1 t0 : Int} {M : am_M} {Q : Option am_V → am_M → Prop} (k1 : t0 = 0 → am_AtN m3_numberOf 18 [some (vr 60), some (vi a1)] [] KS M Q) (k2 : ¬ (t0 = 0) → am_AtN m3_numberOf 9 [some (vr 60), some (vi a1)] [] KS M Q) : am_AtN m3_numberOf 6 [some (vr 60), some (vi a1)] [vi t0] KS M Q := by
  exact s_if_eq (tgt := 18) (show decode (am_cc m3_numberOf) 6 = .ok (.ifCond .eq 12, 3) by decide +kernel) (by decide) k1 k2
theorem g3_numberOf_9 {a1 : Int} {M : am_M} {Q : Option am_V → am_M → Prop} (h1 : 0 ≤ a1) (h2 : a1 < 36) (k : am_AtN m3_numberOf 19 [some (vr 60), some (vi a1)] [vi (M 61 a1)] KS M Q) : am_AtN m3_numberOf 9 [some (vr 60), some (vi a1)] [] KS M Q := by
  refine s_aload_n (show decode (am_cc m3_numberOf) 9 = .ok (.aload_n 0, 1) by decide +kernel) rfl ?_
  refine s_getf (k := 0) (v := vr 61) (show decode (am_cc m3_numberOf) 10 = .ok (.getfield 11, 3) by decide +kernel) kd60 (by decide) rfl jnX3 (by decide) lf_RX3_11 rfl ?_
  refine s_iload_n (show decode (am_cc m3_numberOf) 13 = .ok (.iload_n 1, 1) by decide +kernel) rfl ?_
  refine s_iaload (show decode (am_cc m3_numberOf) 14 = .ok (.iaload, 1) by decide +kernel) kd61 h1 h2 ?_
  refine s_goto (tgt := 19) (show decode (am_cc m3_numberOf) 15 = .ok (.goto 4, 3) by decide +kernel) (by decide) ?_
  exact k
theorem g3_numberOf_18 {a1 : Int} {M : am_M} {Q : Option am_V → am_M → Prop} (k : am_AtN m3_numberOf 19 [some (vr 60), some (vi a1)] [vi 0] KS M Q) : am_AtN m3_numberOf 18 [some (vr 60), some (vi a1)] [] KS M Q := by
  refine s_iconst (show decode (am_cc m3_numberOf) 18 = .ok (.iconst 0, 1) by decide +kernel) ⟨by decide, by decide⟩ ?_
  exact k
theorem g3_numberOf_19 {a1 t0 : Int} {M : am_M} {Q : Option am_V → am_M → Prop} (k : Q (some (vi t0)) M) : am_AtN m3_numberOf 19 [some (vr 60), some (vi a1)] [vi t0] KS M Q := by
  exact s_ireturn (show decode (am_cc m3_numberOf) 19 = .ok (.ireturn, 1) by decide +kernel) rfl k
theorem g3_after_0 {a0 a1 a2 a3 : Int} {K : am_K} {M : am_M} {Q : Option am_V → am_M → Prop} {r0 : List Int} (h1 : 0 ≤ a0) (h2 : am_kd K a2 = some (6, 2, r0)) (k : am_CallN m6_nextOf [vr a2, vi (a0 / 6), vi a1] K M (fun r M' => am_AtN m3_after 9 [some (vi a0), some (vi a1), some (vr a2), some (vr a3)] (r.toList ++ []) K M' Q)) : am_AtN m3_after 0 [some (vi a0), some (vi a1), some (vr a2), some (vr a3)] [] K M Q := by
  refine s_aload_n (show decode (am_cc m3_after) 0 = .ok (.aload_n 2, 1) by decide +kernel) rfl ?_
  refine s_iload_n (show decode (am_cc m3_after) 1 = .ok (.iload_n 0, 1) by decide +kernel) rfl ?_
  refine s_bipush (show decode (am_cc m3_after) 2 = .ok (.bipush 6, 2) by decide +kernel) ⟨by decide, by decide⟩ (by decide) ?_
  refine s_idiv (show decode (am_cc m3_after) 4 = .ok (.idiv, 1) by decide +kernel) h1 (by decide) ?_
  refine s_iload_n (show decode (am_cc m3_after) 5 = .ok (.iload_n 1, 1) by decide +kernel) rfl ?_
  exact n_callV (as := [vi (a0 / 6), vi a1]) (stk := []) (show decode (am_cc m3_after) 6 = .ok (.invokevirtual 74, 3) by decide +kernel) lk_RX3_74 h2 (by decide) rfl rfl (by decide) (Nat.le_of_ble_eq_true rfl) ⟨rfl, rfl⟩ k
theorem g3_after_9 {a0 a1 a2 a3 t0 : Int} {K : am_K} {M : am_M} {Q : Option am_V → am_M → Prop} {r0 : List Int} (h1 : -2147483648 ≤ t0 * 6 ∧ t0 * 6 ≤ 2147483647) (h2 : 0 ≤ a0) (h3 : am_kd K a3 = some (6, 2, r0)) (k : am_CallN m6_nextOf [vr a3, vi (a0 % 6), vi a1] K M (fun r M' => am_AtN m3_after 21 [some (vi a0), some (vi a1), some (vr a2), some (vr a3)] (r.toList ++ [vi (t0 * 6)]) K M' Q)) : am_AtN m3_after 9 [some (vi a0), some (vi a1), some (vr a2), some (vr a3)] [vi t0] K M Q := by
  refine s_bipush (show decode (am_cc m3_after) 9 = .ok (.bipush 6, 2) by decide +kernel) ⟨by decide, by decide⟩ (by decide) ?_
  refine s_imul (show decode (am_cc m3_after) 11 = .ok (.imul, 1) by decide +kernel) h1 ?_
  refine s_aload_n (show decode (am_cc m3_after) 12 = .ok (.aload_n 3, 1) by decide +kernel) rfl ?_
  refine s_iload_n (show decode (am_cc m3_after) 13 = .ok (.iload_n 0, 1) by decide +kernel) rfl ?_
  refine s_bipush (show decode (am_cc m3_after) 14 = .ok (.bipush 6, 2) by decide +kernel) ⟨by decide, by decide⟩ (by decide) ?_
  refine s_irem (show decode (am_cc m3_after) 16 = .ok (.irem, 1) by decide +kernel) h2 (by decide) ?_
  refine s_iload_n (show decode (am_cc m3_after) 17 = .ok (.iload_n 1, 1) by decide +kernel) rfl ?_
  exact n_callV (as := [vi (a0 % 6), vi a1]) (stk := [vi (t0 * 6)]) (show decode (am_cc m3_after) 18 = .ok (.invokevirtual 74, 3) by decide +kernel) lk_RX3_74 h3 (by decide) rfl rfl (by decide) (Nat.le_of_ble_eq_true rfl) ⟨rfl, rfl⟩ k
theorem g3_after_21 {a0 a1 a2 a3 t0 t1 : Int} {K : am_K} {M : am_M} {Q : Option am_V → am_M → Prop} (h1 : -2147483648 ≤ t0 + t1 ∧ t0 + t1 ≤ 2147483647) (k : Q (some (vi (t0 + t1))) M) : am_AtN m3_after 21 [some (vi a0), some (vi a1), some (vr a2), some (vr a3)] [vi t1, vi t0] K M Q := by
  refine s_iadd (show decode (am_cc m3_after) 21 = .ok (.iadd, 1) by decide +kernel) h1 ?_
  exact s_ireturn (show decode (am_cc m3_after) 22 = .ok (.ireturn, 1) by decide +kernel) rfl k
theorem g7_fill_0 {a1 a2 a3 : Int} {M : am_M} {Q : Option am_V → am_M → Prop} (k : am_AtN m7_fill 8 [some (vr 84), some (vr a1), some (vi a2), some (vi a3), some (vi 0), none] [] KS (am_up M 84 1 a3) Q) : am_AtN m7_fill 0 [some (vr 84), some (vr a1), some (vi a2), some (vi a3), none, none] [] KS M Q := by
  refine s_aload_n (show decode (am_cc m7_fill) 0 = .ok (.aload_n 0, 1) by decide +kernel) rfl ?_
  refine s_iload_n (show decode (am_cc m7_fill) 1 = .ok (.iload_n 3, 1) by decide +kernel) rfl ?_
  refine s_putf (k := 1) (x := a3) (ty0 := tyX7) (show decode (am_cc m7_fill) 2 = .ok (.putfield 15, 3) by decide +kernel) kd84 (by decide) rfl jnX7 tyX7_ok nmX7 (by decide) lf_RX7_15 rfl (Or.inl ⟨rfl, rfl, rfl⟩) ?_
  refine s_iconst (show decode (am_cc m7_fill) 5 = .ok (.iconst 0, 1) by decide +kernel) ⟨by decide, by decide⟩ ?_
  refine s_istore (show decode (am_cc m7_fill) 6 = .ok (.istore 4, 2) by decide +kernel) (by decide) ?_
  exact k
theorem g7_fill_8 {a1 a2 a3 a4 : Int} {M : am_M} {Q : Option am_V → am_M → Prop} (k1 : 6 ≤ a4 → am_AtN m7_fill 38 [some (vr 84), some (vr a1), some (vi a2), some (vi a3), some (vi a4), none] [] KS M Q) (k2 : ¬ (6 ≤ a4) → am_AtN m7_fill 15 [some (vr 84), some (vr a1), some (vi a2), some (vi a3), some (vi a4), none] [] KS M Q) : am_AtN m7_fill 8 [some (vr 84), some (vr a1), some (vi a2), some (vi a3), some (vi a4), none] [] KS M Q := by
  refine s_iload (show decode (am_cc m7_fill) 8 = .ok (.iload 4, 2) by decide +kernel) rfl ?_
  refine s_bipush (show decode (am_cc m7_fill) 10 = .ok (.bipush 6, 2) by decide +kernel) ⟨by decide, by decide⟩ (by decide) ?_
  exact s_icmp_ge (tgt := 38) (show decode (am_cc m7_fill) 12 = .ok (.if_icmp .ge 26, 3) by decide +kernel) (by decide) k1 k2
theorem g7_fill_15 {a1 a2 a3 a4 : Int} {M : am_M} {Q : Option am_V → am_M → Prop} {r0 : List Int} (h1 : am_kd KS a1 = some (6, 2, r0)) (k : am_CallN m6_holdsAt [vr a1, vi a4] KS M (fun r M' => am_AtN m7_fill 25 [some (vr 84), some (vr a1), some (vi a2), some (vi a3), some (vi a4), none] (r.toList ++ [vi a4, vi 0, vr 84]) KS M' Q)) : am_AtN m7_fill 15 [some (vr 84), some (vr a1), some (vi a2), some (vi a3), some (vi a4), none] [] KS M Q := by
  refine s_aload_n (show decode (am_cc m7_fill) 15 = .ok (.aload_n 0, 1) by decide +kernel) rfl ?_
  refine s_iconst (show decode (am_cc m7_fill) 16 = .ok (.iconst 0, 1) by decide +kernel) ⟨by decide, by decide⟩ ?_
  refine s_iload (show decode (am_cc m7_fill) 17 = .ok (.iload 4, 2) by decide +kernel) rfl ?_
  refine s_aload_n (show decode (am_cc m7_fill) 19 = .ok (.aload_n 1, 1) by decide +kernel) rfl ?_
  refine s_iload (show decode (am_cc m7_fill) 20 = .ok (.iload 4, 2) by decide +kernel) rfl ?_
  exact n_callV (as := [vi a4]) (stk := [vi a4, vi 0, vr 84]) (show decode (am_cc m7_fill) 22 = .ok (.invokevirtual 19, 3) by decide +kernel) lk_RX7_19 h1 (by decide) rfl rfl (by decide) (Nat.le_of_ble_eq_true rfl) ⟨rfl, rfl⟩ k
theorem g7_fill_25 {a1 a2 a3 a4 t0 t1 t2 t3 : Int} {M : am_M} {Q : Option am_V → am_M → Prop} (k : am_CallN m8_oneIf [vi t3] KS M (fun r M' => am_AtN m7_fill 28 [some (vr 84), some (vr a1), some (vi a2), some (vi a3), some (vi a4), none] (r.toList ++ [vi t2, vi t1, vr t0]) KS M' Q)) : am_AtN m7_fill 25 [some (vr 84), some (vr a1), some (vi a2), some (vi a3), some (vi a4), none] [vi t3, vi t2, vi t1, vr t0] KS M Q := by
  exact n_callN (as := [vi t3]) (stk := [vi t2, vi t1, vr t0]) (show decode (am_cc m7_fill) 25 = .ok (.invokestatic 25, 3) by decide +kernel) lk_RX7_25 (by decide) (Nat.le_of_ble_eq_true rfl) ⟨rfl, rfl⟩ k
theorem g7_fill_28 {a1 a2 a3 a4 t0 t1 t2 t3 : Int} {M : am_M} {Q : Option am_V → am_M → Prop} {r0 : List Int} (h1 : am_kd KS t0 = some (7, 2, r0)) (k : am_CallN m7_put [vr t0, vi t1, vi t2, vl t3] KS M (fun r M' => am_AtN m7_fill 32 [some (vr 84), some (vr a1), some (vi a2), some (vi a3), some (vi a4), none] (r.toList ++ []) KS M' Q)) : am_AtN m7_fill 28 [some (vr 84), some (vr a1), some (vi a2), some (vi a3), some (vi a4), none] [vi t3, vi t2, vi t1, vr t0] KS M Q := by
  refine s_i2l (show decode (am_cc m7_fill) 28 = .ok (.i2l, 1) by decide +kernel) ?_
  exact n_callV (as := [vi t1, vi t2, vl t3]) (stk := []) (show decode (am_cc m7_fill) 29 = .ok (.invokevirtual 29, 3) by decide +kernel) lk_RX7_29 h1 (by decide) rfl rfl (by decide) (Nat.le_of_ble_eq_true rfl) ⟨rfl, rfl⟩ k
theorem g7_fill_32 {a1 a2 a3 a4 : Int} {M : am_M} {Q : Option am_V → am_M → Prop} (h1 : -2147483648 ≤ a4 + 1 ∧ a4 + 1 ≤ 2147483647) (k : am_AtN m7_fill 8 [some (vr 84), some (vr a1), some (vi a2), some (vi a3), some (vi (a4 + 1)), none] [] KS M Q) : am_AtN m7_fill 32 [some (vr 84), some (vr a1), some (vi a2), some (vi a3), some (vi a4), none] [] KS M Q := by
  refine s_iinc (show decode (am_cc m7_fill) 32 = .ok (.iinc 4 1, 3) by decide +kernel) rfl (by decide) h1 ?_
  refine s_goto (tgt := 8) (show decode (am_cc m7_fill) 35 = .ok (.goto (-27), 3) by decide +kernel) (by decide) ?_
  exact k
theorem g7_fill_38 {a1 a2 a3 a4 : Int} {M : am_M} {Q : Option am_V → am_M → Prop} (k : am_AtN m7_fill 41 [some (vr 84), some (vr a1), some (vi a2), some (vi a3), some (vi 1), none] [] KS M Q) : am_AtN m7_fill 38 [some (vr 84), some (vr a1), some (vi a2), some (vi a3), some (vi a4), none] [] KS M Q := by
  refine s_iconst (show decode (am_cc m7_fill) 38 = .ok (.iconst 1, 1) by decide +kernel) ⟨by decide, by decide⟩ ?_
  refine s_istore (show decode (am_cc m7_fill) 39 = .ok (.istore 4, 2) by decide +kernel) (by decide) ?_
  exact k
theorem g7_fill_41 {a1 a2 a3 a4 : Int} {M : am_M} {Q : Option am_V → am_M → Prop} (k1 : a2 < a4 → am_AtN m7_fill 86 [some (vr 84), some (vr a1), some (vi a2), some (vi a3), some (vi a4), none] [] KS M Q) (k2 : ¬ (a2 < a4) → am_AtN m7_fill 47 [some (vr 84), some (vr a1), some (vi a2), some (vi a3), some (vi a4), none] [] KS M Q) : am_AtN m7_fill 41 [some (vr 84), some (vr a1), some (vi a2), some (vi a3), some (vi a4), none] [] KS M Q := by
  refine s_iload (show decode (am_cc m7_fill) 41 = .ok (.iload 4, 2) by decide +kernel) rfl ?_
  refine s_iload_n (show decode (am_cc m7_fill) 43 = .ok (.iload_n 2, 1) by decide +kernel) rfl ?_
  exact s_icmp_gt (tgt := 86) (show decode (am_cc m7_fill) 44 = .ok (.if_icmp .gt 42, 3) by decide +kernel) (by decide) k1 k2
theorem g7_fill_47 {a1 a2 a3 a4 : Int} {M : am_M} {Q : Option am_V → am_M → Prop} (k : am_AtN m7_fill 50 [some (vr 84), some (vr a1), some (vi a2), some (vi a3), some (vi a4), some (vi 0)] [] KS M Q) : am_AtN m7_fill 47 [some (vr 84), some (vr a1), some (vi a2), some (vi a3), some (vi a4), none] [] KS M Q := by
  refine s_iconst (show decode (am_cc m7_fill) 47 = .ok (.iconst 0, 1) by decide +kernel) ⟨by decide, by decide⟩ ?_
  refine s_istore (show decode (am_cc m7_fill) 48 = .ok (.istore 5, 2) by decide +kernel) (by decide) ?_
  exact k
theorem g7_fill_50 {a1 a2 a3 a4 a5 : Int} {M : am_M} {Q : Option am_V → am_M → Prop} (k1 : 6 ≤ a5 → am_AtN m7_fill 80 [some (vr 84), some (vr a1), some (vi a2), some (vi a3), some (vi a4), some (vi a5)] [] KS M Q) (k2 : ¬ (6 ≤ a5) → am_AtN m7_fill 57 [some (vr 84), some (vr a1), some (vi a2), some (vi a3), some (vi a4), some (vi a5)] [] KS M Q) : am_AtN m7_fill 50 [some (vr 84), some (vr a1), some (vi a2), some (vi a3), some (vi a4), some (vi a5)] [] KS M Q := by
  refine s_iload (show decode (am_cc m7_fill) 50 = .ok (.iload 5, 2) by decide +kernel) rfl ?_
  refine s_bipush (show decode (am_cc m7_fill) 52 = .ok (.bipush 6, 2) by decide +kernel) ⟨by decide, by decide⟩ (by decide) ?_
  exact s_icmp_ge (tgt := 80) (show decode (am_cc m7_fill) 54 = .ok (.if_icmp .ge 26, 3) by decide +kernel) (by decide) k1 k2
theorem g7_fill_57 {a1 a2 a3 a4 a5 : Int} {M : am_M} {Q : Option am_V → am_M → Prop} (k : am_CallN m7_sum [vr 84, vr a1, vi a4, vi a5] KS M (fun r M' => am_AtN m7_fill 71 [some (vr 84), some (vr a1), some (vi a2), some (vi a3), some (vi a4), some (vi a5)] (r.toList ++ [vi a5, vi a4, vr 84]) KS M' Q)) : am_AtN m7_fill 57 [some (vr 84), some (vr a1), some (vi a2), some (vi a3), some (vi a4), some (vi a5)] [] KS M Q := by
  refine s_aload_n (show decode (am_cc m7_fill) 57 = .ok (.aload_n 0, 1) by decide +kernel) rfl ?_
  refine s_iload (show decode (am_cc m7_fill) 58 = .ok (.iload 4, 2) by decide +kernel) rfl ?_
  refine s_iload (show decode (am_cc m7_fill) 60 = .ok (.iload 5, 2) by decide +kernel) rfl ?_
  refine s_aload_n (show decode (am_cc m7_fill) 62 = .ok (.aload_n 0, 1) by decide +kernel) rfl ?_
  refine s_aload_n (show decode (am_cc m7_fill) 63 = .ok (.aload_n 1, 1) by decide +kernel) rfl ?_
  refine s_iload (show decode (am_cc m7_fill) 64 = .ok (.iload 4, 2) by decide +kernel) rfl ?_
  refine s_iload (show decode (am_cc m7_fill) 66 = .ok (.iload 5, 2) by decide +kernel) rfl ?_
  exact n_callV (as := [vr a1, vi a4, vi a5]) (stk := [vi a5, vi a4, vr 84]) (show decode (am_cc m7_fill) 68 = .ok (.invokevirtual 33, 3) by decide +kernel) lk_RX7_33 kd84 (by decide) rfl rfl (by decide) (Nat.le_of_ble_eq_true rfl) ⟨rfl, rfl⟩ k
theorem g7_fill_71 {a1 a2 a3 a4 a5 t0 t1 t2 t3 : Int} {M : am_M} {Q : Option am_V → am_M → Prop} {r0 : List Int} (h1 : am_kd KS t0 = some (7, 2, r0)) (k : am_CallN m7_put [vr t0, vi t1, vi t2, vl t3] KS M (fun r M' => am_AtN m7_fill 74 [some (vr 84), some (vr a1), some (vi a2), some (vi a3), some (vi a4), some (vi a5)] (r.toList ++ []) KS M' Q)) : am_AtN m7_fill 71 [some (vr 84), some (vr a1), some (vi a2), some (vi a3), some (vi a4), some (vi a5)] [vl t3, vi t2, vi t1, vr t0] KS M Q := by
  exact n_callV (as := [vi t1, vi t2, vl t3]) (stk := []) (show decode (am_cc m7_fill) 71 = .ok (.invokevirtual 29, 3) by decide +kernel) lk_RX7_29 h1 (by decide) rfl rfl (by decide) (Nat.le_of_ble_eq_true rfl) ⟨rfl, rfl⟩ k
theorem g7_fill_74 {a1 a2 a3 a4 a5 : Int} {M : am_M} {Q : Option am_V → am_M → Prop} (h1 : -2147483648 ≤ a5 + 1 ∧ a5 + 1 ≤ 2147483647) (k : am_AtN m7_fill 50 [some (vr 84), some (vr a1), some (vi a2), some (vi a3), some (vi a4), some (vi (a5 + 1))] [] KS M Q) : am_AtN m7_fill 74 [some (vr 84), some (vr a1), some (vi a2), some (vi a3), some (vi a4), some (vi a5)] [] KS M Q := by
  refine s_iinc (show decode (am_cc m7_fill) 74 = .ok (.iinc 5 1, 3) by decide +kernel) rfl (by decide) h1 ?_
  refine s_goto (tgt := 50) (show decode (am_cc m7_fill) 77 = .ok (.goto (-27), 3) by decide +kernel) (by decide) ?_
  exact k
theorem g7_fill_80 {a1 a2 a3 a4 a5 : Int} {M : am_M} {Q : Option am_V → am_M → Prop} (h1 : -2147483648 ≤ a4 + 1 ∧ a4 + 1 ≤ 2147483647) (k : am_AtN m7_fill 41 [some (vr 84), some (vr a1), some (vi a2), some (vi a3), some (vi (a4 + 1)), none] [] KS M Q) : am_AtN m7_fill 80 [some (vr 84), some (vr a1), some (vi a2), some (vi a3), some (vi a4), some (vi a5)] [] KS M Q := by
  refine s_iinc (show decode (am_cc m7_fill) 80 = .ok (.iinc 4 1, 3) by decide +kernel) rfl (by decide) h1 ?_
  refine s_goto (tgt := 41) (show decode (am_cc m7_fill) 83 = .ok (.goto (-42), 3) by decide +kernel) (by decide) ?_
  refine am_fg 5 ?_
  exact k
theorem g7_fill_86 {a1 a2 a3 a4 : Int} {M : am_M} {Q : Option am_V → am_M → Prop} (k : Q none M) : am_AtN m7_fill 86 [some (vr 84), some (vr a1), some (vi a2), some (vi a3), some (vi a4), none] [] KS M Q := by
  exact s_return (show decode (am_cc m7_fill) 86 = .ok (.return_, 1) by decide +kernel) rfl k
theorem g7_sum_0 {a1 a2 a3 : Int} {M : am_M} {Q : Option am_V → am_M → Prop} (k : am_AtN m7_sum 6 [some (vr 84), some (vr a1), some (vi a2), some (vi a3), some (vl 0), none, some (vi 0)] [] KS M Q) : am_AtN m7_sum 0 [some (vr 84), some (vr a1), some (vi a2), some (vi a3), none, none, none] [] KS M Q := by
  refine s_lconst (v := 0) (show decode (am_cc m7_sum) 0 = .ok (.lconst 0, 1) by decide +kernel) (by decide) ⟨by decide, by decide⟩ ?_
  refine s_lstore (show decode (am_cc m7_sum) 1 = .ok (.lstore 4, 2) by decide +kernel) (by decide) ?_
  refine s_iconst (show decode (am_cc m7_sum) 3 = .ok (.iconst 0, 1) by decide +kernel) ⟨by decide, by decide⟩ ?_
  refine s_istore (show decode (am_cc m7_sum) 4 = .ok (.istore 6, 2) by decide +kernel) (by decide) ?_
  exact k
theorem g7_sum_6 {a1 a2 a3 a4 a6 : Int} {M : am_M} {Q : Option am_V → am_M → Prop} (k1 : M 84 1 ≤ a6 → am_AtN m7_sum 40 [some (vr 84), some (vr a1), some (vi a2), some (vi a3), some (vl a4), none, some (vi a6)] [] KS M Q) (k2 : ¬ (M 84 1 ≤ a6) → am_AtN m7_sum 15 [some (vr 84), some (vr a1), some (vi a2), some (vi a3), some (vl a4), none, some (vi a6)] [] KS M Q) : am_AtN m7_sum 6 [some (vr 84), some (vr a1), some (vi a2), some (vi a3), some (vl a4), none, some (vi a6)] [] KS M Q := by
  refine s_iload (show decode (am_cc m7_sum) 6 = .ok (.iload 6, 2) by decide +kernel) rfl ?_
  refine s_aload_n (show decode (am_cc m7_sum) 8 = .ok (.aload_n 0, 1) by decide +kernel) rfl ?_
  refine s_getf (k := 1) (v := vi (M 84 1)) (show decode (am_cc m7_sum) 9 = .ok (.getfield 15, 3) by decide +kernel) kd84 (by decide) rfl jnX7 (by decide) lf_RX7_15 rfl ?_
  exact s_icmp_ge (tgt := 40) (show decode (am_cc m7_sum) 12 = .ok (.if_icmp .ge 28, 3) by decide +kernel) (by decide) k1 k2
theorem g7_sum_15 {a1 a2 a3 a4 a6 : Int} {M : am_M} {Q : Option am_V → am_M → Prop} {r0 : List Int} (h1 : -2147483648 ≤ a2 - 1 ∧ a2 - 1 ≤ 2147483647) (h2 : am_kd KS a1 = some (6, 2, r0)) (k : am_CallN m6_nextOf [vr a1, vi a3, vi a6] KS M (fun r M' => am_AtN m7_sum 28 [some (vr 84), some (vr a1), some (vi a2), some (vi a3), some (vl a4), none, some (vi a6)] (r.toList ++ [vi (a2 - 1), vr 84, vl a4]) KS M' Q)) : am_AtN m7_sum 15 [some (vr 84), some (vr a1), some (vi a2), some (vi a3), some (vl a4), none, some (vi a6)] [] KS M Q := by
  refine s_lload (show decode (am_cc m7_sum) 15 = .ok (.lload 4, 2) by decide +kernel) rfl ?_
  refine s_aload_n (show decode (am_cc m7_sum) 17 = .ok (.aload_n 0, 1) by decide +kernel) rfl ?_
  refine s_iload_n (show decode (am_cc m7_sum) 18 = .ok (.iload_n 2, 1) by decide +kernel) rfl ?_
  refine s_iconst (show decode (am_cc m7_sum) 19 = .ok (.iconst 1, 1) by decide +kernel) ⟨by decide, by decide⟩ ?_
  refine s_isub (show decode (am_cc m7_sum) 20 = .ok (.isub, 1) by decide +kernel) h1 ?_
  refine s_aload_n (show decode (am_cc m7_sum) 21 = .ok (.aload_n 1, 1) by decide +kernel) rfl ?_
  refine s_iload_n (show decode (am_cc m7_sum) 22 = .ok (.iload_n 3, 1) by decide +kernel) rfl ?_
  refine s_iload (show decode (am_cc m7_sum) 23 = .ok (.iload 6, 2) by decide +kernel) rfl ?_
  exact n_callV (as := [vi a3, vi a6]) (stk := [vi (a2 - 1), vr 84, vl a4]) (show decode (am_cc m7_sum) 25 = .ok (.invokevirtual 37, 3) by decide +kernel) lk_RX7_37 h2 (by decide) rfl rfl (by decide) (Nat.le_of_ble_eq_true rfl) ⟨rfl, rfl⟩ k
theorem g7_sum_28 {a1 a2 a3 a4 a6 t0 t1 t2 t3 : Int} {M : am_M} {Q : Option am_V → am_M → Prop} {r0 : List Int} (h1 : am_kd KS t1 = some (7, 2, r0)) (k : am_CallN m7_ways [vr t1, vi t2, vi t3] KS M (fun r M' => am_AtN m7_sum 31 [some (vr 84), some (vr a1), some (vi a2), some (vi a3), some (vl a4), none, some (vi a6)] (r.toList ++ [vl t0]) KS M' Q)) : am_AtN m7_sum 28 [some (vr 84), some (vr a1), some (vi a2), some (vi a3), some (vl a4), none, some (vi a6)] [vi t3, vi t2, vr t1, vl t0] KS M Q := by
  exact n_callV (as := [vi t2, vi t3]) (stk := [vl t0]) (show decode (am_cc m7_sum) 28 = .ok (.invokevirtual 41, 3) by decide +kernel) lk_RX7_41 h1 (by decide) rfl rfl (by decide) (Nat.le_of_ble_eq_true rfl) ⟨rfl, rfl⟩ k
theorem g7_sum_31 {a1 a2 a3 a4 a6 t0 t1 : Int} {M : am_M} {Q : Option am_V → am_M → Prop} (h1 : -9223372036854775808 ≤ t0 + t1 ∧ t0 + t1 ≤ 9223372036854775807) (h2 : -2147483648 ≤ a6 + 1 ∧ a6 + 1 ≤ 2147483647) (k : am_AtN m7_sum 6 [some (vr 84), some (vr a1), some (vi a2), some (vi a3), some (vl (t0 + t1)), none, some (vi (a6 + 1))] [] KS M Q) : am_AtN m7_sum 31 [some (vr 84), some (vr a1), some (vi a2), some (vi a3), some (vl a4), none, some (vi a6)] [vl t1, vl t0] KS M Q := by
  refine s_ladd (show decode (am_cc m7_sum) 31 = .ok (.ladd, 1) by decide +kernel) h1 ?_
  refine s_lstore (show decode (am_cc m7_sum) 32 = .ok (.lstore 4, 2) by decide +kernel) (by decide) ?_
  refine s_iinc (show decode (am_cc m7_sum) 34 = .ok (.iinc 6 1, 3) by decide +kernel) rfl (by decide) h2 ?_
  refine s_goto (tgt := 6) (show decode (am_cc m7_sum) 37 = .ok (.goto (-31), 3) by decide +kernel) (by decide) ?_
  exact k
theorem g7_sum_40 {a1 a2 a3 a4 a6 : Int} {M : am_M} {Q : Option am_V → am_M → Prop} (k : Q (some (vl a4)) M) : am_AtN m7_sum 40 [some (vr 84), some (vr a1), some (vi a2), some (vi a3), some (vl a4), none, some (vi a6)] [] KS M Q := by
  refine s_lload (show decode (am_cc m7_sum) 40 = .ok (.lload 4, 2) by decide +kernel) rfl ?_
  exact s_lreturn (show decode (am_cc m7_sum) 42 = .ok (.lreturn, 1) by decide +kernel) rfl k
theorem g7_put_0 {a1 a2 a3 : Int} {M : am_M} {Q : Option am_V → am_M → Prop} (k : am_CallN m8_within [vi a1, vi 21] KS M (fun r M' => am_AtN m7_put 6 [some (vr 84), some (vi a1), some (vi a2), some (vl a3), none] (r.toList ++ []) KS M' Q)) : am_AtN m7_put 0 [some (vr 84), some (vi a1), some (vi a2), some (vl a3), none] [] KS M Q := by
  refine s_iload_n (show decode (am_cc m7_put) 0 = .ok (.iload_n 1, 1) by decide +kernel) rfl ?_
  refine s_bipush (show decode (am_cc m7_put) 1 = .ok (.bipush 21, 2) by decide +kernel) ⟨by decide, by decide⟩ (by decide) ?_
  exact n_callN (as := [vi a1, vi 21]) (stk := []) (show decode (am_cc m7_put) 3 = .ok (.invokestatic 45, 3) by decide +kernel) lk_RX7_45 (by decide) (Nat.le_of_ble_eq_true rfl) ⟨rfl, rfl⟩ k
theorem g7_put_6 {a1 a2 a3 t0 : Int} {M : am_M} {Q : Option am_V → am_M → Prop} (k1 : t0 = 0 → am_AtN m7_put 30 [some (vr 84), some (vi a1), some (vi a2), some (vl a3), none] [] KS M Q) (k2 : ¬ (t0 = 0) → am_AtN m7_put 9 [some (vr 84), some (vi a1), some (vi a2), some (vl a3), none] [] KS M Q) : am_AtN m7_put 6 [some (vr 84), some (vi a1), some (vi a2), some (vl a3), none] [vi t0] KS M Q := by
  exact s_if_eq (tgt := 30) (show decode (am_cc m7_put) 6 = .ok (.ifCond .eq 24, 3) by decide +kernel) (by decide) k1 k2
theorem g7_put_9 {a1 a2 a3 : Int} {M : am_M} {Q : Option am_V → am_M → Prop} (k : am_CallN m8_within [vi a2, vi 6] KS M (fun r M' => am_AtN m7_put 15 [some (vr 84), some (vi a1), some (vi a2), some (vl a3), none] (r.toList ++ []) KS M' Q)) : am_AtN m7_put 9 [some (vr 84), some (vi a1), some (vi a2), some (vl a3), none] [] KS M Q := by
  refine s_iload_n (show decode (am_cc m7_put) 9 = .ok (.iload_n 2, 1) by decide +kernel) rfl ?_
  refine s_bipush (show decode (am_cc m7_put) 10 = .ok (.bipush 6, 2) by decide +kernel) ⟨by decide, by decide⟩ (by decide) ?_
  exact n_callN (as := [vi a2, vi 6]) (stk := []) (show decode (am_cc m7_put) 12 = .ok (.invokestatic 45, 3) by decide +kernel) lk_RX7_45 (by decide) (Nat.le_of_ble_eq_true rfl) ⟨rfl, rfl⟩ k
theorem g7_put_15 {a1 a2 a3 t0 : Int} {M : am_M} {Q : Option am_V → am_M → Prop} (k1 : t0 = 0 → am_AtN m7_put 30 [some (vr 84), some (vi a1), some (vi a2), some (vl a3), none] [] KS M Q) (k2 : ¬ (t0 = 0) → am_AtN m7_put 18 [some (vr 84), some (vi a1), some (vi a2), some (vl a3), none] [] KS M Q) : am_AtN m7_put 15 [some (vr 84), some (vi a1), some (vi a2), some (vl a3), none] [vi t0] KS M Q := by
  exact s_if_eq (tgt := 30) (show decode (am_cc m7_put) 15 = .ok (.ifCond .eq 15, 3) by decide +kernel) (by decide) k1 k2
theorem g7_put_18 {a1 a2 a3 : Int} {M : am_M} {Q : Option am_V → am_M → Prop} (h1 : -2147483648 ≤ a1 * 6 ∧ a1 * 6 ≤ 2147483647) (h2 : -2147483648 ≤ (a1 * 6) + a2 ∧ (a1 * 6) + a2 ≤ 2147483647) (h3 : 0 ≤ (a1 * 6) + a2) (h4 : (a1 * 6) + a2 < 126) (k : am_AtN m7_put 30 [some (vr 84), some (vi a1), some (vi a2), some (vl a3), none] [] KS (am_up M 85 ((a1 * 6) + a2) a3) Q) : am_AtN m7_put 18 [some (vr 84), some (vi a1), some (vi a2), some (vl a3), none] [] KS M Q := by
  refine s_aload_n (show decode (am_cc m7_put) 18 = .ok (.aload_n 0, 1) by decide +kernel) rfl ?_
  refine s_getf (k := 0) (v := vr 85) (show decode (am_cc m7_put) 19 = .ok (.getfield 11, 3) by decide +kernel) kd84 (by decide) rfl jnX7 (by decide) lf_RX7_11 rfl ?_
  refine s_iload_n (show decode (am_cc m7_put) 22 = .ok (.iload_n 1, 1) by decide +kernel) rfl ?_
  refine s_bipush (show decode (am_cc m7_put) 23 = .ok (.bipush 6, 2) by decide +kernel) ⟨by decide, by decide⟩ (by decide) ?_
  refine s_imul (show decode (am_cc m7_put) 25 = .ok (.imul, 1) by decide +kernel) h1 ?_
  refine s_iload_n (show decode (am_cc m7_put) 26 = .ok (.iload_n 2, 1) by decide +kernel) rfl ?_
  refine s_iadd (show decode (am_cc m7_put) 27 = .ok (.iadd, 1) by decide +kernel) h2 ?_
  refine s_lload_n (show decode (am_cc m7_put) 28 = .ok (.lload_n 3, 1) by decide +kernel) rfl ?_
  refine s_lastore (show decode (am_cc m7_put) 29 = .ok (.lastore, 1) by decide +kernel) kd85 h3 h4 ?_
  exact k
theorem g7_put_30 {a1 a2 a3 : Int} {M : am_M} {Q : Option am_V → am_M → Prop} (k : Q none M) : am_AtN m7_put 30 [some (vr 84), some (vi a1), some (vi a2), some (vl a3), none] [] KS M Q := by
  exact s_return (show decode (am_cc m7_put) 30 = .ok (.return_, 1) by decide +kernel) rfl k
theorem g7_ways_0 {a1 a2 : Int} {M : am_M} {Q : Option am_V → am_M → Prop} (k : am_CallN m8_within [vi a1, vi 21] KS M (fun r M' => am_AtN m7_ways 6 [some (vr 84), some (vi a1), some (vi a2)] (r.toList ++ []) KS M' Q)) : am_AtN m7_ways 0 [some (vr 84), some (vi a1), some (vi a2)] [] KS M Q := by
  refine s_iload_n (show decode (am_cc m7_ways) 0 = .ok (.iload_n 1, 1) by decide +kernel) rfl ?_
  refine s_bipush (show decode (am_cc m7_ways) 1 = .ok (.bipush 21, 2) by decide +kernel) ⟨by decide, by decide⟩ (by decide) ?_
  exact n_callN (as := [vi a1, vi 21]) (stk := []) (show decode (am_cc m7_ways) 3 = .ok (.invokestatic 45, 3) by decide +kernel) lk_RX7_45 (by decide) (Nat.le_of_ble_eq_true rfl) ⟨rfl, rfl⟩ k
theorem g7_ways_6 {a1 a2 t0 : Int} {M : am_M} {Q : Option am_V → am_M → Prop} (k1 : t0 = 0 → am_AtN m7_ways 18 [some (vr 84), some (vi a1), some (vi a2)] [] KS M Q) (k2 : ¬ (t0 = 0) → am_AtN m7_ways 9 [some (vr 84), some (vi a1), some (vi a2)] [] KS M Q) : am_AtN m7_ways 6 [some (vr 84), some (vi a1), some (vi a2)] [vi t0] KS M Q := by
  exact s_if_eq (tgt := 18) (show decode (am_cc m7_ways) 6 = .ok (.ifCond .eq 12, 3) by decide +kernel) (by decide) k1 k2
theorem g7_ways_9 {a1 a2 : Int} {M : am_M} {Q : Option am_V → am_M → Prop} (k : am_CallN m8_within [vi a2, vi 6] KS M (fun r M' => am_AtN m7_ways 15 [some (vr 84), some (vi a1), some (vi a2)] (r.toList ++ []) KS M' Q)) : am_AtN m7_ways 9 [some (vr 84), some (vi a1), some (vi a2)] [] KS M Q := by
  refine s_iload_n (show decode (am_cc m7_ways) 9 = .ok (.iload_n 2, 1) by decide +kernel) rfl ?_
  refine s_bipush (show decode (am_cc m7_ways) 10 = .ok (.bipush 6, 2) by decide +kernel) ⟨by decide, by decide⟩ (by decide) ?_
  exact n_callN (as := [vi a2, vi 6]) (stk := []) (show decode (am_cc m7_ways) 12 = .ok (.invokestatic 45, 3) by decide +kernel) lk_RX7_45 (by decide) (Nat.le_of_ble_eq_true rfl) ⟨rfl, rfl⟩ k
theorem g7_ways_15 {a1 a2 t0 : Int} {M : am_M} {Q : Option am_V → am_M → Prop} (k1 : ¬ t0 = 0 → am_AtN m7_ways 20 [some (vr 84), some (vi a1), some (vi a2)] [] KS M Q) (k2 : t0 = 0 → am_AtN m7_ways 18 [some (vr 84), some (vi a1), some (vi a2)] [] KS M Q) : am_AtN m7_ways 15 [some (vr 84), some (vi a1), some (vi a2)] [vi t0] KS M Q := by
  exact s_if_ne (tgt := 20) (show decode (am_cc m7_ways) 15 = .ok (.ifCond .ne 5, 3) by decide +kernel) (by decide) k1 k2
theorem g7_ways_18 {a1 a2 : Int} {M : am_M} {Q : Option am_V → am_M → Prop} (k : Q (some (vl 0)) M) : am_AtN m7_ways 18 [some (vr 84), some (vi a1), some (vi a2)] [] KS M Q := by
  refine s_lconst (v := 0) (show decode (am_cc m7_ways) 18 = .ok (.lconst 0, 1) by decide +kernel) (by decide) ⟨by decide, by decide⟩ ?_
  exact s_lreturn (show decode (am_cc m7_ways) 19 = .ok (.lreturn, 1) by decide +kernel) rfl k
theorem g7_ways_20 {a1 a2 : Int} {M : am_M} {Q : Option am_V → am_M → Prop} (h1 : -2147483648 ≤ a1 * 6 ∧ a1 * 6 ≤ 2147483647) (h2 : -2147483648 ≤ (a1 * 6) + a2 ∧ (a1 * 6) + a2 ≤ 2147483647) (h3 : 0 ≤ (a1 * 6) + a2) (h4 : (a1 * 6) + a2 < 126) (k : Q (some (vl (M 85 ((a1 * 6) + a2)))) M) : am_AtN m7_ways 20 [some (vr 84), some (vi a1), some (vi a2)] [] KS M Q := by
  refine s_aload_n (show decode (am_cc m7_ways) 20 = .ok (.aload_n 0, 1) by decide +kernel) rfl ?_
  refine s_getf (k := 0) (v := vr 85) (show decode (am_cc m7_ways) 21 = .ok (.getfield 11, 3) by decide +kernel) kd84 (by decide) rfl jnX7 (by decide) lf_RX7_11 rfl ?_
  refine s_iload_n (show decode (am_cc m7_ways) 24 = .ok (.iload_n 1, 1) by decide +kernel) rfl ?_
  refine s_bipush (show decode (am_cc m7_ways) 25 = .ok (.bipush 6, 2) by decide +kernel) ⟨by decide, by decide⟩ (by decide) ?_
  refine s_imul (show decode (am_cc m7_ways) 27 = .ok (.imul, 1) by decide +kernel) h1 ?_
  refine s_iload_n (show decode (am_cc m7_ways) 28 = .ok (.iload_n 2, 1) by decide +kernel) rfl ?_
  refine s_iadd (show decode (am_cc m7_ways) 29 = .ok (.iadd, 1) by decide +kernel) h2 ?_
  refine s_laload (show decode (am_cc m7_ways) 30 = .ok (.laload, 1) by decide +kernel) kd85 h3 h4 ?_
  exact s_lreturn (show decode (am_cc m7_ways) 31 = .ok (.lreturn, 1) by decide +kernel) rfl k
theorem g7_layOut_0 {a1 a2 a3 a5 : Int} {M : am_M} {Q : Option am_V → am_M → Prop} {r0 : List Int} (h1 : am_kd KS a5 = some (5, 2, r0)) (k : am_CallN m5_empty [vr a5] KS M (fun r M' => am_AtN m7_layOut 5 [some (vr 84), some (vr a1), some (vi a2), some (vl a3), none, some (vr a5), none, none, none, none, none] (r.toList ++ []) KS M' Q)) : am_AtN m7_layOut 0 [some (vr 84), some (vr a1), some (vi a2), some (vl a3), none, some (vr a5), none, none, none, none, none] [] KS M Q := by
  refine s_aload (show decode (am_cc m7_layOut) 0 = .ok (.aload 5, 2) by decide +kernel) rfl ?_
  exact n_callV (as := []) (stk := []) (show decode (am_cc m7_layOut) 2 = .ok (.invokevirtual 49, 3) by decide +kernel) lk_RX7_49 h1 (by decide) rfl rfl (by decide) (Nat.le_of_ble_eq_true rfl) ⟨rfl, rfl⟩ k
theorem g7_layOut_5 {a1 a2 a3 a5 : Int} {M : am_M} {Q : Option am_V → am_M → Prop} (h1 : -2147483648 ≤ a2 - 1 ∧ a2 - 1 ≤ 2147483647) (k : am_AtN m7_layOut 16 [some (vr 84), some (vr a1), some (vi a2), some (vl a3), none, some (vr a5), some (vl a3), none, some (vi 0), some (vi (a2 - 1)), none] [] KS M Q) : am_AtN m7_layOut 5 [some (vr 84), some (vr a1), some (vi a2), some (vl a3), none, some (vr a5), none, none, none, none, none] [] KS M Q := by
  refine s_lload_n (show decode (am_cc m7_layOut) 5 = .ok (.lload_n 3, 1) by decide +kernel) rfl ?_
  refine s_lstore (show decode (am_cc m7_layOut) 6 = .ok (.lstore 6, 2) by decide +kernel) (by decide) ?_
  refine s_iconst (show decode (am_cc m7_layOut) 8 = .ok (.iconst 0, 1) by decide +kernel) ⟨by decide, by decide⟩ ?_
  refine s_istore (show decode (am_cc m7_layOut) 9 = .ok (.istore 8, 2) by decide +kernel) (by decide) ?_
  refine s_iload_n (show decode (am_cc m7_layOut) 11 = .ok (.iload_n 2, 1) by decide +kernel) rfl ?_
  refine s_iconst (show decode (am_cc m7_layOut) 12 = .ok (.iconst 1, 1) by decide +kernel) ⟨by decide, by decide⟩ ?_
  refine s_isub (show decode (am_cc m7_layOut) 13 = .ok (.isub, 1) by decide +kernel) h1 ?_
  refine s_istore (show decode (am_cc m7_layOut) 14 = .ok (.istore 9, 2) by decide +kernel) (by decide) ?_
  exact k
theorem g7_layOut_16 {a1 a2 a3 a5 a6 a8 a9 : Int} {M : am_M} {Q : Option am_V → am_M → Prop} (k1 : a9 < 0 → am_AtN m7_layOut 103 [some (vr 84), some (vr a1), some (vi a2), some (vl a3), none, some (vr a5), some (vl a6), none, some (vi a8), some (vi a9), none] [] KS M Q) (k2 : ¬ (a9 < 0) → am_AtN m7_layOut 21 [some (vr 84), some (vr a1), some (vi a2), some (vl a3), none, some (vr a5), some (vl a6), none, some (vi a8), some (vi a9), none] [] KS M Q) : am_AtN m7_layOut 16 [some (vr 84), some (vr a1), some (vi a2), some (vl a3), none, some (vr a5), some (vl a6), none, some (vi a8), some (vi a9), none] [] KS M Q := by
  refine s_iload (show decode (am_cc m7_layOut) 16 = .ok (.iload 9, 2) by decide +kernel) rfl ?_
  exact s_if_lt (tgt := 103) (show decode (am_cc m7_layOut) 18 = .ok (.ifCond .lt 85, 3) by decide +kernel) (by decide) k1 k2
theorem g7_layOut_21 {a1 a2 a3 a5 a6 a8 a9 : Int} {M : am_M} {Q : Option am_V → am_M → Prop} (k : am_AtN m7_layOut 24 [some (vr 84), some (vr a1), some (vi a2), some (vl a3), none, some (vr a5), some (vl a6), none, some (vi a8), some (vi a9), some (vi 0)] [] KS M Q) : am_AtN m7_layOut 21 [some (vr 84), some (vr a1), some (vi a2), some (vl a3), none, some (vr a5), some (vl a6), none, some (vi a8), some (vi a9), none] [] KS M Q := by
  refine s_iconst (show decode (am_cc m7_layOut) 21 = .ok (.iconst 0, 1) by decide +kernel) ⟨by decide, by decide⟩ ?_
  refine s_istore (show decode (am_cc m7_layOut) 22 = .ok (.istore 10, 2) by decide +kernel) (by decide) ?_
  exact k
theorem g7_layOut_24 {a1 a2 a3 a5 a6 a8 a9 a10 : Int} {M : am_M} {Q : Option am_V → am_M → Prop} (h1 : -2147483648 ≤ (M 84 1) - 1 ∧ (M 84 1) - 1 ≤ 2147483647) (k1 : (M 84 1) - 1 ≤ a10 → am_AtN m7_layOut 80 [some (vr 84), some (vr a1), some (vi a2), some (vl a3), none, some (vr a5), some (vl a6), none, some (vi a8), some (vi a9), some (vi a10)] [] KS M Q) (k2 : ¬ ((M 84 1) - 1 ≤ a10) → am_AtN m7_layOut 35 [some (vr 84), some (vr a1), some (vi a2), some (vl a3), none, some (vr a5), some (vl a6), none, some (vi a8), some (vi a9), some (vi a10)] [] KS M Q) : am_AtN m7_layOut 24 [some (vr 84), some (vr a1), some (vi a2), some (vl a3), none, some (vr a5), some (vl a6), none, some (vi a8), some (vi a9), some (vi a10)] [] KS M Q := by
  refine s_iload (show decode (am_cc m7_layOut) 24 = .ok (.iload 10, 2) by decide +kernel) rfl ?_
  refine s_aload_n (show decode (am_cc m7_layOut) 26 = .ok (.aload_n 0, 1) by decide +kernel) rfl ?_
  refine s_getf (k := 1) (v := vi (M 84 1)) (show decode (am_cc m7_layOut) 27 = .ok (.getfield 15, 3) by decide +kernel) kd84 (by decide) rfl jnX7 (by decide) lf_RX7_15 rfl ?_
  refine s_iconst (show decode (am_cc m7_layOut) 30 = .ok (.iconst 1, 1) by decide +kernel) ⟨by decide, by decide⟩ ?_
  refine s_isub (show decode (am_cc m7_layOut) 31 = .ok (.isub, 1) by decide +kernel) h1 ?_
  exact s_icmp_ge (tgt := 80) (show decode (am_cc m7_layOut) 32 = .ok (.if_icmp .ge 48, 3) by decide +kernel) (by decide) k1 k2
theorem g7_layOut_35 {a1 a2 a3 a5 a6 a8 a9 a10 : Int} {M : am_M} {Q : Option am_V → am_M → Prop} {r0 : List Int} (h1 : am_kd KS a1 = some (6, 2, r0)) (k : am_CallN m6_nextOf [vr a1, vi a8, vi a10] KS M (fun r M' => am_AtN m7_layOut 48 [some (vr 84), some (vr a1), some (vi a2), some (vl a3), none, some (vr a5), some (vl a6), none, some (vi a8), some (vi a9), some (vi a10)] (r.toList ++ [vi a9, vr 84, vl a6]) KS M' Q)) : am_AtN m7_layOut 35 [some (vr 84), some (vr a1), some (vi a2), some (vl a3), none, some (vr a5), some (vl a6), none, some (vi a8), some (vi a9), some (vi a10)] [] KS M Q := by
  refine s_lload (show decode (am_cc m7_layOut) 35 = .ok (.lload 6, 2) by decide +kernel) rfl ?_
  refine s_aload_n (show decode (am_cc m7_layOut) 37 = .ok (.aload_n 0, 1) by decide +kernel) rfl ?_
  refine s_iload (show decode (am_cc m7_layOut) 38 = .ok (.iload 9, 2) by decide +kernel) rfl ?_
  refine s_aload_n (show decode (am_cc m7_layOut) 40 = .ok (.aload_n 1, 1) by decide +kernel) rfl ?_
  refine s_iload (show decode (am_cc m7_layOut) 41 = .ok (.iload 8, 2) by decide +kernel) rfl ?_
  refine s_iload (show decode (am_cc m7_layOut) 43 = .ok (.iload 10, 2) by decide +kernel) rfl ?_
  exact n_callV (as := [vi a8, vi a10]) (stk := [vi a9, vr 84, vl a6]) (show decode (am_cc m7_layOut) 45 = .ok (.invokevirtual 37, 3) by decide +kernel) lk_RX7_37 h1 (by decide) rfl rfl (by decide) (Nat.le_of_ble_eq_true rfl) ⟨rfl, rfl⟩ k
theorem g7_layOut_48 {a1 a2 a3 a5 a6 a8 a9 a10 t0 t1 t2 t3 : Int} {M : am_M} {Q : Option am_V → am_M → Prop} {r0 : List Int} (h1 : am_kd KS t1 = some (7, 2, r0)) (k : am_CallN m7_ways [vr t1, vi t2, vi t3] KS M (fun r M' => am_AtN m7_layOut 51 [some (vr 84), some (vr a1), some (vi a2), some (vl a3), none, some (vr a5), some (vl a6), none, some (vi a8), some (vi a9), some (vi a10)] (r.toList ++ [vl t0]) KS M' Q)) : am_AtN m7_layOut 48 [some (vr 84), some (vr a1), some (vi a2), some (vl a3), none, some (vr a5), some (vl a6), none, some (vi a8), some (vi a9), some (vi a10)] [vi t3, vi t2, vr t1, vl t0] KS M Q := by
  exact n_callV (as := [vi t2, vi t3]) (stk := [vl t0]) (show decode (am_cc m7_layOut) 48 = .ok (.invokevirtual 41, 3) by decide +kernel) lk_RX7_41 h1 (by decide) rfl rfl (by decide) (Nat.le_of_ble_eq_true rfl) ⟨rfl, rfl⟩ k
theorem g7_layOut_51 {a1 a2 a3 a5 a6 a8 a9 a10 t0 t1 : Int} {M : am_M} {Q : Option am_V → am_M → Prop} (k1 : t0 < t1 → am_AtN m7_layOut 80 [some (vr 84), some (vr a1), some (vi a2), some (vl a3), none, some (vr a5), some (vl a6), none, some (vi a8), some (vi a9), some (vi a10)] [] KS M Q) (k2 : ¬ t0 < t1 → am_AtN m7_layOut 55 [some (vr 84), some (vr a1), some (vi a2), some (vl a3), none, some (vr a5), some (vl a6), none, some (vi a8), some (vi a9), some (vi a10)] [] KS M Q) : am_AtN m7_layOut 51 [some (vr 84), some (vr a1), some (vi a2), some (vl a3), none, some (vr a5), some (vl a6), none, some (vi a8), some (vi a9), some (vi a10)] [vl t1, vl t0] KS M Q := by
  exact s_lcif_lt (tgt := 80) (show decode (am_cc m7_layOut) 51 = .ok (.lcmp, 1) by decide +kernel) (show decode (am_cc m7_layOut) 52 = .ok (.ifCond .lt 28, 3) by decide +kernel) (by decide) k1 k2
theorem g7_layOut_55 {a1 a2 a3 a5 a6 a8 a9 a10 : Int} {M : am_M} {Q : Option am_V → am_M → Prop} {r0 : List Int} (h1 : am_kd KS a1 = some (6, 2, r0)) (k : am_CallN m6_nextOf [vr a1, vi a8, vi a10] KS M (fun r M' => am_AtN m7_layOut 68 [some (vr 84), some (vr a1), some (vi a2), some (vl a3), none, some (vr a5), some (vl a6), none, some (vi a8), some (vi a9), some (vi a10)] (r.toList ++ [vi a9, vr 84, vl a6]) KS M' Q)) : am_AtN m7_layOut 55 [some (vr 84), some (vr a1), some (vi a2), some (vl a3), none, some (vr a5), some (vl a6), none, some (vi a8), some (vi a9), some (vi a10)] [] KS M Q := by
  refine s_lload (show decode (am_cc m7_layOut) 55 = .ok (.lload 6, 2) by decide +kernel) rfl ?_
  refine s_aload_n (show decode (am_cc m7_layOut) 57 = .ok (.aload_n 0, 1) by decide +kernel) rfl ?_
  refine s_iload (show decode (am_cc m7_layOut) 58 = .ok (.iload 9, 2) by decide +kernel) rfl ?_
  refine s_aload_n (show decode (am_cc m7_layOut) 60 = .ok (.aload_n 1, 1) by decide +kernel) rfl ?_
  refine s_iload (show decode (am_cc m7_layOut) 61 = .ok (.iload 8, 2) by decide +kernel) rfl ?_
  refine s_iload (show decode (am_cc m7_layOut) 63 = .ok (.iload 10, 2) by decide +kernel) rfl ?_
  exact n_callV (as := [vi a8, vi a10]) (stk := [vi a9, vr 84, vl a6]) (show decode (am_cc m7_layOut) 65 = .ok (.invokevirtual 37, 3) by decide +kernel) lk_RX7_37 h1 (by decide) rfl rfl (by decide) (Nat.le_of_ble_eq_true rfl) ⟨rfl, rfl⟩ k
theorem g7_layOut_68 {a1 a2 a3 a5 a6 a8 a9 a10 t0 t1 t2 t3 : Int} {M : am_M} {Q : Option am_V → am_M → Prop} {r0 : List Int} (h1 : am_kd KS t1 = some (7, 2, r0)) (k : am_CallN m7_ways [vr t1, vi t2, vi t3] KS M (fun r M' => am_AtN m7_layOut 71 [some (vr 84), some (vr a1), some (vi a2), some (vl a3), none, some (vr a5), some (vl a6), none, some (vi a8), some (vi a9), some (vi a10)] (r.toList ++ [vl t0]) KS M' Q)) : am_AtN m7_layOut 68 [some (vr 84), some (vr a1), some (vi a2), some (vl a3), none, some (vr a5), some (vl a6), none, some (vi a8), some (vi a9), some (vi a10)] [vi t3, vi t2, vr t1, vl t0] KS M Q := by
  exact n_callV (as := [vi t2, vi t3]) (stk := [vl t0]) (show decode (am_cc m7_layOut) 68 = .ok (.invokevirtual 41, 3) by decide +kernel) lk_RX7_41 h1 (by decide) rfl rfl (by decide) (Nat.le_of_ble_eq_true rfl) ⟨rfl, rfl⟩ k
theorem g7_layOut_71 {a1 a2 a3 a5 a6 a8 a9 a10 t0 t1 : Int} {M : am_M} {Q : Option am_V → am_M → Prop} (h1 : -9223372036854775808 ≤ t0 - t1 ∧ t0 - t1 ≤ 9223372036854775807) (h2 : -2147483648 ≤ a10 + 1 ∧ a10 + 1 ≤ 2147483647) (k : am_AtN m7_layOut 24 [some (vr 84), some (vr a1), some (vi a2), some (vl a3), none, some (vr a5), some (vl (t0 - t1)), none, some (vi a8), some (vi a9), some (vi (a10 + 1))] [] KS M Q) : am_AtN m7_layOut 71 [some (vr 84), some (vr a1), some (vi a2), some (vl a3), none, some (vr a5), some (vl a6), none, some (vi a8), some (vi a9), some (vi a10)] [vl t1, vl t0] KS M Q := by
  refine s_lsub (show decode (am_cc m7_layOut) 71 = .ok (.lsub, 1) by decide +kernel) h1 ?_
  refine s_lstore (show decode (am_cc m7_layOut) 72 = .ok (.lstore 6, 2) by decide +kernel) (by decide) ?_
  refine s_iinc (show decode (am_cc m7_layOut) 74 = .ok (.iinc 10 1, 3) by decide +kernel) rfl (by decide) h2 ?_
  refine s_goto (tgt := 24) (show decode (am_cc m7_layOut) 77 = .ok (.goto (-53), 3) by decide +kernel) (by decide) ?_
  exact k
theorem g7_layOut_80 {a1 a2 a3 a5 a6 a8 a9 a10 : Int} {M : am_M} {Q : Option am_V → am_M → Prop} {r0 : List Int} (h1 : am_kd KS a5 = some (5, 2, r0)) (k : am_CallN m5_add [vr a5, vi a10] KS M (fun r M' => am_AtN m7_layOut 87 [some (vr 84), some (vr a1), some (vi a2), some (vl a3), none, some (vr a5), some (vl a6), none, some (vi a8), some (vi a9), some (vi a10)] (r.toList ++ []) KS M' Q)) : am_AtN m7_layOut 80 [some (vr 84), some (vr a1), some (vi a2), some (vl a3), none, some (vr a5), some (vl a6), none, some (vi a8), some (vi a9), some (vi a10)] [] KS M Q := by
  refine s_aload (show decode (am_cc m7_layOut) 80 = .ok (.aload 5, 2) by decide +kernel) rfl ?_
  refine s_iload (show decode (am_cc m7_layOut) 82 = .ok (.iload 10, 2) by decide +kernel) rfl ?_
  exact n_callV (as := [vi a10]) (stk := []) (show decode (am_cc m7_layOut) 84 = .ok (.invokevirtual 54, 3) by decide +kernel) lk_RX7_54 h1 (by decide) rfl rfl (by decide) (Nat.le_of_ble_eq_true rfl) ⟨rfl, rfl⟩ k
theorem g7_layOut_87 {a1 a2 a3 a5 a6 a8 a9 a10 : Int} {M : am_M} {Q : Option am_V → am_M → Prop} {r0 : List Int} (h1 : am_kd KS a1 = some (6, 2, r0)) (k : am_CallN m6_nextOf [vr a1, vi a8, vi a10] KS M (fun r M' => am_AtN m7_layOut 95 [some (vr 84), some (vr a1), some (vi a2), some (vl a3), none, some (vr a5), some (vl a6), none, some (vi a8), some (vi a9), some (vi a10)] (r.toList ++ []) KS M' Q)) : am_AtN m7_layOut 87 [some (vr 84), some (vr a1), some (vi a2), some (vl a3), none, some (vr a5), some (vl a6), none, some (vi a8), some (vi a9), some (vi a10)] [] KS M Q := by
  refine s_aload_n (show decode (am_cc m7_layOut) 87 = .ok (.aload_n 1, 1) by decide +kernel) rfl ?_
  refine s_iload (show decode (am_cc m7_layOut) 88 = .ok (.iload 8, 2) by decide +kernel) rfl ?_
  refine s_iload (show decode (am_cc m7_layOut) 90 = .ok (.iload 10, 2) by decide +kernel) rfl ?_
  exact n_callV (as := [vi a8, vi a10]) (stk := []) (show decode (am_cc m7_layOut) 92 = .ok (.invokevirtual 37, 3) by decide +kernel) lk_RX7_37 h1 (by decide) rfl rfl (by decide) (Nat.le_of_ble_eq_true rfl) ⟨rfl, rfl⟩ k
theorem g7_layOut_95 {a1 a2 a3 a5 a6 a8 a9 a10 t0 : Int} {M : am_M} {Q : Option am_V → am_M → Prop} (h1 : -2147483648 ≤ a9 + (-1) ∧ a9 + (-1) ≤ 2147483647) (k : am_AtN m7_layOut 16 [some (vr 84), some (vr a1), some (vi a2), some (vl a3), none, some (vr a5), some (vl a6), none, some (vi t0), some (vi (a9 + (-1))), none] [] KS M Q) : am_AtN m7_layOut 95 [some (vr 84), some (vr a1), some (vi a2), some (vl a3), none, some (vr a5), some (vl a6), none, some (vi a8), some (vi a9), some (vi a10)] [vi t0] KS M Q := by
  refine s_istore (show decode (am_cc m7_layOut) 95 = .ok (.istore 8, 2) by decide +kernel) (by decide) ?_
  refine s_iinc (show decode (am_cc m7_layOut) 97 = .ok (.iinc 9 (-1), 3) by decide +kernel) rfl (by decide) h1 ?_
  refine s_goto (tgt := 16) (show decode (am_cc m7_layOut) 100 = .ok (.goto (-84), 3) by decide +kernel) (by decide) ?_
  refine am_fg 10 ?_
  exact k
theorem g7_layOut_103 {a1 a2 a3 a5 a6 a8 a9 : Int} {M : am_M} {Q : Option am_V → am_M → Prop} (k : Q none M) : am_AtN m7_layOut 103 [some (vr 84), some (vr a1), some (vi a2), some (vl a3), none, some (vr a5), some (vl a6), none, some (vi a8), some (vi a9), none] [] KS M Q := by
  exact s_return (show decode (am_cc m7_layOut) 103 = .ok (.return_, 1) by decide +kernel) rfl k
theorem g7_placeOf_0 {a1 a2 : Int} {M : am_M} {Q : Option am_V → am_M → Prop} (k : am_AtN m7_placeOf 8 [some (vr 84), some (vr a1), some (vr a2), some (vl 0), none, some (vi 0), some (vi 0), none, none] [] KS M Q) : am_AtN m7_placeOf 0 [some (vr 84), some (vr a1), some (vr a2), none, none, none, none, none, none] [] KS M Q := by
  refine s_lconst (v := 0) (show decode (am_cc m7_placeOf) 0 = .ok (.lconst 0, 1) by decide +kernel) (by decide) ⟨by decide, by decide⟩ ?_
  refine s_lstore_n (show decode (am_cc m7_placeOf) 1 = .ok (.lstore_n 3, 1) by decide +kernel) (by decide) ?_
  refine s_iconst (show decode (am_cc m7_placeOf) 2 = .ok (.iconst 0, 1) by decide +kernel) ⟨by decide, by decide⟩ ?_
  refine s_istore (show decode (am_cc m7_placeOf) 3 = .ok (.istore 5, 2) by decide +kernel) (by decide) ?_
  refine s_iconst (show decode (am_cc m7_placeOf) 5 = .ok (.iconst 0, 1) by decide +kernel) ⟨by decide, by decide⟩ ?_
  refine s_istore (show decode (am_cc m7_placeOf) 6 = .ok (.istore 6, 2) by decide +kernel) (by decide) ?_
  exact k
theorem g7_placeOf_8 {a1 a2 a3 a5 a6 : Int} {M : am_M} {Q : Option am_V → am_M → Prop} {r0 : List Int} (h1 : am_kd KS a2 = some (5, 2, r0)) (k : am_CallN m5_size [vr a2] KS M (fun r M' => am_AtN m7_placeOf 14 [some (vr 84), some (vr a1), some (vr a2), some (vl a3), none, some (vi a5), some (vi a6), none, none] (r.toList ++ [vi a6]) KS M' Q)) : am_AtN m7_placeOf 8 [some (vr 84), some (vr a1), some (vr a2), some (vl a3), none, some (vi a5), some (vi a6), none, none] [] KS M Q := by
  refine s_iload (show decode (am_cc m7_placeOf) 8 = .ok (.iload 6, 2) by decide +kernel) rfl ?_
  refine s_aload_n (show decode (am_cc m7_placeOf) 10 = .ok (.aload_n 2, 1) by decide +kernel) rfl ?_
  exact n_callV (as := []) (stk := [vi a6]) (show decode (am_cc m7_placeOf) 11 = .ok (.invokevirtual 58, 3) by decide +kernel) lk_RX7_58 h1 (by decide) rfl rfl (by decide) (Nat.le_of_ble_eq_true rfl) ⟨rfl, rfl⟩ k
theorem g7_placeOf_14 {a1 a2 a3 a5 a6 t0 t1 : Int} {M : am_M} {Q : Option am_V → am_M → Prop} (k1 : t1 ≤ t0 → am_AtN m7_placeOf 85 [some (vr 84), some (vr a1), some (vr a2), some (vl a3), none, some (vi a5), some (vi a6), none, none] [] KS M Q) (k2 : ¬ (t1 ≤ t0) → am_AtN m7_placeOf 17 [some (vr 84), some (vr a1), some (vr a2), some (vl a3), none, some (vi a5), some (vi a6), none, none] [] KS M Q) : am_AtN m7_placeOf 14 [some (vr 84), some (vr a1), some (vr a2), some (vl a3), none, some (vi a5), some (vi a6), none, none] [vi t1, vi t0] KS M Q := by
  exact s_icmp_ge (tgt := 85) (show decode (am_cc m7_placeOf) 14 = .ok (.if_icmp .ge 71, 3) by decide +kernel) (by decide) k1 k2
theorem g7_placeOf_17 {a1 a2 a3 a5 a6 : Int} {M : am_M} {Q : Option am_V → am_M → Prop} {r0 : List Int} (h1 : am_kd KS a2 = some (5, 2, r0)) (k : am_CallN m5_size [vr a2] KS M (fun r M' => am_AtN m7_placeOf 21 [some (vr 84), some (vr a1), some (vr a2), some (vl a3), none, some (vi a5), some (vi a6), none, none] (r.toList ++ []) KS M' Q)) : am_AtN m7_placeOf 17 [some (vr 84), some (vr a1), some (vr a2), some (vl a3), none, some (vi a5), some (vi a6), none, none] [] KS M Q := by
  refine s_aload_n (show decode (am_cc m7_placeOf) 17 = .ok (.aload_n 2, 1) by decide +kernel) rfl ?_
  exact n_callV (as := []) (stk := []) (show decode (am_cc m7_placeOf) 18 = .ok (.invokevirtual 58, 3) by decide +kernel) lk_RX7_58 h1 (by decide) rfl rfl (by decide) (Nat.le_of_ble_eq_true rfl) ⟨rfl, rfl⟩ k
theorem g7_placeOf_21 {a1 a2 a3 a5 a6 t0 : Int} {M : am_M} {Q : Option am_V → am_M → Prop} (h1 : -2147483648 ≤ t0 - 1 ∧ t0 - 1 ≤ 2147483647) (h2 : -2147483648 ≤ (t0 - 1) - a6 ∧ (t0 - 1) - a6 ≤ 2147483647) (k : am_AtN m7_placeOf 31 [some (vr 84), some (vr a1), some (vr a2), some (vl a3), none, some (vi a5), some (vi a6), some (vi ((t0 - 1) - a6)), some (vi 0)] [] KS M Q) : am_AtN m7_placeOf 21 [some (vr 84), some (vr a1), some (vr a2), some (vl a3), none, some (vi a5), some (vi a6), none, none] [vi t0] KS M Q := by
  refine s_iconst (show decode (am_cc m7_placeOf) 21 = .ok (.iconst 1, 1) by decide +kernel) ⟨by decide, by decide⟩ ?_
  refine s_isub (show decode (am_cc m7_placeOf) 22 = .ok (.isub, 1) by decide +kernel) h1 ?_
  refine s_iload (show decode (am_cc m7_placeOf) 23 = .ok (.iload 6, 2) by decide +kernel) rfl ?_
  refine s_isub (show decode (am_cc m7_placeOf) 25 = .ok (.isub, 1) by decide +kernel) h2 ?_
  refine s_istore (show decode (am_cc m7_placeOf) 26 = .ok (.istore 7, 2) by decide +kernel) (by decide) ?_
  refine s_iconst (show decode (am_cc m7_placeOf) 28 = .ok (.iconst 0, 1) by decide +kernel) ⟨by decide, by decide⟩ ?_
  refine s_istore (show decode (am_cc m7_placeOf) 29 = .ok (.istore 8, 2) by decide +kernel) (by decide) ?_
  exact k
theorem g7_placeOf_31 {a1 a2 a3 a5 a6 a7 a8 : Int} {M : am_M} {Q : Option am_V → am_M → Prop} {r0 : List Int} (h1 : am_kd KS a2 = some (5, 2, r0)) (k : am_CallN m5_letterAt [vr a2, vi a6] KS M (fun r M' => am_AtN m7_placeOf 39 [some (vr 84), some (vr a1), some (vr a2), some (vl a3), none, some (vi a5), some (vi a6), some (vi a7), some (vi a8)] (r.toList ++ [vi a8]) KS M' Q)) : am_AtN m7_placeOf 31 [some (vr 84), some (vr a1), some (vr a2), some (vl a3), none, some (vi a5), some (vi a6), some (vi a7), some (vi a8)] [] KS M Q := by
  refine s_iload (show decode (am_cc m7_placeOf) 31 = .ok (.iload 8, 2) by decide +kernel) rfl ?_
  refine s_aload_n (show decode (am_cc m7_placeOf) 33 = .ok (.aload_n 2, 1) by decide +kernel) rfl ?_
  refine s_iload (show decode (am_cc m7_placeOf) 34 = .ok (.iload 6, 2) by decide +kernel) rfl ?_
  exact n_callV (as := [vi a6]) (stk := [vi a8]) (show decode (am_cc m7_placeOf) 36 = .ok (.invokevirtual 62, 3) by decide +kernel) lk_RX7_62 h1 (by decide) rfl rfl (by decide) (Nat.le_of_ble_eq_true rfl) ⟨rfl, rfl⟩ k
theorem g7_placeOf_39 {a1 a2 a3 a5 a6 a7 a8 t0 t1 : Int} {M : am_M} {Q : Option am_V → am_M → Prop} (k1 : t1 ≤ t0 → am_AtN m7_placeOf 65 [some (vr 84), some (vr a1), some (vr a2), some (vl a3), none, some (vi a5), some (vi a6), some (vi a7), some (vi a8)] [] KS M Q) (k2 : ¬ (t1 ≤ t0) → am_AtN m7_placeOf 42 [some (vr 84), some (vr a1), some (vr a2), some (vl a3), none, some (vi a5), some (vi a6), some (vi a7), some (vi a8)] [] KS M Q) : am_AtN m7_placeOf 39 [some (vr 84), some (vr a1), some (vr a2), some (vl a3), none, some (vi a5), some (vi a6), some (vi a7), some (vi a8)] [vi t1, vi t0] KS M Q := by
  exact s_icmp_ge (tgt := 65) (show decode (am_cc m7_placeOf) 39 = .ok (.if_icmp .ge 26, 3) by decide +kernel) (by decide) k1 k2
theorem g7_placeOf_42 {a1 a2 a3 a5 a6 a7 a8 : Int} {M : am_M} {Q : Option am_V → am_M → Prop} {r0 : List Int} (h1 : am_kd KS a1 = some (6, 2, r0)) (k : am_CallN m6_nextOf [vr a1, vi a5, vi a8] KS M (fun r M' => am_AtN m7_placeOf 54 [some (vr 84), some (vr a1), some (vr a2), some (vl a3), none, some (vi a5), some (vi a6), some (vi a7), some (vi a8)] (r.toList ++ [vi a7, vr 84, vl a3]) KS M' Q)) : am_AtN m7_placeOf 42 [some (vr 84), some (vr a1), some (vr a2), some (vl a3), none, some (vi a5), some (vi a6), some (vi a7), some (vi a8)] [] KS M Q := by
  refine s_lload_n (show decode (am_cc m7_placeOf) 42 = .ok (.lload_n 3, 1) by decide +kernel) rfl ?_
  refine s_aload_n (show decode (am_cc m7_placeOf) 43 = .ok (.aload_n 0, 1) by decide +kernel) rfl ?_
  refine s_iload (show decode (am_cc m7_placeOf) 44 = .ok (.iload 7, 2) by decide +kernel) rfl ?_
  refine s_aload_n (show decode (am_cc m7_placeOf) 46 = .ok (.aload_n 1, 1) by decide +kernel) rfl ?_
  refine s_iload (show decode (am_cc m7_placeOf) 47 = .ok (.iload 5, 2) by decide +kernel) rfl ?_
  refine s_iload (show decode (am_cc m7_placeOf) 49 = .ok (.iload 8, 2) by decide +kernel) rfl ?_
  exact n_callV (as := [vi a5, vi a8]) (stk := [vi a7, vr 84, vl a3]) (show decode (am_cc m7_placeOf) 51 = .ok (.invokevirtual 37, 3) by decide +kernel) lk_RX7_37 h1 (by decide) rfl rfl (by decide) (Nat.le_of_ble_eq_true rfl) ⟨rfl, rfl⟩ k
theorem g7_placeOf_54 {a1 a2 a3 a5 a6 a7 a8 t0 t1 t2 t3 : Int} {M : am_M} {Q : Option am_V → am_M → Prop} {r0 : List Int} (h1 : am_kd KS t1 = some (7, 2, r0)) (k : am_CallN m7_ways [vr t1, vi t2, vi t3] KS M (fun r M' => am_AtN m7_placeOf 57 [some (vr 84), some (vr a1), some (vr a2), some (vl a3), none, some (vi a5), some (vi a6), some (vi a7), some (vi a8)] (r.toList ++ [vl t0]) KS M' Q)) : am_AtN m7_placeOf 54 [some (vr 84), some (vr a1), some (vr a2), some (vl a3), none, some (vi a5), some (vi a6), some (vi a7), some (vi a8)] [vi t3, vi t2, vr t1, vl t0] KS M Q := by
  exact n_callV (as := [vi t2, vi t3]) (stk := [vl t0]) (show decode (am_cc m7_placeOf) 54 = .ok (.invokevirtual 41, 3) by decide +kernel) lk_RX7_41 h1 (by decide) rfl rfl (by decide) (Nat.le_of_ble_eq_true rfl) ⟨rfl, rfl⟩ k
theorem g7_placeOf_57 {a1 a2 a3 a5 a6 a7 a8 t0 t1 : Int} {M : am_M} {Q : Option am_V → am_M → Prop} (h1 : -9223372036854775808 ≤ t0 + t1 ∧ t0 + t1 ≤ 9223372036854775807) (h2 : -2147483648 ≤ a8 + 1 ∧ a8 + 1 ≤ 2147483647) (k : am_AtN m7_placeOf 31 [some (vr 84), some (vr a1), some (vr a2), some (vl (t0 + t1)), none, some (vi a5), some (vi a6), some (vi a7), some (vi (a8 + 1))] [] KS M Q) : am_AtN m7_placeOf 57 [some (vr 84), some (vr a1), some (vr a2), some (vl a3), none, some (vi a5), some (vi a6), some (vi a7), some (vi a8)] [vl t1, vl t0] KS M Q := by
  refine s_ladd (show decode (am_cc m7_placeOf) 57 = .ok (.ladd, 1) by decide +kernel) h1 ?_
  refine s_lstore_n (show decode (am_cc m7_placeOf) 58 = .ok (.lstore_n 3, 1) by decide +kernel) (by decide) ?_
  refine s_iinc (show decode (am_cc m7_placeOf) 59 = .ok (.iinc 8 1, 3) by decide +kernel) rfl (by decide) h2 ?_
  refine s_goto (tgt := 31) (show decode (am_cc m7_placeOf) 62 = .ok (.goto (-31), 3) by decide +kernel) (by decide) ?_
  exact k
theorem g7_placeOf_65 {a1 a2 a3 a5 a6 a7 a8 : Int} {M : am_M} {Q : Option am_V → am_M → Prop} {r0 : List Int} (h1 : am_kd KS a2 = some (5, 2, r0)) (k : am_CallN m5_letterAt [vr a2, vi a6] KS M (fun r M' => am_AtN m7_placeOf 74 [some (vr 84), some (vr a1), some (vr a2), some (vl a3), none, some (vi a5), some (vi a6), some (vi a7), some (vi a8)] (r.toList ++ [vi a5, vr a1]) KS M' Q)) : am_AtN m7_placeOf 65 [some (vr 84), some (vr a1), some (vr a2), some (vl a3), none, some (vi a5), some (vi a6), some (vi a7), some (vi a8)] [] KS M Q := by
  refine s_aload_n (show decode (am_cc m7_placeOf) 65 = .ok (.aload_n 1, 1) by decide +kernel) rfl ?_
  refine s_iload (show decode (am_cc m7_placeOf) 66 = .ok (.iload 5, 2) by decide +kernel) rfl ?_
  refine s_aload_n (show decode (am_cc m7_placeOf) 68 = .ok (.aload_n 2, 1) by decide +kernel) rfl ?_
  refine s_iload (show decode (am_cc m7_placeOf) 69 = .ok (.iload 6, 2) by decide +kernel) rfl ?_
  exact n_callV (as := [vi a6]) (stk := [vi a5, vr a1]) (show decode (am_cc m7_placeOf) 71 = .ok (.invokevirtual 62, 3) by decide +kernel) lk_RX7_62 h1 (by decide) rfl rfl (by decide) (Nat.le_of_ble_eq_true rfl) ⟨rfl, rfl⟩ k
theorem g7_placeOf_74 {a1 a2 a3 a5 a6 a7 a8 t0 t1 t2 : Int} {M : am_M} {Q : Option am_V → am_M → Prop} {r0 : List Int} (h1 : am_kd KS t0 = some (6, 2, r0)) (k : am_CallN m6_nextOf [vr t0, vi t1, vi t2] KS M (fun r M' => am_AtN m7_placeOf 77 [some (vr 84), some (vr a1), some (vr a2), some (vl a3), none, some (vi a5), some (vi a6), some (vi a7), some (vi a8)] (r.toList ++ []) KS M' Q)) : am_AtN m7_placeOf 74 [some (vr 84), some (vr a1), some (vr a2), some (vl a3), none, some (vi a5), some (vi a6), some (vi a7), some (vi a8)] [vi t2, vi t1, vr t0] KS M Q := by
  exact n_callV (as := [vi t1, vi t2]) (stk := []) (show decode (am_cc m7_placeOf) 74 = .ok (.invokevirtual 37, 3) by decide +kernel) lk_RX7_37 h1 (by decide) rfl rfl (by decide) (Nat.le_of_ble_eq_true rfl) ⟨rfl, rfl⟩ k
theorem g7_placeOf_77 {a1 a2 a3 a5 a6 a7 a8 t0 : Int} {M : am_M} {Q : Option am_V → am_M → Prop} (h1 : -2147483648 ≤ a6 + 1 ∧ a6 + 1 ≤ 2147483647) (k : am_AtN m7_placeOf 8 [some (vr 84), some (vr a1), some (vr a2), some (vl a3), none, some (vi t0), some (vi (a6 + 1)), none, none] [] KS M Q) : am_AtN m7_placeOf 77 [some (vr 84), some (vr a1), some (vr a2), some (vl a3), none, some (vi a5), some (vi a6), some (vi a7), some (vi a8)] [vi t0] KS M Q := by
  refine s_istore (show decode (am_cc m7_placeOf) 77 = .ok (.istore 5, 2) by decide +kernel) (by decide) ?_
  refine s_iinc (show decode (am_cc m7_placeOf) 79 = .ok (.iinc 6 1, 3) by decide +kernel) rfl (by decide) h1 ?_
  refine s_goto (tgt := 8) (show decode (am_cc m7_placeOf) 82 = .ok (.goto (-74), 3) by decide +kernel) (by decide) ?_
  refine am_fg 7 ?_
  refine am_fg 8 ?_
  exact k
theorem g7_placeOf_85 {a1 a2 a3 a5 a6 : Int} {M : am_M} {Q : Option am_V → am_M → Prop} (k : Q (some (vl a3)) M) : am_AtN m7_placeOf 85 [some (vr 84), some (vr a1), some (vr a2), some (vl a3), none, some (vi a5), some (vi a6), none, none] [] KS M Q := by
  refine s_lload_n (show decode (am_cc m7_placeOf) 85 = .ok (.lload_n 3, 1) by decide +kernel) rfl ?_
  exact s_lreturn (show decode (am_cc m7_placeOf) 86 = .ok (.lreturn, 1) by decide +kernel) rfl k
theorem g1_shortestUneven_0 {a1 a2 a3 a4 : Int} {M : am_M} {Q : Option am_V → am_M → Prop} (k : am_CallN mJ_fill [vr 70, vi 0] KS M (fun r M' => am_AtN m1_shortestUneven 8 [some (vr 69), some (vr a1), some (vr a2), some (vi a3), some (vi a4), none, none, none, none, none] (r.toList ++ []) KS M' Q)) : am_AtN m1_shortestUneven 0 [some (vr 69), some (vr a1), some (vr a2), some (vi a3), some (vi a4), none, none, none, none, none] [] KS M Q := by
  refine s_aload_n (show decode (am_cc m1_shortestUneven) 0 = .ok (.aload_n 0, 1) by decide +kernel) rfl ?_
  refine s_getf (k := 0) (v := vr 70) (show decode (am_cc m1_shortestUneven) 1 = .ok (.getfield 11, 3) by decide +kernel) kd69 (by decide) rfl jnX1 (by decide) lf_RX1_11 rfl ?_
  refine s_iconst (show decode (am_cc m1_shortestUneven) 4 = .ok (.iconst 0, 1) by decide +kernel) ⟨by decide, by decide⟩ ?_
  exact n_callS (as := [vr 70, vi 0]) (stk := []) (show decode (am_cc m1_shortestUneven) 5 = .ok (.invokestatic 31, 3) by decide +kernel) lk_RX1_31 (by decide) (Nat.le_of_ble_eq_true rfl) ⟨rfl, rfl⟩ k
theorem g1_shortestUneven_8 {a1 a2 a3 a4 : Int} {M : am_M} {Q : Option am_V → am_M → Prop} (k : am_CallN m1_keep [vr 69, vi 0, vi 0, vi 0] KS (am_up M 69 5 0) (fun r M' => am_AtN m1_shortestUneven 20 [some (vr 69), some (vr a1), some (vr a2), some (vi a3), some (vi a4), none, none, none, none, none] (r.toList ++ []) KS M' Q)) : am_AtN m1_shortestUneven 8 [some (vr 69), some (vr a1), some (vr a2), some (vi a3), some (vi a4), none, none, none, none, none] [] KS M Q := by
  refine s_aload_n (show decode (am_cc m1_shortestUneven) 8 = .ok (.aload_n 0, 1) by decide +kernel) rfl ?_
  refine s_iconst (show decode (am_cc m1_shortestUneven) 9 = .ok (.iconst 0, 1) by decide +kernel) ⟨by decide, by decide⟩ ?_
  refine s_putf (k := 5) (x := 0) (ty0 := tyX1) (show decode (am_cc m1_shortestUneven) 10 = .ok (.putfield 27, 3) by decide +kernel) kd69 (by decide) rfl jnX1 tyX1_ok nmX1 (by decide) lf_RX1_27 rfl (Or.inl ⟨rfl, rfl, rfl⟩) ?_
  refine s_aload_n (show decode (am_cc m1_shortestUneven) 13 = .ok (.aload_n 0, 1) by decide +kernel) rfl ?_
  refine s_iconst (show decode (am_cc m1_shortestUneven) 14 = .ok (.iconst 0, 1) by decide +kernel) ⟨by decide, by decide⟩ ?_
  refine s_iconst (show decode (am_cc m1_shortestUneven) 15 = .ok (.iconst 0, 1) by decide +kernel) ⟨by decide, by decide⟩ ?_
  refine s_iconst (show decode (am_cc m1_shortestUneven) 16 = .ok (.iconst 0, 1) by decide +kernel) ⟨by decide, by decide⟩ ?_
  exact n_callV (as := [vi 0, vi 0, vi 0]) (stk := []) (show decode (am_cc m1_shortestUneven) 17 = .ok (.invokevirtual 37, 3) by decide +kernel) lk_RX1_37 kd69 (by decide) rfl rfl (by decide) (Nat.le_of_ble_eq_true rfl) ⟨rfl, rfl⟩ k
theorem g1_shortestUneven_20 {a1 a2 a3 a4 : Int} {M : am_M} {Q : Option am_V → am_M → Prop} (k : am_AtN m1_shortestUneven 23 [some (vr 69), some (vr a1), some (vr a2), some (vi a3), some (vi a4), some (vi 0), none, none, none, none] [] KS M Q) : am_AtN m1_shortestUneven 20 [some (vr 69), some (vr a1), some (vr a2), some (vi a3), some (vi a4), none, none, none, none, none] [] KS M Q := by
  refine s_iconst (show decode (am_cc m1_shortestUneven) 20 = .ok (.iconst 0, 1) by decide +kernel) ⟨by decide, by decide⟩ ?_
  refine s_istore (show decode (am_cc m1_shortestUneven) 21 = .ok (.istore 5, 2) by decide +kernel) (by decide) ?_
  exact k
theorem g1_shortestUneven_23 {a1 a2 a3 a4 a5 : Int} {M : am_M} {Q : Option am_V → am_M → Prop} (k1 : M 69 5 ≤ a5 → am_AtN m1_shortestUneven 188 [some (vr 69), some (vr a1), some (vr a2), some (vi a3), some (vi a4), some (vi a5), none, none, none, none] [] KS M Q) (k2 : ¬ (M 69 5 ≤ a5) → am_AtN m1_shortestUneven 32 [some (vr 69), some (vr a1), some (vr a2), some (vi a3), some (vi a4), some (vi a5), none, none, none, none] [] KS M Q) : am_AtN m1_shortestUneven 23 [some (vr 69), some (vr a1), some (vr a2), some (vi a3), some (vi a4), some (vi a5), none, none, none, none] [] KS M Q := by
  refine s_iload (show decode (am_cc m1_shortestUneven) 23 = .ok (.iload 5, 2) by decide +kernel) rfl ?_
  refine s_aload_n (show decode (am_cc m1_shortestUneven) 25 = .ok (.aload_n 0, 1) by decide +kernel) rfl ?_
  refine s_getf (k := 5) (v := vi (M 69 5)) (show decode (am_cc m1_shortestUneven) 26 = .ok (.getfield 27, 3) by decide +kernel) kd69 (by decide) rfl jnX1 (by decide) lf_RX1_27 rfl ?_
  exact s_icmp_ge (tgt := 188) (show decode (am_cc m1_shortestUneven) 29 = .ok (.if_icmp .ge 159, 3) by decide +kernel) (by decide) k1 k2
theorem g1_shortestUneven_32 {a1 a2 a3 a4 a5 : Int} {M : am_M} {Q : Option am_V → am_M → Prop} (k1 : 72 ≤ a5 → am_AtN m1_shortestUneven 188 [some (vr 69), some (vr a1), some (vr a2), some (vi a3), some (vi a4), some (vi a5), none, none, none, none] [] KS M Q) (k2 : ¬ (72 ≤ a5) → am_AtN m1_shortestUneven 39 [some (vr 69), some (vr a1), some (vr a2), some (vi a3), some (vi a4), some (vi a5), none, none, none, none] [] KS M Q) : am_AtN m1_shortestUneven 32 [some (vr 69), some (vr a1), some (vr a2), some (vi a3), some (vi a4), some (vi a5), none, none, none, none] [] KS M Q := by
  refine s_iload (show decode (am_cc m1_shortestUneven) 32 = .ok (.iload 5, 2) by decide +kernel) rfl ?_
  refine s_bipush (show decode (am_cc m1_shortestUneven) 34 = .ok (.bipush 72, 2) by decide +kernel) ⟨by decide, by decide⟩ (by decide) ?_
  exact s_icmp_ge (tgt := 188) (show decode (am_cc m1_shortestUneven) 36 = .ok (.if_icmp .ge 152, 3) by decide +kernel) (by decide) k1 k2
theorem g1_shortestUneven_39 {a1 a2 a3 a4 a5 : Int} {M : am_M} {Q : Option am_V → am_M → Prop} {r0 : List Int} (h1 : 0 ≤ a5) (h2 : a5 < 72) (h3 : 0 ≤ M 72 a5) (h4 : 0 ≤ a5) (h5 : a5 < 72) (h6 : 0 ≤ M 72 a5) (h7 : am_kd KS a2 = some (4, 3, r0)) (k : am_CallN m4_endOf [vr a2, vi ((M 72 a5) % 6)] KS M (fun r M' => am_AtN m1_shortestUneven 72 [some (vr 69), some (vr a1), some (vr a2), some (vi a3), some (vi a4), some (vi a5), some (vi ((M 72 a5) / 6)), some (vi ((M 72 a5) % 6)), none, none] (r.toList ++ [vi ((M 72 a5) / 6), vr a1]) KS M' Q)) : am_AtN m1_shortestUneven 39 [some (vr 69), some (vr a1), some (vr a2), some (vi a3), some (vi a4), some (vi a5), none, none, none, none] [] KS M Q := by
  refine s_aload_n (show decode (am_cc m1_shortestUneven) 39 = .ok (.aload_n 0, 1) by decide +kernel) rfl ?_
  refine s_getf (k := 2) (v := vr 72) (show decode (am_cc m1_shortestUneven) 40 = .ok (.getfield 18, 3) by decide +kernel) kd69 (by decide) rfl jnX1 (by decide) lf_RX1_18 rfl ?_
  refine s_iload (show decode (am_cc m1_shortestUneven) 43 = .ok (.iload 5, 2) by decide +kernel) rfl ?_
  refine s_iaload (show decode (am_cc m1_shortestUneven) 45 = .ok (.iaload, 1) by decide +kernel) kd72 h1 h2 ?_
  refine s_bipush (show decode (am_cc m1_shortestUneven) 46 = .ok (.bipush 6, 2) by decide +kernel) ⟨by decide, by decide⟩ (by decide) ?_
  refine s_idiv (show decode (am_cc m1_shortestUneven) 48 = .ok (.idiv, 1) by decide +kernel) h3 (by decide) ?_
  refine s_istore (show decode (am_cc m1_shortestUneven) 49 = .ok (.istore 6, 2) by decide +kernel) (by decide) ?_
  refine s_aload_n (show decode (am_cc m1_shortestUneven) 51 = .ok (.aload_n 0, 1) by decide +kernel) rfl ?_
  refine s_getf (k := 2) (v := vr 72) (show decode (am_cc m1_shortestUneven) 52 = .ok (.getfield 18, 3) by decide +kernel) kd69 (by decide) rfl jnX1 (by decide) lf_RX1_18 rfl ?_
  refine s_iload (show decode (am_cc m1_shortestUneven) 55 = .ok (.iload 5, 2) by decide +kernel) rfl ?_
  refine s_iaload (show decode (am_cc m1_shortestUneven) 57 = .ok (.iaload, 1) by decide +kernel) kd72 h4 h5 ?_
  refine s_bipush (show decode (am_cc m1_shortestUneven) 58 = .ok (.bipush 6, 2) by decide +kernel) ⟨by decide, by decide⟩ (by decide) ?_
  refine s_irem (show decode (am_cc m1_shortestUneven) 60 = .ok (.irem, 1) by decide +kernel) h6 (by decide) ?_
  refine s_istore (show decode (am_cc m1_shortestUneven) 61 = .ok (.istore 7, 2) by decide +kernel) (by decide) ?_
  refine s_aload_n (show decode (am_cc m1_shortestUneven) 63 = .ok (.aload_n 1, 1) by decide +kernel) rfl ?_
  refine s_iload (show decode (am_cc m1_shortestUneven) 64 = .ok (.iload 6, 2) by decide +kernel) rfl ?_
  refine s_aload_n (show decode (am_cc m1_shortestUneven) 66 = .ok (.aload_n 2, 1) by decide +kernel) rfl ?_
  refine s_iload (show decode (am_cc m1_shortestUneven) 67 = .ok (.iload 7, 2) by decide +kernel) rfl ?_
  exact n_callV (as := [vi ((M 72 a5) % 6)]) (stk := [vi ((M 72 a5) / 6), vr a1]) (show decode (am_cc m1_shortestUneven) 69 = .ok (.invokevirtual 41, 3) by decide +kernel) lk_RX1_41 h7 (by decide) rfl rfl (by decide) (Nat.le_of_ble_eq_true rfl) ⟨rfl, rfl⟩ k
theorem g1_shortestUneven_72 {a1 a2 a3 a4 a5 a6 a7 t0 t1 t2 : Int} {M : am_M} {Q : Option am_V → am_M → Prop} (h1 : 0 ≤ a5) (h2 : a5 < 72) (k : am_CallN m1_endsUneven [vr t0, vi t1, vi t2, vi a3, vi (M 73 a5)] KS M (fun r M' => am_AtN m1_shortestUneven 83 [some (vr 69), some (vr a1), some (vr a2), some (vi a3), some (vi a4), some (vi a5), some (vi a6), some (vi a7), none, none] (r.toList ++ []) KS M' Q)) : am_AtN m1_shortestUneven 72 [some (vr 69), some (vr a1), some (vr a2), some (vi a3), some (vi a4), some (vi a5), some (vi a6), some (vi a7), none, none] [vi t2, vi t1, vr t0] KS M Q := by
  refine s_iload_n (show decode (am_cc m1_shortestUneven) 72 = .ok (.iload_n 3, 1) by decide +kernel) rfl ?_
  refine s_aload_n (show decode (am_cc m1_shortestUneven) 73 = .ok (.aload_n 0, 1) by decide +kernel) rfl ?_
  refine s_getf (k := 3) (v := vr 73) (show decode (am_cc m1_shortestUneven) 74 = .ok (.getfield 21, 3) by decide +kernel) kd69 (by decide) rfl jnX1 (by decide) lf_RX1_21 rfl ?_
  refine s_iload (show decode (am_cc m1_shortestUneven) 77 = .ok (.iload 5, 2) by decide +kernel) rfl ?_
  refine s_iaload (show decode (am_cc m1_shortestUneven) 79 = .ok (.iaload, 1) by decide +kernel) kd73 h1 h2 ?_
  exact n_callS (as := [vr t0, vi t1, vi t2, vi a3, vi (M 73 a5)]) (stk := []) (show decode (am_cc m1_shortestUneven) 80 = .ok (.invokestatic 47, 3) by decide +kernel) lk_RX1_47 (by decide) (Nat.le_of_ble_eq_true rfl) ⟨rfl, rfl⟩ k
theorem g1_shortestUneven_83 {a1 a2 a3 a4 a5 a6 a7 t0 : Int} {M : am_M} {Q : Option am_V → am_M → Prop} (k1 : t0 = 0 → am_AtN m1_shortestUneven 94 [some (vr 69), some (vr a1), some (vr a2), some (vi a3), some (vi a4), some (vi a5), some (vi a6), some (vi a7), none, none] [] KS M Q) (k2 : ¬ (t0 = 0) → am_AtN m1_shortestUneven 86 [some (vr 69), some (vr a1), some (vr a2), some (vi a3), some (vi a4), some (vi a5), some (vi a6), some (vi a7), none, none] [] KS M Q) : am_AtN m1_shortestUneven 83 [some (vr 69), some (vr a1), some (vr a2), some (vi a3), some (vi a4), some (vi a5), some (vi a6), some (vi a7), none, none] [vi t0] KS M Q := by
  exact s_if_eq (tgt := 94) (show decode (am_cc m1_shortestUneven) 83 = .ok (.ifCond .eq 11, 3) by decide +kernel) (by decide) k1 k2
theorem g1_shortestUneven_86 {a1 a2 a3 a4 a5 a6 a7 : Int} {M : am_M} {Q : Option am_V → am_M → Prop} (h1 : 0 ≤ a5) (h2 : a5 < 72) (k : Q (some (vi (M 74 a5))) M) : am_AtN m1_shortestUneven 86 [some (vr 69), some (vr a1), some (vr a2), some (vi a3), some (vi a4), some (vi a5), some (vi a6), some (vi a7), none, none] [] KS M Q := by
  refine s_aload_n (show decode (am_cc m1_shortestUneven) 86 = .ok (.aload_n 0, 1) by decide +kernel) rfl ?_
  refine s_getf (k := 4) (v := vr 74) (show decode (am_cc m1_shortestUneven) 87 = .ok (.getfield 24, 3) by decide +kernel) kd69 (by decide) rfl jnX1 (by decide) lf_RX1_24 rfl ?_
  refine s_iload (show decode (am_cc m1_shortestUneven) 90 = .ok (.iload 5, 2) by decide +kernel) rfl ?_
  refine s_iaload (show decode (am_cc m1_shortestUneven) 92 = .ok (.iaload, 1) by decide +kernel) kd74 h1 h2 ?_
  exact s_ireturn (show decode (am_cc m1_shortestUneven) 93 = .ok (.ireturn, 1) by decide +kernel) rfl k
theorem g1_shortestUneven_94 {a1 a2 a3 a4 a5 a6 a7 : Int} {M : am_M} {Q : Option am_V → am_M → Prop} (k : am_AtN m1_shortestUneven 97 [some (vr 69), some (vr a1), some (vr a2), some (vi a3), some (vi a4), some (vi a5), some (vi a6), some (vi a7), some (vi 0), none] [] KS M Q) : am_AtN m1_shortestUneven 94 [some (vr 69), some (vr a1), some (vr a2), some (vi a3), some (vi a4), some (vi a5), some (vi a6), some (vi a7), none, none] [] KS M Q := by
  refine s_iconst (show decode (am_cc m1_shortestUneven) 94 = .ok (.iconst 0, 1) by decide +kernel) ⟨by decide, by decide⟩ ?_
  refine s_istore (show decode (am_cc m1_shortestUneven) 95 = .ok (.istore 8, 2) by decide +kernel) (by decide) ?_
  exact k
theorem g1_shortestUneven_97 {a1 a2 a3 a4 a5 a6 a7 a8 : Int} {M : am_M} {Q : Option am_V → am_M → Prop} (k1 : a4 ≤ a8 → am_AtN m1_shortestUneven 182 [some (vr 69), some (vr a1), some (vr a2), some (vi a3), some (vi a4), some (vi a5), some (vi a6), some (vi a7), some (vi a8), none] [] KS M Q) (k2 : ¬ (a4 ≤ a8) → am_AtN m1_shortestUneven 104 [some (vr 69), some (vr a1), some (vr a2), some (vi a3), some (vi a4), some (vi a5), some (vi a6), some (vi a7), some (vi a8), none] [] KS M Q) : am_AtN m1_shortestUneven 97 [some (vr 69), some (vr a1), some (vr a2), some (vi a3), some (vi a4), some (vi a5), some (vi a6), some (vi a7), some (vi a8), none] [] KS M Q := by
  refine s_iload (show decode (am_cc m1_shortestUneven) 97 = .ok (.iload 8, 2) by decide +kernel) rfl ?_
  refine s_iload (show decode (am_cc m1_shortestUneven) 99 = .ok (.iload 4, 2) by decide +kernel) rfl ?_
  exact s_icmp_ge (tgt := 182) (show decode (am_cc m1_shortestUneven) 101 = .ok (.if_icmp .ge 81, 3) by decide +kernel) (by decide) k1 k2
theorem g1_shortestUneven_104 {a1 a2 a3 a4 a5 a6 a7 a8 : Int} {M : am_M} {Q : Option am_V → am_M → Prop} {r0 : List Int} (h1 : 0 ≤ a5) (h2 : a5 < 72) (h3 : am_kd KS a2 = some (4, 3, r0)) (k : am_CallN m4_wordOf [vr a2, vi a7, vi a8] KS M (fun r M' => am_AtN m1_shortestUneven 119 [some (vr 69), some (vr a1), some (vr a2), some (vi a3), some (vi a4), some (vi a5), some (vi a6), some (vi a7), some (vi a8), none] (r.toList ++ [vi (M 73 a5)]) KS M' Q)) : am_AtN m1_shortestUneven 104 [some (vr 69), some (vr a1), some (vr a2), some (vi a3), some (vi a4), some (vi a5), some (vi a6), some (vi a7), some (vi a8), none] [] KS M Q := by
  refine s_aload_n (show decode (am_cc m1_shortestUneven) 104 = .ok (.aload_n 0, 1) by decide +kernel) rfl ?_
  refine s_getf (k := 3) (v := vr 73) (show decode (am_cc m1_shortestUneven) 105 = .ok (.getfield 21, 3) by decide +kernel) kd69 (by decide) rfl jnX1 (by decide) lf_RX1_21 rfl ?_
  refine s_iload (show decode (am_cc m1_shortestUneven) 108 = .ok (.iload 5, 2) by decide +kernel) rfl ?_
  refine s_iaload (show decode (am_cc m1_shortestUneven) 110 = .ok (.iaload, 1) by decide +kernel) kd73 h1 h2 ?_
  refine s_aload_n (show decode (am_cc m1_shortestUneven) 111 = .ok (.aload_n 2, 1) by decide +kernel) rfl ?_
  refine s_iload (show decode (am_cc m1_shortestUneven) 112 = .ok (.iload 7, 2) by decide +kernel) rfl ?_
  refine s_iload (show decode (am_cc m1_shortestUneven) 114 = .ok (.iload 8, 2) by decide +kernel) rfl ?_
  exact n_callV (as := [vi a7, vi a8]) (stk := [vi (M 73 a5)]) (show decode (am_cc m1_shortestUneven) 116 = .ok (.invokevirtual 51, 3) by decide +kernel) lk_RX1_51 h3 (by decide) rfl rfl (by decide) (Nat.le_of_ble_eq_true rfl) ⟨rfl, rfl⟩ k
theorem g1_shortestUneven_119 {a1 a2 a3 a4 a5 a6 a7 a8 t0 t1 : Int} {M : am_M} {Q : Option am_V → am_M → Prop} (k : am_CallN m8_timesIn [vi t1, vi a3] KS M (fun r M' => am_AtN m1_shortestUneven 123 [some (vr 69), some (vr a1), some (vr a2), some (vi a3), some (vi a4), some (vi a5), some (vi a6), some (vi a7), some (vi a8), none] (r.toList ++ [vi t0]) KS M' Q)) : am_AtN m1_shortestUneven 119 [some (vr 69), some (vr a1), some (vr a2), some (vi a3), some (vi a4), some (vi a5), some (vi a6), some (vi a7), some (vi a8), none] [vi t1, vi t0] KS M Q := by
  refine s_iload_n (show decode (am_cc m1_shortestUneven) 119 = .ok (.iload_n 3, 1) by decide +kernel) rfl ?_
  exact n_callN (as := [vi t1, vi a3]) (stk := [vi t0]) (show decode (am_cc m1_shortestUneven) 120 = .ok (.invokestatic 55, 3) by decide +kernel) lk_RX1_55 (by decide) (Nat.le_of_ble_eq_true rfl) ⟨rfl, rfl⟩ k
theorem g1_shortestUneven_123 {a1 a2 a3 a4 a5 a6 a7 a8 t0 t1 : Int} {M : am_M} {Q : Option am_V → am_M → Prop} (h1 : -2147483648 ≤ t0 + t1 ∧ t0 + t1 ≤ 2147483647) (k1 : ¬ a8 = a3 → am_AtN m1_shortestUneven 134 [some (vr 69), some (vr a1), some (vr a2), some (vi a3), some (vi a4), some (vi a5), some (vi a6), some (vi a7), some (vi a8), none] [vi (t0 + t1)] KS M Q) (k2 : a8 = a3 → am_AtN m1_shortestUneven 130 [some (vr 69), some (vr a1), some (vr a2), some (vi a3), some (vi a4), some (vi a5), some (vi a6), some (vi a7), some (vi a8), none] [vi (t0 + t1)] KS M Q) : am_AtN m1_shortestUneven 123 [some (vr 69), some (vr a1), some (vr a2), some (vi a3), some (vi a4), some (vi a5), some (vi a6), some (vi a7), some (vi a8), none] [vi t1, vi t0] KS M Q := by
  refine s_iadd (show decode (am_cc m1_shortestUneven) 123 = .ok (.iadd, 1) by decide +kernel) h1 ?_
  refine s_iload (show decode (am_cc m1_shortestUneven) 124 = .ok (.iload 8, 2) by decide +kernel) rfl ?_
  refine s_iload_n (show decode (am_cc m1_shortestUneven) 126 = .ok (.iload_n 3, 1) by decide +kernel) rfl ?_
  exact s_icmp_ne (tgt := 134) (show decode (am_cc m1_shortestUneven) 127 = .ok (.if_icmp .ne 7, 3) by decide +kernel) (by decide) k1 k2
theorem g1_shortestUneven_130 {a1 a2 a3 a4 a5 a6 a7 a8 t0 : Int} {M : am_M} {Q : Option am_V → am_M → Prop} (k : am_AtN m1_shortestUneven 135 [some (vr 69), some (vr a1), some (vr a2), some (vi a3), some (vi a4), some (vi a5), some (vi a6), some (vi a7), some (vi a8), none] [vi 1, vi t0] KS M Q) : am_AtN m1_shortestUneven 130 [some (vr 69), some (vr a1), some (vr a2), some (vi a3), some (vi a4), some (vi a5), some (vi a6), some (vi a7), some (vi a8), none] [vi t0] KS M Q := by
  refine s_iconst (show decode (am_cc m1_shortestUneven) 130 = .ok (.iconst 1, 1) by decide +kernel) ⟨by decide, by decide⟩ ?_
  refine s_goto (tgt := 135) (show decode (am_cc m1_shortestUneven) 131 = .ok (.goto 4, 3) by decide +kernel) (by decide) ?_
  exact k
theorem g1_shortestUneven_134 {a1 a2 a3 a4 a5 a6 a7 a8 t0 : Int} {M : am_M} {Q : Option am_V → am_M → Prop} (k : am_AtN m1_shortestUneven 135 [some (vr 69), some (vr a1), some (vr a2), some (vi a3), some (vi a4), some (vi a5), some (vi a6), some (vi a7), some (vi a8), none] [vi 0, vi t0] KS M Q) : am_AtN m1_shortestUneven 134 [some (vr 69), some (vr a1), some (vr a2), some (vi a3), some (vi a4), some (vi a5), some (vi a6), some (vi a7), some (vi a8), none] [vi t0] KS M Q := by
  refine s_iconst (show decode (am_cc m1_shortestUneven) 134 = .ok (.iconst 0, 1) by decide +kernel) ⟨by decide, by decide⟩ ?_
  exact k
theorem g1_shortestUneven_135 {a1 a2 a3 a4 a5 a6 a7 a8 t0 t1 : Int} {M : am_M} {Q : Option am_V → am_M → Prop} (k : am_CallN m8_oneIf [vi t1] KS M (fun r M' => am_AtN m1_shortestUneven 138 [some (vr 69), some (vr a1), some (vr a2), some (vi a3), some (vi a4), some (vi a5), some (vi a6), some (vi a7), some (vi a8), none] (r.toList ++ [vi t0]) KS M' Q)) : am_AtN m1_shortestUneven 135 [some (vr 69), some (vr a1), some (vr a2), some (vi a3), some (vi a4), some (vi a5), some (vi a6), some (vi a7), some (vi a8), none] [vi t1, vi t0] KS M Q := by
  exact n_callN (as := [vi t1]) (stk := [vi t0]) (show decode (am_cc m1_shortestUneven) 135 = .ok (.invokestatic 58, 3) by decide +kernel) lk_RX1_58 (by decide) (Nat.le_of_ble_eq_true rfl) ⟨rfl, rfl⟩ k
theorem g1_shortestUneven_138 {a1 a2 a3 a4 a5 a6 a7 a8 t0 t1 : Int} {M : am_M} {Q : Option am_V → am_M → Prop} {r0 : List Int} (h1 : -2147483648 ≤ t0 - t1 ∧ t0 - t1 ≤ 2147483647) (h2 : am_kd KS a1 = some (6, 2, r0)) (k : am_CallN m6_nextOf [vr a1, vi a6, vi a8] KS M (fun r M' => am_AtN m1_shortestUneven 150 [some (vr 69), some (vr a1), some (vr a2), some (vi a3), some (vi a4), some (vi a5), some (vi a6), some (vi a7), some (vi a8), some (vi (t0 - t1))] (r.toList ++ [vr 69]) KS M' Q)) : am_AtN m1_shortestUneven 138 [some (vr 69), some (vr a1), some (vr a2), some (vi a3), some (vi a4), some (vi a5), some (vi a6), some (vi a7), some (vi a8), none] [vi t1, vi t0] KS M Q := by
  refine s_isub (show decode (am_cc m1_shortestUneven) 138 = .ok (.isub, 1) by decide +kernel) h1 ?_
  refine s_istore (show decode (am_cc m1_shortestUneven) 139 = .ok (.istore 9, 2) by decide +kernel) (by decide) ?_
  refine s_aload_n (show decode (am_cc m1_shortestUneven) 141 = .ok (.aload_n 0, 1) by decide +kernel) rfl ?_
  refine s_aload_n (show decode (am_cc m1_shortestUneven) 142 = .ok (.aload_n 1, 1) by decide +kernel) rfl ?_
  refine s_iload (show decode (am_cc m1_shortestUneven) 143 = .ok (.iload 6, 2) by decide +kernel) rfl ?_
  refine s_iload (show decode (am_cc m1_shortestUneven) 145 = .ok (.iload 8, 2) by decide +kernel) rfl ?_
  exact n_callV (as := [vi a6, vi a8]) (stk := [vr 69]) (show decode (am_cc m1_shortestUneven) 147 = .ok (.invokevirtual 62, 3) by decide +kernel) lk_RX1_62 h2 (by decide) rfl rfl (by decide) (Nat.le_of_ble_eq_true rfl) ⟨rfl, rfl⟩ k
theorem g1_shortestUneven_150 {a1 a2 a3 a4 a5 a6 a7 a8 a9 t0 t1 : Int} {M : am_M} {Q : Option am_V → am_M → Prop} {r0 : List Int} (h1 : -2147483648 ≤ t1 * 6 ∧ t1 * 6 ≤ 2147483647) (h2 : am_kd KS a2 = some (4, 3, r0)) (k : am_CallN m4_nextOf [vr a2, vi a7, vi a8] KS M (fun r M' => am_AtN m1_shortestUneven 161 [some (vr 69), some (vr a1), some (vr a2), some (vi a3), some (vi a4), some (vi a5), some (vi a6), some (vi a7), some (vi a8), some (vi a9)] (r.toList ++ [vi (t1 * 6), vr t0]) KS M' Q)) : am_AtN m1_shortestUneven 150 [some (vr 69), some (vr a1), some (vr a2), some (vi a3), some (vi a4), some (vi a5), some (vi a6), some (vi a7), some (vi a8), some (vi a9)] [vi t1, vr t0] KS M Q := by
  refine s_bipush (show decode (am_cc m1_shortestUneven) 150 = .ok (.bipush 6, 2) by decide +kernel) ⟨by decide, by decide⟩ (by decide) ?_
  refine s_imul (show decode (am_cc m1_shortestUneven) 152 = .ok (.imul, 1) by decide +kernel) h1 ?_
  refine s_aload_n (show decode (am_cc m1_shortestUneven) 153 = .ok (.aload_n 2, 1) by decide +kernel) rfl ?_
  refine s_iload (show decode (am_cc m1_shortestUneven) 154 = .ok (.iload 7, 2) by decide +kernel) rfl ?_
  refine s_iload (show decode (am_cc m1_shortestUneven) 156 = .ok (.iload 8, 2) by decide +kernel) rfl ?_
  exact n_callV (as := [vi a7, vi a8]) (stk := [vi (t1 * 6), vr t0]) (show decode (am_cc m1_shortestUneven) 158 = .ok (.invokevirtual 67, 3) by decide +kernel) lk_RX1_67 h2 (by decide) rfl rfl (by decide) (Nat.le_of_ble_eq_true rfl) ⟨rfl, rfl⟩ k
theorem g1_shortestUneven_161 {a1 a2 a3 a4 a5 a6 a7 a8 a9 t0 t1 t2 : Int} {M : am_M} {Q : Option am_V → am_M → Prop} {r0 : List Int} (h1 : -2147483648 ≤ t1 + t2 ∧ t1 + t2 ≤ 2147483647) (h2 : 0 ≤ a5) (h3 : a5 < 72) (h4 : -2147483648 ≤ (M 74 a5) + 1 ∧ (M 74 a5) + 1 ≤ 2147483647) (h5 : am_kd KS t0 = some (1, 6, r0)) (k : am_CallN m1_keep [vr t0, vi (t1 + t2), vi a9, vi ((M 74 a5) + 1)] KS M (fun r M' => am_AtN m1_shortestUneven 176 [some (vr 69), some (vr a1), some (vr a2), some (vi a3), some (vi a4), some (vi a5), some (vi a6), some (vi a7), some (vi a8), some (vi a9)] (r.toList ++ []) KS M' Q)) : am_AtN m1_shortestUneven 161 [some (vr 69), some (vr a1), some (vr a2), some (vi a3), some (vi a4), some (vi a5), some (vi a6), some (vi a7), some (vi a8), some (vi a9)] [vi t2, vi t1, vr t0] KS M Q := by
  refine s_iadd (show decode (am_cc m1_shortestUneven) 161 = .ok (.iadd, 1) by decide +kernel) h1 ?_
  refine s_iload (show decode (am_cc m1_shortestUneven) 162 = .ok (.iload 9, 2) by decide +kernel) rfl ?_
  refine s_aload_n (show decode (am_cc m1_shortestUneven) 164 = .ok (.aload_n 0, 1) by decide +kernel) rfl ?_
  refine s_getf (k := 4) (v := vr 74) (show decode (am_cc m1_shortestUneven) 165 = .ok (.getfield 24, 3) by decide +kernel) kd69 (by decide) rfl jnX1 (by decide) lf_RX1_24 rfl ?_
  refine s_iload (show decode (am_cc m1_shortestUneven) 168 = .ok (.iload 5, 2) by decide +kernel) rfl ?_
  refine s_iaload (show decode (am_cc m1_shortestUneven) 170 = .ok (.iaload, 1) by decide +kernel) kd74 h2 h3 ?_
  refine s_iconst (show decode (am_cc m1_shortestUneven) 171 = .ok (.iconst 1, 1) by decide +kernel) ⟨by decide, by decide⟩ ?_
  refine s_iadd (show decode (am_cc m1_shortestUneven) 172 = .ok (.iadd, 1) by decide +kernel) h4 ?_
  exact n_callV (as := [vi (t1 + t2), vi a9, vi ((M 74 a5) + 1)]) (stk := []) (show decode (am_cc m1_shortestUneven) 173 = .ok (.invokevirtual 37, 3) by decide +kernel) lk_RX1_37 h5 (by decide) rfl rfl (by decide) (Nat.le_of_ble_eq_true rfl) ⟨rfl, rfl⟩ k
theorem g1_shortestUneven_176 {a1 a2 a3 a4 a5 a6 a7 a8 a9 : Int} {M : am_M} {Q : Option am_V → am_M → Prop} (h1 : -2147483648 ≤ a8 + 1 ∧ a8 + 1 ≤ 2147483647) (k : am_AtN m1_shortestUneven 97 [some (vr 69), some (vr a1), some (vr a2), some (vi a3), some (vi a4), some (vi a5), some (vi a6), some (vi a7), some (vi (a8 + 1)), none] [] KS M Q) : am_AtN m1_shortestUneven 176 [some (vr 69), some (vr a1), some (vr a2), some (vi a3), some (vi a4), some (vi a5), some (vi a6), some (vi a7), some (vi a8), some (vi a9)] [] KS M Q := by
  refine s_iinc (show decode (am_cc m1_shortestUneven) 176 = .ok (.iinc 8 1, 3) by decide +kernel) rfl (by decide) h1 ?_
  refine s_goto (tgt := 97) (show decode (am_cc m1_shortestUneven) 179 = .ok (.goto (-82), 3) by decide +kernel) (by decide) ?_
  refine am_fg 9 ?_
  exact k
theorem g1_shortestUneven_182 {a1 a2 a3 a4 a5 a6 a7 a8 : Int} {M : am_M} {Q : Option am_V → am_M → Prop} (h1 : -2147483648 ≤ a5 + 1 ∧ a5 + 1 ≤ 2147483647) (k : am_AtN m1_shortestUneven 23 [some (vr 69), some (vr a1), some (vr a2), some (vi a3), some (vi a4), some (vi (a5 + 1)), none, none, none, none] [] KS M Q) : am_AtN m1_shortestUneven 182 [some (vr 69), some (vr a1), some (vr a2), some (vi a3), some (vi a4), some (vi a5), some (vi a6), some (vi a7), some (vi a8), none] [] KS M Q := by
  refine s_iinc (show decode (am_cc m1_shortestUneven) 182 = .ok (.iinc 5 1, 3) by decide +kernel) rfl (by decide) h1 ?_
  refine s_goto (tgt := 23) (show decode (am_cc m1_shortestUneven) 185 = .ok (.goto (-162), 3) by decide +kernel) (by decide) ?_
  refine am_fg 6 ?_
  refine am_fg 7 ?_
  refine am_fg 8 ?_
  exact k
theorem g1_shortestUneven_188 {a1 a2 a3 a4 a5 : Int} {M : am_M} {Q : Option am_V → am_M → Prop} (k : Q (some (vi (-9))) M) : am_AtN m1_shortestUneven 188 [some (vr 69), some (vr a1), some (vr a2), some (vi a3), some (vi a4), some (vi a5), none, none, none, none] [] KS M Q := by
  refine s_bipush (show decode (am_cc m1_shortestUneven) 188 = .ok (.bipush (-9), 2) by decide +kernel) ⟨by decide, by decide⟩ (by decide) ?_
  exact s_ireturn (show decode (am_cc m1_shortestUneven) 190 = .ok (.ireturn, 1) by decide +kernel) rfl k
theorem g1_endsUneven_0 {a0 a1 a2 a3 a4 : Int} {K : am_K} {M : am_M} {Q : Option am_V → am_M → Prop} {r0 : List Int} (h1 : am_kd K a0 = some (6, 2, r0)) (k : am_CallN m6_holdsAt [vr a0, vi a1] K M (fun r M' => am_AtN m1_endsUneven 5 [some (vr a0), some (vi a1), some (vi a2), some (vi a3), some (vi a4)] (r.toList ++ []) K M' Q)) : am_AtN m1_endsUneven 0 [some (vr a0), some (vi a1), some (vi a2), some (vi a3), some (vi a4)] [] K M Q := by
  refine s_aload_n (show decode (am_cc m1_endsUneven) 0 = .ok (.aload_n 0, 1) by decide +kernel) rfl ?_
  refine s_iload_n (show decode (am_cc m1_endsUneven) 1 = .ok (.iload_n 1, 1) by decide +kernel) rfl ?_
  exact n_callV (as := [vi a1]) (stk := []) (show decode (am_cc m1_endsUneven) 2 = .ok (.invokevirtual 68, 3) by decide +kernel) lk_RX1_68 h1 (by decide) rfl rfl (by decide) (Nat.le_of_ble_eq_true rfl) ⟨rfl, rfl⟩ k
theorem g1_endsUneven_5 {a0 a1 a2 a3 a4 t0 : Int} {K : am_K} {M : am_M} {Q : Option am_V → am_M → Prop} (k1 : t0 = 0 → am_AtN m1_endsUneven 28 [some (vr a0), some (vi a1), some (vi a2), some (vi a3), some (vi a4)] [] K M Q) (k2 : ¬ (t0 = 0) → am_AtN m1_endsUneven 8 [some (vr a0), some (vi a1), some (vi a2), some (vi a3), some (vi a4)] [] K M Q) : am_AtN m1_endsUneven 5 [some (vr a0), some (vi a1), some (vi a2), some (vi a3), some (vi a4)] [vi t0] K M Q := by
  exact s_if_eq (tgt := 28) (show decode (am_cc m1_endsUneven) 5 = .ok (.ifCond .eq 23, 3) by decide +kernel) (by decide) k1 k2
theorem g1_endsUneven_8 {a0 a1 a2 a3 a4 : Int} {K : am_K} {M : am_M} {Q : Option am_V → am_M → Prop} (k1 : a2 = -1 → am_AtN m1_endsUneven 28 [some (vr a0), some (vi a1), some (vi a2), some (vi a3), some (vi a4)] [] K M Q) (k2 : ¬ (a2 = -1) → am_AtN m1_endsUneven 13 [some (vr a0), some (vi a1), some (vi a2), some (vi a3), some (vi a4)] [] K M Q) : am_AtN m1_endsUneven 8 [some (vr a0), some (vi a1), some (vi a2), some (vi a3), some (vi a4)] [] K M Q := by
  refine s_iload_n (show decode (am_cc m1_endsUneven) 8 = .ok (.iload_n 2, 1) by decide +kernel) rfl ?_
  refine s_iconst (show decode (am_cc m1_endsUneven) 9 = .ok (.iconst (-1), 1) by decide +kernel) ⟨by decide, by decide⟩ ?_
  exact s_icmp_eq (tgt := 28) (show decode (am_cc m1_endsUneven) 10 = .ok (.if_icmp .eq 18, 3) by decide +kernel) (by decide) k1 k2
theorem g1_endsUneven_13 {a0 a1 a2 a3 a4 : Int} {K : am_K} {M : am_M} {Q : Option am_V → am_M → Prop} (k : am_CallN m8_timesIn [vi a2, vi a3] K M (fun r M' => am_AtN m1_endsUneven 20 [some (vr a0), some (vi a1), some (vi a2), some (vi a3), some (vi a4)] (r.toList ++ [vi a4]) K M' Q)) : am_AtN m1_endsUneven 13 [some (vr a0), some (vi a1), some (vi a2), some (vi a3), some (vi a4)] [] K M Q := by
  refine s_iload (show decode (am_cc m1_endsUneven) 13 = .ok (.iload 4, 2) by decide +kernel) rfl ?_
  refine s_iload_n (show decode (am_cc m1_endsUneven) 15 = .ok (.iload_n 2, 1) by decide +kernel) rfl ?_
  refine s_iload_n (show decode (am_cc m1_endsUneven) 16 = .ok (.iload_n 3, 1) by decide +kernel) rfl ?_
  exact n_callN (as := [vi a2, vi a3]) (stk := [vi a4]) (show decode (am_cc m1_endsUneven) 17 = .ok (.invokestatic 55, 3) by decide +kernel) lk_RX1_55 (by decide) (Nat.le_of_ble_eq_true rfl) ⟨rfl, rfl⟩ k
theorem g1_endsUneven_20 {a0 a1 a2 a3 a4 t0 t1 : Int} {K : am_K} {M : am_M} {Q : Option am_V → am_M → Prop} (h1 : -2147483648 ≤ t0 + t1 ∧ t0 + t1 ≤ 2147483647) (k1 : t0 + t1 = 0 → am_AtN m1_endsUneven 28 [some (vr a0), some (vi a1), some (vi a2), some (vi a3), some (vi a4)] [] K M Q) (k2 : ¬ (t0 + t1 = 0) → am_AtN m1_endsUneven 24 [some (vr a0), some (vi a1), some (vi a2), some (vi a3), some (vi a4)] [] K M Q) : am_AtN m1_endsUneven 20 [some (vr a0), some (vi a1), some (vi a2), some (vi a3), some (vi a4)] [vi t1, vi t0] K M Q := by
  refine s_iadd (show decode (am_cc m1_endsUneven) 20 = .ok (.iadd, 1) by decide +kernel) h1 ?_
  exact s_if_eq (tgt := 28) (show decode (am_cc m1_endsUneven) 21 = .ok (.ifCond .eq 7, 3) by decide +kernel) (by decide) k1 k2
theorem g1_endsUneven_24 {a0 a1 a2 a3 a4 : Int} {K : am_K} {M : am_M} {Q : Option am_V → am_M → Prop} (k : am_AtN m1_endsUneven 29 [some (vr a0), some (vi a1), some (vi a2), some (vi a3), some (vi a4)] [vi 1] K M Q) : am_AtN m1_endsUneven 24 [some (vr a0), some (vi a1), some (vi a2), some (vi a3), some (vi a4)] [] K M Q := by
  refine s_iconst (show decode (am_cc m1_endsUneven) 24 = .ok (.iconst 1, 1) by decide +kernel) ⟨by decide, by decide⟩ ?_
  refine s_goto (tgt := 29) (show decode (am_cc m1_endsUneven) 25 = .ok (.goto 4, 3) by decide +kernel) (by decide) ?_
  exact k
theorem g1_endsUneven_28 {a0 a1 a2 a3 a4 : Int} {K : am_K} {M : am_M} {Q : Option am_V → am_M → Prop} (k : am_AtN m1_endsUneven 29 [some (vr a0), some (vi a1), some (vi a2), some (vi a3), some (vi a4)] [vi 0] K M Q) : am_AtN m1_endsUneven 28 [some (vr a0), some (vi a1), some (vi a2), some (vi a3), some (vi a4)] [] K M Q := by
  refine s_iconst (show decode (am_cc m1_endsUneven) 28 = .ok (.iconst 0, 1) by decide +kernel) ⟨by decide, by decide⟩ ?_
  exact k
theorem g1_endsUneven_29 {a0 a1 a2 a3 a4 t0 : Int} {K : am_K} {M : am_M} {Q : Option am_V → am_M → Prop} (h1 : t0 = 0 ∨ t0 = 1) (k : Q (some (vi t0)) M) : am_AtN m1_endsUneven 29 [some (vr a0), some (vi a1), some (vi a2), some (vi a3), some (vi a4)] [vi t0] K M Q := by
  exact s_zreturn (show decode (am_cc m1_endsUneven) 29 = .ok (.ireturn, 1) by decide +kernel) rfl h1 k
theorem g1_keep_0 {a1 a2 a3 : Int} {M : am_M} {Q : Option am_V → am_M → Prop} (k : am_CallN m8_within [vi a1, vi 36] KS M (fun r M' => am_AtN m1_keep 6 [some (vr 69), some (vi a1), some (vi a2), some (vi a3)] (r.toList ++ []) KS M' Q)) : am_AtN m1_keep 0 [some (vr 69), some (vi a1), some (vi a2), some (vi a3)] [] KS M Q := by
  refine s_iload_n (show decode (am_cc m1_keep) 0 = .ok (.iload_n 1, 1) by decide +kernel) rfl ?_
  refine s_bipush (show decode (am_cc m1_keep) 1 = .ok (.bipush 36, 2) by decide +kernel) ⟨by decide, by decide⟩ (by decide) ?_
  exact n_callN (as := [vi a1, vi 36]) (stk := []) (show decode (am_cc m1_keep) 3 = .ok (.invokestatic 72, 3) by decide +kernel) lk_RX1_72 (by decide) (Nat.le_of_ble_eq_true rfl) ⟨rfl, rfl⟩ k
theorem g1_keep_6 {a1 a2 a3 t0 : Int} {M : am_M} {Q : Option am_V → am_M → Prop} (k1 : t0 = 0 → am_AtN m1_keep 31 [some (vr 69), some (vi a1), some (vi a2), some (vi a3)] [] KS M Q) (k2 : ¬ (t0 = 0) → am_AtN m1_keep 9 [some (vr 69), some (vi a1), some (vi a2), some (vi a3)] [] KS M Q) : am_AtN m1_keep 6 [some (vr 69), some (vi a1), some (vi a2), some (vi a3)] [vi t0] KS M Q := by
  exact s_if_eq (tgt := 31) (show decode (am_cc m1_keep) 6 = .ok (.ifCond .eq 25, 3) by decide +kernel) (by decide) k1 k2
theorem g1_keep_9 {a1 a2 a3 : Int} {M : am_M} {Q : Option am_V → am_M → Prop} (k : am_CallN m8_within [vi (M 69 5), vi 72] KS M (fun r M' => am_AtN m1_keep 18 [some (vr 69), some (vi a1), some (vi a2), some (vi a3)] (r.toList ++ []) KS M' Q)) : am_AtN m1_keep 9 [some (vr 69), some (vi a1), some (vi a2), some (vi a3)] [] KS M Q := by
  refine s_aload_n (show decode (am_cc m1_keep) 9 = .ok (.aload_n 0, 1) by decide +kernel) rfl ?_
  refine s_getf (k := 5) (v := vi (M 69 5)) (show decode (am_cc m1_keep) 10 = .ok (.getfield 27, 3) by decide +kernel) kd69 (by decide) rfl jnX1 (by decide) lf_RX1_27 rfl ?_
  refine s_bipush (show decode (am_cc m1_keep) 13 = .ok (.bipush 72, 2) by decide +kernel) ⟨by decide, by decide⟩ (by decide) ?_
  exact n_callN (as := [vi (M 69 5), vi 72]) (stk := []) (show decode (am_cc m1_keep) 15 = .ok (.invokestatic 72, 3) by decide +kernel) lk_RX1_72 (by decide) (Nat.le_of_ble_eq_true rfl) ⟨rfl, rfl⟩ k
theorem g1_keep_18 {a1 a2 a3 t0 : Int} {M : am_M} {Q : Option am_V → am_M → Prop} (k1 : t0 = 0 → am_AtN m1_keep 31 [some (vr 69), some (vi a1), some (vi a2), some (vi a3)] [] KS M Q) (k2 : ¬ (t0 = 0) → am_AtN m1_keep 21 [some (vr 69), some (vi a1), some (vi a2), some (vi a3)] [] KS M Q) : am_AtN m1_keep 18 [some (vr 69), some (vi a1), some (vi a2), some (vi a3)] [vi t0] KS M Q := by
  exact s_if_eq (tgt := 31) (show decode (am_cc m1_keep) 18 = .ok (.ifCond .eq 13, 3) by decide +kernel) (by decide) k1 k2
theorem g1_keep_21 {a1 a2 a3 : Int} {M : am_M} {Q : Option am_V → am_M → Prop} (h1 : 0 ≤ a1) (h2 : a1 < 36) (k1 : M 70 a1 < 2 → am_AtN m1_keep 32 [some (vr 69), some (vi a1), some (vi a2), some (vi a3)] [] KS M Q) (k2 : ¬ (M 70 a1 < 2) → am_AtN m1_keep 31 [some (vr 69), some (vi a1), some (vi a2), some (vi a3)] [] KS M Q) : am_AtN m1_keep 21 [some (vr 69), some (vi a1), some (vi a2), some (vi a3)] [] KS M Q := by
  refine s_aload_n (show decode (am_cc m1_keep) 21 = .ok (.aload_n 0, 1) by decide +kernel) rfl ?_
  refine s_getf (k := 0) (v := vr 70) (show decode (am_cc m1_keep) 22 = .ok (.getfield 11, 3) by decide +kernel) kd69 (by decide) rfl jnX1 (by decide) lf_RX1_11 rfl ?_
  refine s_iload_n (show decode (am_cc m1_keep) 25 = .ok (.iload_n 1, 1) by decide +kernel) rfl ?_
  refine s_iaload (show decode (am_cc m1_keep) 26 = .ok (.iaload, 1) by decide +kernel) kd70 h1 h2 ?_
  refine s_iconst (show decode (am_cc m1_keep) 27 = .ok (.iconst 2, 1) by decide +kernel) ⟨by decide, by decide⟩ ?_
  exact s_icmp_lt (tgt := 32) (show decode (am_cc m1_keep) 28 = .ok (.if_icmp .lt 4, 3) by decide +kernel) (by decide) k1 k2
theorem g1_keep_31 {a1 a2 a3 : Int} {M : am_M} {Q : Option am_V → am_M → Prop} (k : Q none M) : am_AtN m1_keep 31 [some (vr 69), some (vi a1), some (vi a2), some (vi a3)] [] KS M Q := by
  exact s_return (show decode (am_cc m1_keep) 31 = .ok (.return_, 1) by decide +kernel) rfl k
theorem g1_keep_32 {a1 a2 a3 : Int} {M : am_M} {Q : Option am_V → am_M → Prop} (h1 : 0 ≤ a1) (h2 : a1 < 36) (k1 : ¬ M 70 a1 = 0 → am_AtN m1_keep 51 [some (vr 69), some (vi a1), some (vi a2), some (vi a3)] [] KS M Q) (k2 : M 70 a1 = 0 → am_AtN m1_keep 41 [some (vr 69), some (vi a1), some (vi a2), some (vi a3)] [] KS M Q) : am_AtN m1_keep 32 [some (vr 69), some (vi a1), some (vi a2), some (vi a3)] [] KS M Q := by
  refine s_aload_n (show decode (am_cc m1_keep) 32 = .ok (.aload_n 0, 1) by decide +kernel) rfl ?_
  refine s_getf (k := 0) (v := vr 70) (show decode (am_cc m1_keep) 33 = .ok (.getfield 11, 3) by decide +kernel) kd69 (by decide) rfl jnX1 (by decide) lf_RX1_11 rfl ?_
  refine s_iload_n (show decode (am_cc m1_keep) 36 = .ok (.iload_n 1, 1) by decide +kernel) rfl ?_
  refine s_iaload (show decode (am_cc m1_keep) 37 = .ok (.iaload, 1) by decide +kernel) kd70 h1 h2 ?_
  exact s_if_ne (tgt := 51) (show decode (am_cc m1_keep) 38 = .ok (.ifCond .ne 13, 3) by decide +kernel) (by decide) k1 k2
theorem g1_keep_41 {a1 a2 a3 : Int} {M : am_M} {Q : Option am_V → am_M → Prop} (h1 : 0 ≤ a1) (h2 : a1 < 36) (k : am_AtN m1_keep 62 [some (vr 69), some (vi a1), some (vi a2), some (vi a3)] [] KS (am_up M 71 a1 a2) Q) : am_AtN m1_keep 41 [some (vr 69), some (vi a1), some (vi a2), some (vi a3)] [] KS M Q := by
  refine s_aload_n (show decode (am_cc m1_keep) 41 = .ok (.aload_n 0, 1) by decide +kernel) rfl ?_
  refine s_getf (k := 1) (v := vr 71) (show decode (am_cc m1_keep) 42 = .ok (.getfield 15, 3) by decide +kernel) kd69 (by decide) rfl jnX1 (by decide) lf_RX1_15 rfl ?_
  refine s_iload_n (show decode (am_cc m1_keep) 45 = .ok (.iload_n 1, 1) by decide +kernel) rfl ?_
  refine s_iload_n (show decode (am_cc m1_keep) 46 = .ok (.iload_n 2, 1) by decide +kernel) rfl ?_
  refine s_iastore (show decode (am_cc m1_keep) 47 = .ok (.iastore, 1) by decide +kernel) kd71 h1 h2 ?_
  refine s_goto (tgt := 62) (show decode (am_cc m1_keep) 48 = .ok (.goto 14, 3) by decide +kernel) (by decide) ?_
  exact k
theorem g1_keep_51 {a1 a2 a3 : Int} {M : am_M} {Q : Option am_V → am_M → Prop} (h1 : 0 ≤ a1) (h2 : a1 < 36) (k1 : ¬ M 71 a1 = a2 → am_AtN m1_keep 62 [some (vr 69), some (vi a1), some (vi a2), some (vi a3)] [] KS M Q) (k2 : M 71 a1 = a2 → am_AtN m1_keep 61 [some (vr 69), some (vi a1), some (vi a2), some (vi a3)] [] KS M Q) : am_AtN m1_keep 51 [some (vr 69), some (vi a1), some (vi a2), some (vi a3)] [] KS M Q := by
  refine s_aload_n (show decode (am_cc m1_keep) 51 = .ok (.aload_n 0, 1) by decide +kernel) rfl ?_
  refine s_getf (k := 1) (v := vr 71) (show decode (am_cc m1_keep) 52 = .ok (.getfield 15, 3) by decide +kernel) kd69 (by decide) rfl jnX1 (by decide) lf_RX1_15 rfl ?_
  refine s_iload_n (show decode (am_cc m1_keep) 55 = .ok (.iload_n 1, 1) by decide +kernel) rfl ?_
  refine s_iaload (show decode (am_cc m1_keep) 56 = .ok (.iaload, 1) by decide +kernel) kd71 h1 h2 ?_
  refine s_iload_n (show decode (am_cc m1_keep) 57 = .ok (.iload_n 2, 1) by decide +kernel) rfl ?_
  exact s_icmp_ne (tgt := 62) (show decode (am_cc m1_keep) 58 = .ok (.if_icmp .ne 4, 3) by decide +kernel) (by decide) k1 k2
theorem g1_keep_61 {a1 a2 a3 : Int} {M : am_M} {Q : Option am_V → am_M → Prop} (k : Q none M) : am_AtN m1_keep 61 [some (vr 69), some (vi a1), some (vi a2), some (vi a3)] [] KS M Q := by
  exact s_return (show decode (am_cc m1_keep) 61 = .ok (.return_, 1) by decide +kernel) rfl k
theorem g1_keep_62 {a1 a2 a3 : Int} {M : am_M} {Q : Option am_V → am_M → Prop} (h1 : 0 ≤ a1) (h2 : a1 < 36) (h3 : -2147483648 ≤ (M 70 a1) + 1 ∧ (M 70 a1) + 1 ≤ 2147483647) (h4 : 0 ≤ a1) (h5 : a1 < 36) (h6 : 0 ≤ (am_up M 70 a1 ((M 70 a1) + 1)) 69 5) (h7 : (am_up M 70 a1 ((M 70 a1) + 1)) 69 5 < 72) (h8 : 0 ≤ (am_up (am_up M 70 a1 ((M 70 a1) + 1)) 72 ((am_up M 70 a1 ((M 70 a1) + 1)) 69 5) a1) 69 5) (h9 : (am_up (am_up M 70 a1 ((M 70 a1) + 1)) 72 ((am_up M 70 a1 ((M 70 a1) + 1)) 69 5) a1) 69 5 < 72) (h10 : 0 ≤ (am_up (am_up (am_up M 70 a1 ((M 70 a1) + 1)) 72 ((am_up M 70 a1 ((M 70 a1) + 1)) 69 5) a1) 73 ((am_up (am_up M 70 a1 ((M 70 a1) + 1)) 72 ((am_up M 70 a1 ((M 70 a1) + 1)) 69 5) a1) 69 5) a2) 69 5) (h11 : (am_up (am_up (am_up M 70 a1 ((M 70 a1) + 1)) 72 ((am_up M 70 a1 ((M 70 a1) + 1)) 69 5) a1) 73 ((am_up (am_up M 70 a1 ((M 70 a1) + 1)) 72 ((am_up M 70 a1 ((M 70 a1) + 1)) 69 5) a1) 69 5) a2) 69 5 < 72) (h12 : -2147483648 ≤ ((am_up (am_up (am_up (am_up M 70 a1 ((M 70 a1) + 1)) 72 ((am_up M 70 a1 ((M 70 a1) + 1)) 69 5) a1) 73 ((am_up (am_up M 70 a1 ((M 70 a1) + 1)) 72 ((am_up M 70 a1 ((M 70 a1) + 1)) 69 5) a1) 69 5) a2) 74 ((am_up (am_up (am_up M 70 a1 ((M 70 a1) + 1)) 72 ((am_up M 70 a1 ((M 70 a1) + 1)) 69 5) a1) 73 ((am_up (am_up M 70 a1 ((M 70 a1) + 1)) 72 ((am_up M 70 a1 ((M 70 a1) + 1)) 69 5) a1) 69 5) a2) 69 5) a3) 69 5) + 1 ∧ ((am_up (am_up (am_up (am_up M 70 a1 ((M 70 a1) + 1)) 72 ((am_up M 70 a1 ((M 70 a1) + 1)) 69 5) a1) 73 ((am_up (am_up M 70 a1 ((M 70 a1) + 1)) 72 ((am_up M 70 a1 ((M 70 a1) + 1)) 69 5) a1) 69 5) a2) 74 ((am_up (am_up (am_up M 70 a1 ((M 70 a1) + 1)) 72 ((am_up M 70 a1 ((M 70 a1) + 1)) 69 5) a1) 73 ((am_up (am_up M 70 a1 ((M 70 a1) + 1)) 72 ((am_up M 70 a1 ((M 70 a1) + 1)) 69 5) a1) 69 5) a2) 69 5) a3) 69 5) + 1 ≤ 2147483647) (k : Q none (am_up (am_up (am_up (am_up (am_up M 70 a1 ((M 70 a1) + 1)) 72 ((am_up M 70 a1 ((M 70 a1) + 1)) 69 5) a1) 73 ((am_up (am_up M 70 a1 ((M 70 a1) + 1)) 72 ((am_up M 70 a1 ((M 70 a1) + 1)) 69 5) a1) 69 5) a2) 74 ((am_up (am_up (am_up M 70 a1 ((M 70 a1) + 1)) 72 ((am_up M 70 a1 ((M 70 a1) + 1)) 69 5) a1) 73 ((am_up (am_up M 70 a1 ((M 70 a1) + 1)) 72 ((am_up M 70 a1 ((M 70 a1) + 1)) 69 5) a1) 69 5) a2) 69 5) a3) 69 5 (((am_up (am_up (am_up (am_up M 70 a1 ((M 70 a1) + 1)) 72 ((am_up M 70 a1 ((M 70 a1) + 1)) 69 5) a1) 73 ((am_up (am_up M 70 a1 ((M 70 a1) + 1)) 72 ((am_up M 70 a1 ((M 70 a1) + 1)) 69 5) a1) 69 5) a2) 74 ((am_up (am_up (am_up M 70 a1 ((M 70 a1) + 1)) 72 ((am_up M 70 a1 ((M 70 a1) + 1)) 69 5) a1) 73 ((am_up (am_up M 70 a1 ((M 70 a1) + 1)) 72 ((am_up M 70 a1 ((M 70 a1) + 1)) 69 5) a1) 69 5) a2) 69 5) a3) 69 5) + 1))) : am_AtN m1_keep 62 [some (vr 69), some (vi a1), some (vi a2), some (vi a3)] [] KS M Q := by
  refine s_aload_n (show decode (am_cc m1_keep) 62 = .ok (.aload_n 0, 1) by decide +kernel) rfl ?_
  refine s_getf (k := 0) (v := vr 70) (show decode (am_cc m1_keep) 63 = .ok (.getfield 11, 3) by decide +kernel) kd69 (by decide) rfl jnX1 (by decide) lf_RX1_11 rfl ?_
  refine s_iload_n (show decode (am_cc m1_keep) 66 = .ok (.iload_n 1, 1) by decide +kernel) rfl ?_
  refine s_dup2 (show decode (am_cc m1_keep) 67 = .ok (.dup2, 1) by decide +kernel) ?_
  refine s_iaload (show decode (am_cc m1_keep) 68 = .ok (.iaload, 1) by decide +kernel) kd70 h1 h2 ?_
  refine s_iconst (show decode (am_cc m1_keep) 69 = .ok (.iconst 1, 1) by decide +kernel) ⟨by decide, by decide⟩ ?_
  refine s_iadd (show decode (am_cc m1_keep) 70 = .ok (.iadd, 1) by decide +kernel) h3 ?_
  refine s_iastore (show decode (am_cc m1_keep) 71 = .ok (.iastore, 1) by decide +kernel) kd70 h4 h5 ?_
  refine s_aload_n (show decode (am_cc m1_keep) 72 = .ok (.aload_n 0, 1) by decide +kernel) rfl ?_
  refine s_getf (k := 2) (v := vr 72) (show decode (am_cc m1_keep) 73 = .ok (.getfield 18, 3) by decide +kernel) kd69 (by decide) rfl jnX1 (by decide) lf_RX1_18 rfl ?_
  refine s_aload_n (show decode (am_cc m1_keep) 76 = .ok (.aload_n 0, 1) by decide +kernel) rfl ?_
  refine s_getf (k := 5) (v := vi ((am_up M 70 a1 ((M 70 a1) + 1)) 69 5)) (show decode (am_cc m1_keep) 77 = .ok (.getfield 27, 3) by decide +kernel) kd69 (by decide) rfl jnX1 (by decide) lf_RX1_27 rfl ?_
  refine s_iload_n (show decode (am_cc m1_keep) 80 = .ok (.iload_n 1, 1) by decide +kernel) rfl ?_
  refine s_iastore (show decode (am_cc m1_keep) 81 = .ok (.iastore, 1) by decide +kernel) kd72 h6 h7 ?_
  refine s_aload_n (show decode (am_cc m1_keep) 82 = .ok (.aload_n 0, 1) by decide +kernel) rfl ?_
  refine s_getf (k := 3) (v := vr 73) (show decode (am_cc m1_keep) 83 = .ok (.getfield 21, 3) by decide +kernel) kd69 (by decide) rfl jnX1 (by decide) lf_RX1_21 rfl ?_
  refine s_aload_n (show decode (am_cc m1_keep) 86 = .ok (.aload_n 0, 1) by decide +kernel) rfl ?_
  refine s_getf (k := 5) (v := vi ((am_up (am_up M 70 a1 ((M 70 a1) + 1)) 72 ((am_up M 70 a1 ((M 70 a1) + 1)) 69 5) a1) 69 5)) (show decode (am_cc m1_keep) 87 = .ok (.getfield 27, 3) by decide +kernel) kd69 (by decide) rfl jnX1 (by decide) lf_RX1_27 rfl ?_
  refine s_iload_n (show decode (am_cc m1_keep) 90 = .ok (.iload_n 2, 1) by decide +kernel) rfl ?_
  refine s_iastore (show decode (am_cc m1_keep) 91 = .ok (.iastore, 1) by decide +kernel) kd73 h8 h9 ?_
  refine s_aload_n (show decode (am_cc m1_keep) 92 = .ok (.aload_n 0, 1) by decide +kernel) rfl ?_
  refine s_getf (k := 4) (v := vr 74) (show decode (am_cc m1_keep) 93 = .ok (.getfield 24, 3) by decide +kernel) kd69 (by decide) rfl jnX1 (by decide) lf_RX1_24 rfl ?_
  refine s_aload_n (show decode (am_cc m1_keep) 96 = .ok (.aload_n 0, 1) by decide +kernel) rfl ?_
  refine s_getf (k := 5) (v := vi ((am_up (am_up (am_up M 70 a1 ((M 70 a1) + 1)) 72 ((am_up M 70 a1 ((M 70 a1) + 1)) 69 5) a1) 73 ((am_up (am_up M 70 a1 ((M 70 a1) + 1)) 72 ((am_up M 70 a1 ((M 70 a1) + 1)) 69 5) a1) 69 5) a2) 69 5)) (show decode (am_cc m1_keep) 97 = .ok (.getfield 27, 3) by decide +kernel) kd69 (by decide) rfl jnX1 (by decide) lf_RX1_27 rfl ?_
  refine s_iload_n (show decode (am_cc m1_keep) 100 = .ok (.iload_n 3, 1) by decide +kernel) rfl ?_
  refine s_iastore (show decode (am_cc m1_keep) 101 = .ok (.iastore, 1) by decide +kernel) kd74 h10 h11 ?_
  refine s_aload_n (show decode (am_cc m1_keep) 102 = .ok (.aload_n 0, 1) by decide +kernel) rfl ?_
  refine s_dupr (show decode (am_cc m1_keep) 103 = .ok (.dup, 1) by decide +kernel) ?_
  refine s_getf (k := 5) (v := vi ((am_up (am_up (am_up (am_up M 70 a1 ((M 70 a1) + 1)) 72 ((am_up M 70 a1 ((M 70 a1) + 1)) 69 5) a1) 73 ((am_up (am_up M 70 a1 ((M 70 a1) + 1)) 72 ((am_up M 70 a1 ((M 70 a1) + 1)) 69 5) a1) 69 5) a2) 74 ((am_up (am_up (am_up M 70 a1 ((M 70 a1) + 1)) 72 ((am_up M 70 a1 ((M 70 a1) + 1)) 69 5) a1) 73 ((am_up (am_up M 70 a1 ((M 70 a1) + 1)) 72 ((am_up M 70 a1 ((M 70 a1) + 1)) 69 5) a1) 69 5) a2) 69 5) a3) 69 5)) (show decode (am_cc m1_keep) 104 = .ok (.getfield 27, 3) by decide +kernel) kd69 (by decide) rfl jnX1 (by decide) lf_RX1_27 rfl ?_
  refine s_iconst (show decode (am_cc m1_keep) 107 = .ok (.iconst 1, 1) by decide +kernel) ⟨by decide, by decide⟩ ?_
  refine s_iadd (show decode (am_cc m1_keep) 108 = .ok (.iadd, 1) by decide +kernel) h12 ?_
  refine s_putf (k := 5) (x := ((am_up (am_up (am_up (am_up M 70 a1 ((M 70 a1) + 1)) 72 ((am_up M 70 a1 ((M 70 a1) + 1)) 69 5) a1) 73 ((am_up (am_up M 70 a1 ((M 70 a1) + 1)) 72 ((am_up M 70 a1 ((M 70 a1) + 1)) 69 5) a1) 69 5) a2) 74 ((am_up (am_up (am_up M 70 a1 ((M 70 a1) + 1)) 72 ((am_up M 70 a1 ((M 70 a1) + 1)) 69 5) a1) 73 ((am_up (am_up M 70 a1 ((M 70 a1) + 1)) 72 ((am_up M 70 a1 ((M 70 a1) + 1)) 69 5) a1) 69 5) a2) 69 5) a3) 69 5) + 1) (ty0 := tyX1) (show decode (am_cc m1_keep) 109 = .ok (.putfield 27, 3) by decide +kernel) kd69 (by decide) rfl jnX1 tyX1_ok nmX1 (by decide) lf_RX1_27 rfl (Or.inl ⟨rfl, rfl, rfl⟩) ?_
  exact s_return (show decode (am_cc m1_keep) 112 = .ok (.return_, 1) by decide +kernel) rfl k
