theorem g8_within_0 {a0 a1 : Int} {K : am_K} {M : am_M} {Q : Option am_V → am_M → Prop} (k1 : a0 < 0 → am_AtN m8_within 13 [some (vi a0), some (vi a1)] [] K M Q) (k2 : ¬ (a0 < 0) → am_AtN m8_within 4 [some (vi a0), some (vi a1)] [] K M Q) : am_AtN m8_within 0 [some (vi a0), some (vi a1)] [] K M Q := by
  refine s_iload_n (show decode (am_cc m8_within) 0 = .ok (.iload_n 0, 1) by decide +kernel) rfl ?_
  exact s_if_lt (tgt := 13) (show decode (am_cc m8_within) 1 = .ok (.ifCond .lt 12, 3) by decide +kernel) (by decide) k1 k2
theorem g8_within_4 {a0 a1 : Int} {K : am_K} {M : am_M} {Q : Option am_V → am_M → Prop} (k1 : a1 ≤ a0 → am_AtN m8_within 13 [some (vi a0), some (vi a1)] [] K M Q) (k2 : ¬ (a1 ≤ a0) → am_AtN m8_within 9 [some (vi a0), some (vi a1)] [] K M Q) : am_AtN m8_within 4 [some (vi a0), some (vi a1)] [] K M Q := by
  refine s_iload_n (show decode (am_cc m8_within) 4 = .ok (.iload_n 0, 1) by decide +kernel) rfl ?_
  refine s_iload_n (show decode (am_cc m8_within) 5 = .ok (.iload_n 1, 1) by decide +kernel) rfl ?_
  exact s_icmp_ge (tgt := 13) (show decode (am_cc m8_within) 6 = .ok (.if_icmp .ge 7, 3) by decide +kernel) (by decide) k1 k2
theorem g8_within_9 {a0 a1 : Int} {K : am_K} {M : am_M} {Q : Option am_V → am_M → Prop} (k : am_AtN m8_within 14 [some (vi a0), some (vi a1)] [vi 1] K M Q) : am_AtN m8_within 9 [some (vi a0), some (vi a1)] [] K M Q := by
  refine s_iconst (show decode (am_cc m8_within) 9 = .ok (.iconst 1, 1) by decide +kernel) ⟨by decide, by decide⟩ ?_
  refine s_goto (tgt := 14) (show decode (am_cc m8_within) 10 = .ok (.goto 4, 3) by decide +kernel) (by decide) ?_
  exact k
theorem g8_within_13 {a0 a1 : Int} {K : am_K} {M : am_M} {Q : Option am_V → am_M → Prop} (k : am_AtN m8_within 14 [some (vi a0), some (vi a1)] [vi 0] K M Q) : am_AtN m8_within 13 [some (vi a0), some (vi a1)] [] K M Q := by
  refine s_iconst (show decode (am_cc m8_within) 13 = .ok (.iconst 0, 1) by decide +kernel) ⟨by decide, by decide⟩ ?_
  exact k
theorem g8_within_14 {a0 a1 t0 : Int} {K : am_K} {M : am_M} {Q : Option am_V → am_M → Prop} (h1 : t0 = 0 ∨ t0 = 1) (k : Q (some (vi t0)) M) : am_AtN m8_within 14 [some (vi a0), some (vi a1)] [vi t0] K M Q := by
  exact s_zreturn (show decode (am_cc m8_within) 14 = .ok (.ireturn, 1) by decide +kernel) rfl h1 k
theorem g8_oneIf_0 {a0 : Int} {K : am_K} {M : am_M} {Q : Option am_V → am_M → Prop} (k1 : a0 = 0 → am_AtN m8_oneIf 8 [some (vi a0)] [] K M Q) (k2 : ¬ (a0 = 0) → am_AtN m8_oneIf 4 [some (vi a0)] [] K M Q) : am_AtN m8_oneIf 0 [some (vi a0)] [] K M Q := by
  refine s_iload_n (show decode (am_cc m8_oneIf) 0 = .ok (.iload_n 0, 1) by decide +kernel) rfl ?_
  exact s_if_eq (tgt := 8) (show decode (am_cc m8_oneIf) 1 = .ok (.ifCond .eq 7, 3) by decide +kernel) (by decide) k1 k2
theorem g8_oneIf_4 {a0 : Int} {K : am_K} {M : am_M} {Q : Option am_V → am_M → Prop} (k : am_AtN m8_oneIf 9 [some (vi a0)] [vi 1] K M Q) : am_AtN m8_oneIf 4 [some (vi a0)] [] K M Q := by
  refine s_iconst (show decode (am_cc m8_oneIf) 4 = .ok (.iconst 1, 1) by decide +kernel) ⟨by decide, by decide⟩ ?_
  refine s_goto (tgt := 9) (show decode (am_cc m8_oneIf) 5 = .ok (.goto 4, 3) by decide +kernel) (by decide) ?_
  exact k
theorem g8_oneIf_8 {a0 : Int} {K : am_K} {M : am_M} {Q : Option am_V → am_M → Prop} (k : am_AtN m8_oneIf 9 [some (vi a0)] [vi 0] K M Q) : am_AtN m8_oneIf 8 [some (vi a0)] [] K M Q := by
  refine s_iconst (show decode (am_cc m8_oneIf) 8 = .ok (.iconst 0, 1) by decide +kernel) ⟨by decide, by decide⟩ ?_
  exact k
theorem g8_oneIf_9 {a0 t0 : Int} {K : am_K} {M : am_M} {Q : Option am_V → am_M → Prop} (k : Q (some (vi t0)) M) : am_AtN m8_oneIf 9 [some (vi a0)] [vi t0] K M Q := by
  exact s_ireturn (show decode (am_cc m8_oneIf) 9 = .ok (.ireturn, 1) by decide +kernel) rfl k
theorem g8_isWord_0 {a0 a1 : Int} {K : am_K} {M : am_M} {Q : Option am_V → am_M → Prop} (k : am_CallN m8_within [vi a0, vi 21] K M (fun r M' => am_AtN m8_isWord 6 [some (vi a0), some (vi a1), none] (r.toList ++ []) K M' Q)) : am_AtN m8_isWord 0 [some (vi a0), some (vi a1), none] [] K M Q := by
  refine s_iload_n (show decode (am_cc m8_isWord) 0 = .ok (.iload_n 0, 1) by decide +kernel) rfl ?_
  refine s_bipush (show decode (am_cc m8_isWord) 1 = .ok (.bipush 21, 2) by decide +kernel) ⟨by decide, by decide⟩ (by decide) ?_
  exact n_callS (as := [vi a0, vi 21]) (stk := []) (show decode (am_cc m8_isWord) 3 = .ok (.invokestatic 114, 3) by decide +kernel) lk_RX8_114 (by decide) (Nat.le_of_ble_eq_true rfl) ⟨rfl, rfl⟩ k
theorem g8_isWord_6 {a0 a1 t0 : Int} {K : am_K} {M : am_M} {Q : Option am_V → am_M → Prop} (k1 : ¬ t0 = 0 → am_AtN m8_isWord 11 [some (vi a0), some (vi a1), none] [] K M Q) (k2 : t0 = 0 → am_AtN m8_isWord 9 [some (vi a0), some (vi a1), none] [] K M Q) : am_AtN m8_isWord 6 [some (vi a0), some (vi a1), none] [vi t0] K M Q := by
  exact s_if_ne (tgt := 11) (show decode (am_cc m8_isWord) 6 = .ok (.ifCond .ne 5, 3) by decide +kernel) (by decide) k1 k2
theorem g8_isWord_9 {a0 a1 : Int} {K : am_K} {M : am_M} {Q : Option am_V → am_M → Prop} (k : Q (some (vi 0)) M) : am_AtN m8_isWord 9 [some (vi a0), some (vi a1), none] [] K M Q := by
  refine s_iconst (show decode (am_cc m8_isWord) 9 = .ok (.iconst 0, 1) by decide +kernel) ⟨by decide, by decide⟩ ?_
  exact s_zreturn (show decode (am_cc m8_isWord) 10 = .ok (.ireturn, 1) by decide +kernel) rfl (by decide) k
theorem g8_isWord_11 {a0 a1 : Int} {K : am_K} {M : am_M} {Q : Option am_V → am_M → Prop} (k : am_AtN m8_isWord 13 [some (vi a0), some (vi a1), some (vi 0)] [] K M Q) : am_AtN m8_isWord 11 [some (vi a0), some (vi a1), none] [] K M Q := by
  refine s_iconst (show decode (am_cc m8_isWord) 11 = .ok (.iconst 0, 1) by decide +kernel) ⟨by decide, by decide⟩ ?_
  refine s_istore_n (show decode (am_cc m8_isWord) 12 = .ok (.istore_n 2, 1) by decide +kernel) (by decide) ?_
  exact k
theorem g8_isWord_13 {a0 a1 a2 : Int} {K : am_K} {M : am_M} {Q : Option am_V → am_M → Prop} (k : am_CallN m8_wordLength [vi a0] K M (fun r M' => am_AtN m8_isWord 18 [some (vi a0), some (vi a1), some (vi a2)] (r.toList ++ [vi a2]) K M' Q)) : am_AtN m8_isWord 13 [some (vi a0), some (vi a1), some (vi a2)] [] K M Q := by
  refine s_iload_n (show decode (am_cc m8_isWord) 13 = .ok (.iload_n 2, 1) by decide +kernel) rfl ?_
  refine s_iload_n (show decode (am_cc m8_isWord) 14 = .ok (.iload_n 0, 1) by decide +kernel) rfl ?_
  exact n_callS (as := [vi a0]) (stk := [vi a2]) (show decode (am_cc m8_isWord) 15 = .ok (.invokestatic 264, 3) by decide +kernel) lk_RX8_264 (by decide) (Nat.le_of_ble_eq_true rfl) ⟨rfl, rfl⟩ k
theorem g8_isWord_18 {a0 a1 a2 t0 t1 : Int} {K : am_K} {M : am_M} {Q : Option am_V → am_M → Prop} (k1 : t1 ≤ t0 → am_AtN m8_isWord 38 [some (vi a0), some (vi a1), some (vi a2)] [] K M Q) (k2 : ¬ (t1 ≤ t0) → am_AtN m8_isWord 21 [some (vi a0), some (vi a1), some (vi a2)] [] K M Q) : am_AtN m8_isWord 18 [some (vi a0), some (vi a1), some (vi a2)] [vi t1, vi t0] K M Q := by
  exact s_icmp_ge (tgt := 38) (show decode (am_cc m8_isWord) 18 = .ok (.if_icmp .ge 20, 3) by decide +kernel) (by decide) k1 k2
theorem g8_isWord_21 {a0 a1 a2 : Int} {K : am_K} {M : am_M} {Q : Option am_V → am_M → Prop} (k : am_CallN m8_wordLetter [vi a0, vi a2] K M (fun r M' => am_AtN m8_isWord 26 [some (vi a0), some (vi a1), some (vi a2)] (r.toList ++ []) K M' Q)) : am_AtN m8_isWord 21 [some (vi a0), some (vi a1), some (vi a2)] [] K M Q := by
  refine s_iload_n (show decode (am_cc m8_isWord) 21 = .ok (.iload_n 0, 1) by decide +kernel) rfl ?_
  refine s_iload_n (show decode (am_cc m8_isWord) 22 = .ok (.iload_n 2, 1) by decide +kernel) rfl ?_
  exact n_callS (as := [vi a0, vi a2]) (stk := []) (show decode (am_cc m8_isWord) 23 = .ok (.invokestatic 267, 3) by decide +kernel) lk_RX8_267 (by decide) (Nat.le_of_ble_eq_true rfl) ⟨rfl, rfl⟩ k
theorem g8_isWord_26 {a0 a1 a2 t0 : Int} {K : am_K} {M : am_M} {Q : Option am_V → am_M → Prop} (k1 : t0 < a1 → am_AtN m8_isWord 32 [some (vi a0), some (vi a1), some (vi a2)] [] K M Q) (k2 : ¬ (t0 < a1) → am_AtN m8_isWord 30 [some (vi a0), some (vi a1), some (vi a2)] [] K M Q) : am_AtN m8_isWord 26 [some (vi a0), some (vi a1), some (vi a2)] [vi t0] K M Q := by
  refine s_iload_n (show decode (am_cc m8_isWord) 26 = .ok (.iload_n 1, 1) by decide +kernel) rfl ?_
  exact s_icmp_lt (tgt := 32) (show decode (am_cc m8_isWord) 27 = .ok (.if_icmp .lt 5, 3) by decide +kernel) (by decide) k1 k2
theorem g8_isWord_30 {a0 a1 a2 : Int} {K : am_K} {M : am_M} {Q : Option am_V → am_M → Prop} (k : Q (some (vi 0)) M) : am_AtN m8_isWord 30 [some (vi a0), some (vi a1), some (vi a2)] [] K M Q := by
  refine s_iconst (show decode (am_cc m8_isWord) 30 = .ok (.iconst 0, 1) by decide +kernel) ⟨by decide, by decide⟩ ?_
  exact s_zreturn (show decode (am_cc m8_isWord) 31 = .ok (.ireturn, 1) by decide +kernel) rfl (by decide) k
theorem g8_isWord_32 {a0 a1 a2 : Int} {K : am_K} {M : am_M} {Q : Option am_V → am_M → Prop} (h1 : -2147483648 ≤ a2 + 1 ∧ a2 + 1 ≤ 2147483647) (k : am_AtN m8_isWord 13 [some (vi a0), some (vi a1), some (vi (a2 + 1))] [] K M Q) : am_AtN m8_isWord 32 [some (vi a0), some (vi a1), some (vi a2)] [] K M Q := by
  refine s_iinc (show decode (am_cc m8_isWord) 32 = .ok (.iinc 2 1, 3) by decide +kernel) rfl (by decide) h1 ?_
  refine s_goto (tgt := 13) (show decode (am_cc m8_isWord) 35 = .ok (.goto (-22), 3) by decide +kernel) (by decide) ?_
  exact k
theorem g8_isWord_38 {a0 a1 a2 : Int} {K : am_K} {M : am_M} {Q : Option am_V → am_M → Prop} (k : Q (some (vi 1)) M) : am_AtN m8_isWord 38 [some (vi a0), some (vi a1), some (vi a2)] [] K M Q := by
  refine s_iconst (show decode (am_cc m8_isWord) 38 = .ok (.iconst 1, 1) by decide +kernel) ⟨by decide, by decide⟩ ?_
  exact s_zreturn (show decode (am_cc m8_isWord) 39 = .ok (.ireturn, 1) by decide +kernel) rfl (by decide) k
theorem g8_wordLength_0 {a0 : Int} {K : am_K} {M : am_M} {Q : Option am_V → am_M → Prop} (k1 : 1 ≤ a0 → am_AtN m8_wordLength 7 [some (vi a0)] [] K M Q) (k2 : ¬ (1 ≤ a0) → am_AtN m8_wordLength 5 [some (vi a0)] [] K M Q) : am_AtN m8_wordLength 0 [some (vi a0)] [] K M Q := by
  refine s_iload_n (show decode (am_cc m8_wordLength) 0 = .ok (.iload_n 0, 1) by decide +kernel) rfl ?_
  refine s_iconst (show decode (am_cc m8_wordLength) 1 = .ok (.iconst 1, 1) by decide +kernel) ⟨by decide, by decide⟩ ?_
  exact s_icmp_ge (tgt := 7) (show decode (am_cc m8_wordLength) 2 = .ok (.if_icmp .ge 5, 3) by decide +kernel) (by decide) k1 k2
theorem g8_wordLength_5 {a0 : Int} {K : am_K} {M : am_M} {Q : Option am_V → am_M → Prop} (k : Q (some (vi 0)) M) : am_AtN m8_wordLength 5 [some (vi a0)] [] K M Q := by
  refine s_iconst (show decode (am_cc m8_wordLength) 5 = .ok (.iconst 0, 1) by decide +kernel) ⟨by decide, by decide⟩ ?_
  exact s_ireturn (show decode (am_cc m8_wordLength) 6 = .ok (.ireturn, 1) by decide +kernel) rfl k
theorem g8_wordLength_7 {a0 : Int} {K : am_K} {M : am_M} {Q : Option am_V → am_M → Prop} (k1 : 5 ≤ a0 → am_AtN m8_wordLength 16 [some (vi a0)] [] K M Q) (k2 : ¬ (5 ≤ a0) → am_AtN m8_wordLength 12 [some (vi a0)] [] K M Q) : am_AtN m8_wordLength 7 [some (vi a0)] [] K M Q := by
  refine s_iload_n (show decode (am_cc m8_wordLength) 7 = .ok (.iload_n 0, 1) by decide +kernel) rfl ?_
  refine s_iconst (show decode (am_cc m8_wordLength) 8 = .ok (.iconst 5, 1) by decide +kernel) ⟨by decide, by decide⟩ ?_
  exact s_icmp_ge (tgt := 16) (show decode (am_cc m8_wordLength) 9 = .ok (.if_icmp .ge 7, 3) by decide +kernel) (by decide) k1 k2
theorem g8_wordLength_12 {a0 : Int} {K : am_K} {M : am_M} {Q : Option am_V → am_M → Prop} (k : am_AtN m8_wordLength 17 [some (vi a0)] [vi 1] K M Q) : am_AtN m8_wordLength 12 [some (vi a0)] [] K M Q := by
  refine s_iconst (show decode (am_cc m8_wordLength) 12 = .ok (.iconst 1, 1) by decide +kernel) ⟨by decide, by decide⟩ ?_
  refine s_goto (tgt := 17) (show decode (am_cc m8_wordLength) 13 = .ok (.goto 4, 3) by decide +kernel) (by decide) ?_
  exact k
theorem g8_wordLength_16 {a0 : Int} {K : am_K} {M : am_M} {Q : Option am_V → am_M → Prop} (k : am_AtN m8_wordLength 17 [some (vi a0)] [vi 2] K M Q) : am_AtN m8_wordLength 16 [some (vi a0)] [] K M Q := by
  refine s_iconst (show decode (am_cc m8_wordLength) 16 = .ok (.iconst 2, 1) by decide +kernel) ⟨by decide, by decide⟩ ?_
  exact k
theorem g8_wordLength_17 {a0 t0 : Int} {K : am_K} {M : am_M} {Q : Option am_V → am_M → Prop} (k : Q (some (vi t0)) M) : am_AtN m8_wordLength 17 [some (vi a0)] [vi t0] K M Q := by
  exact s_ireturn (show decode (am_cc m8_wordLength) 17 = .ok (.ireturn, 1) by decide +kernel) rfl k
theorem g8_wordLetter_0 {a0 a1 : Int} {K : am_K} {M : am_M} {Q : Option am_V → am_M → Prop} (k1 : 5 ≤ a0 → am_AtN m8_wordLetter 9 [some (vi a0), some (vi a1)] [] K M Q) (k2 : ¬ (5 ≤ a0) → am_AtN m8_wordLetter 5 [some (vi a0), some (vi a1)] [] K M Q) : am_AtN m8_wordLetter 0 [some (vi a0), some (vi a1)] [] K M Q := by
  refine s_iload_n (show decode (am_cc m8_wordLetter) 0 = .ok (.iload_n 0, 1) by decide +kernel) rfl ?_
  refine s_iconst (show decode (am_cc m8_wordLetter) 1 = .ok (.iconst 5, 1) by decide +kernel) ⟨by decide, by decide⟩ ?_
  exact s_icmp_ge (tgt := 9) (show decode (am_cc m8_wordLetter) 2 = .ok (.if_icmp .ge 7, 3) by decide +kernel) (by decide) k1 k2
theorem g8_wordLetter_5 {a0 a1 : Int} {K : am_K} {M : am_M} {Q : Option am_V → am_M → Prop} (h1 : -2147483648 ≤ a0 - 1 ∧ a0 - 1 ≤ 2147483647) (k : Q (some (vi (a0 - 1))) M) : am_AtN m8_wordLetter 5 [some (vi a0), some (vi a1)] [] K M Q := by
  refine s_iload_n (show decode (am_cc m8_wordLetter) 5 = .ok (.iload_n 0, 1) by decide +kernel) rfl ?_
  refine s_iconst (show decode (am_cc m8_wordLetter) 6 = .ok (.iconst 1, 1) by decide +kernel) ⟨by decide, by decide⟩ ?_
  refine s_isub (show decode (am_cc m8_wordLetter) 7 = .ok (.isub, 1) by decide +kernel) h1 ?_
  exact s_ireturn (show decode (am_cc m8_wordLetter) 8 = .ok (.ireturn, 1) by decide +kernel) rfl k
theorem g8_wordLetter_9 {a0 a1 : Int} {K : am_K} {M : am_M} {Q : Option am_V → am_M → Prop} (k1 : ¬ a1 = 0 → am_AtN m8_wordLetter 21 [some (vi a0), some (vi a1)] [] K M Q) (k2 : a1 = 0 → am_AtN m8_wordLetter 13 [some (vi a0), some (vi a1)] [] K M Q) : am_AtN m8_wordLetter 9 [some (vi a0), some (vi a1)] [] K M Q := by
  refine s_iload_n (show decode (am_cc m8_wordLetter) 9 = .ok (.iload_n 1, 1) by decide +kernel) rfl ?_
  exact s_if_ne (tgt := 21) (show decode (am_cc m8_wordLetter) 10 = .ok (.ifCond .ne 11, 3) by decide +kernel) (by decide) k1 k2
theorem g8_wordLetter_13 {a0 a1 : Int} {K : am_K} {M : am_M} {Q : Option am_V → am_M → Prop} (h1 : -2147483648 ≤ a0 - 5 ∧ a0 - 5 ≤ 2147483647) (h2 : 0 ≤ a0 - 5) (k : am_AtN m8_wordLetter 26 [some (vi a0), some (vi a1)] [vi ((a0 - 5) / 4)] K M Q) : am_AtN m8_wordLetter 13 [some (vi a0), some (vi a1)] [] K M Q := by
  refine s_iload_n (show decode (am_cc m8_wordLetter) 13 = .ok (.iload_n 0, 1) by decide +kernel) rfl ?_
  refine s_iconst (show decode (am_cc m8_wordLetter) 14 = .ok (.iconst 5, 1) by decide +kernel) ⟨by decide, by decide⟩ ?_
  refine s_isub (show decode (am_cc m8_wordLetter) 15 = .ok (.isub, 1) by decide +kernel) h1 ?_
  refine s_iconst (show decode (am_cc m8_wordLetter) 16 = .ok (.iconst 4, 1) by decide +kernel) ⟨by decide, by decide⟩ ?_
  refine s_idiv (show decode (am_cc m8_wordLetter) 17 = .ok (.idiv, 1) by decide +kernel) h2 (by decide) ?_
  refine s_goto (tgt := 26) (show decode (am_cc m8_wordLetter) 18 = .ok (.goto 8, 3) by decide +kernel) (by decide) ?_
  exact k
theorem g8_wordLetter_21 {a0 a1 : Int} {K : am_K} {M : am_M} {Q : Option am_V → am_M → Prop} (h1 : -2147483648 ≤ a0 - 5 ∧ a0 - 5 ≤ 2147483647) (h2 : 0 ≤ a0 - 5) (k : am_AtN m8_wordLetter 26 [some (vi a0), some (vi a1)] [vi ((a0 - 5) % 4)] K M Q) : am_AtN m8_wordLetter 21 [some (vi a0), some (vi a1)] [] K M Q := by
  refine s_iload_n (show decode (am_cc m8_wordLetter) 21 = .ok (.iload_n 0, 1) by decide +kernel) rfl ?_
  refine s_iconst (show decode (am_cc m8_wordLetter) 22 = .ok (.iconst 5, 1) by decide +kernel) ⟨by decide, by decide⟩ ?_
  refine s_isub (show decode (am_cc m8_wordLetter) 23 = .ok (.isub, 1) by decide +kernel) h1 ?_
  refine s_iconst (show decode (am_cc m8_wordLetter) 24 = .ok (.iconst 4, 1) by decide +kernel) ⟨by decide, by decide⟩ ?_
  refine s_irem (show decode (am_cc m8_wordLetter) 25 = .ok (.irem, 1) by decide +kernel) h2 (by decide) ?_
  exact k
theorem g8_wordLetter_26 {a0 a1 t0 : Int} {K : am_K} {M : am_M} {Q : Option am_V → am_M → Prop} (k : Q (some (vi t0)) M) : am_AtN m8_wordLetter 26 [some (vi a0), some (vi a1)] [vi t0] K M Q := by
  exact s_ireturn (show decode (am_cc m8_wordLetter) 26 = .ok (.ireturn, 1) by decide +kernel) rfl k
theorem g8_timesIn_0 {a0 a1 : Int} {K : am_K} {M : am_M} {Q : Option am_V → am_M → Prop} (k : am_AtN m8_timesIn 4 [some (vi a0), some (vi a1), some (vi 0), some (vi 0)] [] K M Q) : am_AtN m8_timesIn 0 [some (vi a0), some (vi a1), none, none] [] K M Q := by
  refine s_iconst (show decode (am_cc m8_timesIn) 0 = .ok (.iconst 0, 1) by decide +kernel) ⟨by decide, by decide⟩ ?_
  refine s_istore_n (show decode (am_cc m8_timesIn) 1 = .ok (.istore_n 2, 1) by decide +kernel) (by decide) ?_
  refine s_iconst (show decode (am_cc m8_timesIn) 2 = .ok (.iconst 0, 1) by decide +kernel) ⟨by decide, by decide⟩ ?_
  refine s_istore_n (show decode (am_cc m8_timesIn) 3 = .ok (.istore_n 3, 1) by decide +kernel) (by decide) ?_
  exact k
theorem g8_timesIn_4 {a0 a1 a2 a3 : Int} {K : am_K} {M : am_M} {Q : Option am_V → am_M → Prop} (k : am_CallN m8_wordLength [vi a0] K M (fun r M' => am_AtN m8_timesIn 9 [some (vi a0), some (vi a1), some (vi a2), some (vi a3)] (r.toList ++ [vi a3]) K M' Q)) : am_AtN m8_timesIn 4 [some (vi a0), some (vi a1), some (vi a2), some (vi a3)] [] K M Q := by
  refine s_iload_n (show decode (am_cc m8_timesIn) 4 = .ok (.iload_n 3, 1) by decide +kernel) rfl ?_
  refine s_iload_n (show decode (am_cc m8_timesIn) 5 = .ok (.iload_n 0, 1) by decide +kernel) rfl ?_
  exact n_callS (as := [vi a0]) (stk := [vi a3]) (show decode (am_cc m8_timesIn) 6 = .ok (.invokestatic 264, 3) by decide +kernel) lk_RX8_264 (by decide) (Nat.le_of_ble_eq_true rfl) ⟨rfl, rfl⟩ k
theorem g8_timesIn_9 {a0 a1 a2 a3 t0 t1 : Int} {K : am_K} {M : am_M} {Q : Option am_V → am_M → Prop} (k1 : t1 ≤ t0 → am_AtN m8_timesIn 30 [some (vi a0), some (vi a1), some (vi a2), some (vi a3)] [] K M Q) (k2 : ¬ (t1 ≤ t0) → am_AtN m8_timesIn 12 [some (vi a0), some (vi a1), some (vi a2), some (vi a3)] [] K M Q) : am_AtN m8_timesIn 9 [some (vi a0), some (vi a1), some (vi a2), some (vi a3)] [vi t1, vi t0] K M Q := by
  exact s_icmp_ge (tgt := 30) (show decode (am_cc m8_timesIn) 9 = .ok (.if_icmp .ge 21, 3) by decide +kernel) (by decide) k1 k2
theorem g8_timesIn_12 {a0 a1 a2 a3 : Int} {K : am_K} {M : am_M} {Q : Option am_V → am_M → Prop} (k : am_CallN m8_wordLetter [vi a0, vi a3] K M (fun r M' => am_AtN m8_timesIn 17 [some (vi a0), some (vi a1), some (vi a2), some (vi a3)] (r.toList ++ []) K M' Q)) : am_AtN m8_timesIn 12 [some (vi a0), some (vi a1), some (vi a2), some (vi a3)] [] K M Q := by
  refine s_iload_n (show decode (am_cc m8_timesIn) 12 = .ok (.iload_n 0, 1) by decide +kernel) rfl ?_
  refine s_iload_n (show decode (am_cc m8_timesIn) 13 = .ok (.iload_n 3, 1) by decide +kernel) rfl ?_
  exact n_callS (as := [vi a0, vi a3]) (stk := []) (show decode (am_cc m8_timesIn) 14 = .ok (.invokestatic 267, 3) by decide +kernel) lk_RX8_267 (by decide) (Nat.le_of_ble_eq_true rfl) ⟨rfl, rfl⟩ k
theorem g8_timesIn_17 {a0 a1 a2 a3 t0 : Int} {K : am_K} {M : am_M} {Q : Option am_V → am_M → Prop} (k1 : ¬ t0 = a1 → am_AtN m8_timesIn 24 [some (vi a0), some (vi a1), some (vi a2), some (vi a3)] [] K M Q) (k2 : t0 = a1 → am_AtN m8_timesIn 21 [some (vi a0), some (vi a1), some (vi a2), some (vi a3)] [] K M Q) : am_AtN m8_timesIn 17 [some (vi a0), some (vi a1), some (vi a2), some (vi a3)] [vi t0] K M Q := by
  refine s_iload_n (show decode (am_cc m8_timesIn) 17 = .ok (.iload_n 1, 1) by decide +kernel) rfl ?_
  exact s_icmp_ne (tgt := 24) (show decode (am_cc m8_timesIn) 18 = .ok (.if_icmp .ne 6, 3) by decide +kernel) (by decide) k1 k2
theorem g8_timesIn_21 {a0 a1 a2 a3 : Int} {K : am_K} {M : am_M} {Q : Option am_V → am_M → Prop} (h1 : -2147483648 ≤ a2 + 1 ∧ a2 + 1 ≤ 2147483647) (k : am_AtN m8_timesIn 24 [some (vi a0), some (vi a1), some (vi (a2 + 1)), some (vi a3)] [] K M Q) : am_AtN m8_timesIn 21 [some (vi a0), some (vi a1), some (vi a2), some (vi a3)] [] K M Q := by
  refine s_iinc (show decode (am_cc m8_timesIn) 21 = .ok (.iinc 2 1, 3) by decide +kernel) rfl (by decide) h1 ?_
  exact k
theorem g8_timesIn_24 {a0 a1 a2 a3 : Int} {K : am_K} {M : am_M} {Q : Option am_V → am_M → Prop} (h1 : -2147483648 ≤ a3 + 1 ∧ a3 + 1 ≤ 2147483647) (k : am_AtN m8_timesIn 4 [some (vi a0), some (vi a1), some (vi a2), some (vi (a3 + 1))] [] K M Q) : am_AtN m8_timesIn 24 [some (vi a0), some (vi a1), some (vi a2), some (vi a3)] [] K M Q := by
  refine s_iinc (show decode (am_cc m8_timesIn) 24 = .ok (.iinc 3 1, 3) by decide +kernel) rfl (by decide) h1 ?_
  refine s_goto (tgt := 4) (show decode (am_cc m8_timesIn) 27 = .ok (.goto (-23), 3) by decide +kernel) (by decide) ?_
  exact k
theorem g8_timesIn_30 {a0 a1 a2 a3 : Int} {K : am_K} {M : am_M} {Q : Option am_V → am_M → Prop} (k : Q (some (vi a2)) M) : am_AtN m8_timesIn 30 [some (vi a0), some (vi a1), some (vi a2), some (vi a3)] [] K M Q := by
  refine s_iload_n (show decode (am_cc m8_timesIn) 30 = .ok (.iload_n 2, 1) by decide +kernel) rfl ?_
  exact s_ireturn (show decode (am_cc m8_timesIn) 31 = .ok (.ireturn, 1) by decide +kernel) rfl k
theorem gJ_fill_0 {a0 a1 : Int} {K : am_K} {M : am_M} {Q : Option am_V → am_M → Prop} {n0 : Nat} {q0 : List Int} (h1 : am_kd K a0 = some (11, n0, q0)) (h2 : -2147483648 ≤ (n0 : Int) ∧ (n0 : Int) ≤ 2147483647) (k : am_AtN mJ_fill 5 [some (vr a0), some (vi a1), some (vi 0), some (vi (n0 : Int))] [] K M Q) : am_AtN mJ_fill 0 [some (vr a0), some (vi a1), none, none] [] K M Q := by
  refine s_iconst (show decode (am_cc mJ_fill) 0 = .ok (.iconst 0, 1) by decide +kernel) ⟨by decide, by decide⟩ ?_
  refine s_istore_n (show decode (am_cc mJ_fill) 1 = .ok (.istore_n 2, 1) by decide +kernel) (by decide) ?_
  refine s_aload_n (show decode (am_cc mJ_fill) 2 = .ok (.aload_n 0, 1) by decide +kernel) rfl ?_
  refine s_alen (show decode (am_cc mJ_fill) 3 = .ok (.arraylength, 1) by decide +kernel) h1 rfl h2 ?_
  refine s_istore_n (show decode (am_cc mJ_fill) 4 = .ok (.istore_n 3, 1) by decide +kernel) (by decide) ?_
  exact k
theorem gJ_fill_5 {a0 a1 a2 a3 : Int} {K : am_K} {M : am_M} {Q : Option am_V → am_M → Prop} (k1 : a3 ≤ a2 → am_AtN mJ_fill 20 [some (vr a0), some (vi a1), some (vi a2), some (vi a3)] [] K M Q) (k2 : ¬ (a3 ≤ a2) → am_AtN mJ_fill 10 [some (vr a0), some (vi a1), some (vi a2), some (vi a3)] [] K M Q) : am_AtN mJ_fill 5 [some (vr a0), some (vi a1), some (vi a2), some (vi a3)] [] K M Q := by
  refine s_iload_n (show decode (am_cc mJ_fill) 5 = .ok (.iload_n 2, 1) by decide +kernel) rfl ?_
  refine s_iload_n (show decode (am_cc mJ_fill) 6 = .ok (.iload_n 3, 1) by decide +kernel) rfl ?_
  exact s_icmp_ge (tgt := 20) (show decode (am_cc mJ_fill) 7 = .ok (.if_icmp .ge 13, 3) by decide +kernel) (by decide) k1 k2
theorem gJ_fill_10 {a0 a1 a2 a3 : Int} {K : am_K} {M : am_M} {Q : Option am_V → am_M → Prop} {n0 : Nat} {q0 : List Int} (h1 : am_kd K a0 = some (11, n0, q0)) (h2 : 0 ≤ a2) (h3 : a2 < (n0 : Int)) (h4 : -2147483648 ≤ a2 + 1 ∧ a2 + 1 ≤ 2147483647) (k : am_AtN mJ_fill 5 [some (vr a0), some (vi a1), some (vi (a2 + 1)), some (vi a3)] [] K (am_up M a0 a2 a1) Q) : am_AtN mJ_fill 10 [some (vr a0), some (vi a1), some (vi a2), some (vi a3)] [] K M Q := by
  refine s_aload_n (show decode (am_cc mJ_fill) 10 = .ok (.aload_n 0, 1) by decide +kernel) rfl ?_
  refine s_iload_n (show decode (am_cc mJ_fill) 11 = .ok (.iload_n 2, 1) by decide +kernel) rfl ?_
  refine s_iload_n (show decode (am_cc mJ_fill) 12 = .ok (.iload_n 1, 1) by decide +kernel) rfl ?_
  refine s_iastore (show decode (am_cc mJ_fill) 13 = .ok (.iastore, 1) by decide +kernel) h1 h2 h3 ?_
  refine s_iinc (show decode (am_cc mJ_fill) 14 = .ok (.iinc 2 1, 3) by decide +kernel) rfl (by decide) h4 ?_
  refine s_goto (tgt := 5) (show decode (am_cc mJ_fill) 17 = .ok (.goto (-12), 3) by decide +kernel) (by decide) ?_
  exact k
theorem gJ_fill_20 {a0 a1 a2 a3 : Int} {K : am_K} {M : am_M} {Q : Option am_V → am_M → Prop} (k : Q none M) : am_AtN mJ_fill 20 [some (vr a0), some (vi a1), some (vi a2), some (vi a3)] [] K M Q := by
  exact s_return (show decode (am_cc mJ_fill) 20 = .ok (.return_, 1) by decide +kernel) rfl k
theorem g6_startAnew_0 {a0 : Int} {K : am_K} {M : am_M} {Q : Option am_V → am_M → Prop} {r0_0 : Int} {r0_1 : Int} (h1 : am_kd K a0 = some (6, 2, [r0_0, r0_1])) (k : am_CallN mJ_fill [vr r0_0, vi 0] K M (fun r M' => am_AtN m6_startAnew 8 [some (vr a0)] (r.toList ++ []) K M' Q)) : am_AtN m6_startAnew 0 [some (vr a0)] [] K M Q := by
  refine s_aload_n (show decode (am_cc m6_startAnew) 0 = .ok (.aload_n 0, 1) by decide +kernel) rfl ?_
  refine s_getf (k := 0) (v := vr r0_0) (show decode (am_cc m6_startAnew) 1 = .ok (.getfield 9, 3) by decide +kernel) h1 (by decide) rfl jnX6 (by decide) lf_RX6_9 rfl ?_
  refine s_iconst (show decode (am_cc m6_startAnew) 4 = .ok (.iconst 0, 1) by decide +kernel) ⟨by decide, by decide⟩ ?_
  exact n_callS (as := [vr r0_0, vi 0]) (stk := []) (show decode (am_cc m6_startAnew) 5 = .ok (.invokestatic 21, 3) by decide +kernel) lk_RX6_21 (by decide) (Nat.le_of_ble_eq_true rfl) ⟨rfl, rfl⟩ k
theorem g6_startAnew_8 {a0 : Int} {K : am_K} {M : am_M} {Q : Option am_V → am_M → Prop} {r0_0 : Int} {r0_1 : Int} (h1 : am_kd K a0 = some (6, 2, [r0_0, r0_1])) (k : am_CallN mJ_fill [vr r0_1, vi 1] K M (fun r M' => am_AtN m6_startAnew 16 [some (vr a0)] (r.toList ++ []) K M' Q)) : am_AtN m6_startAnew 8 [some (vr a0)] [] K M Q := by
  refine s_aload_n (show decode (am_cc m6_startAnew) 8 = .ok (.aload_n 0, 1) by decide +kernel) rfl ?_
  refine s_getf (k := 1) (v := vr r0_1) (show decode (am_cc m6_startAnew) 9 = .ok (.getfield 15, 3) by decide +kernel) h1 (by decide) rfl jnX6 (by decide) lf_RX6_15 rfl ?_
  refine s_iconst (show decode (am_cc m6_startAnew) 12 = .ok (.iconst 1, 1) by decide +kernel) ⟨by decide, by decide⟩ ?_
  exact n_callS (as := [vr r0_1, vi 1]) (stk := []) (show decode (am_cc m6_startAnew) 13 = .ok (.invokestatic 21, 3) by decide +kernel) lk_RX6_21 (by decide) (Nat.le_of_ble_eq_true rfl) ⟨rfl, rfl⟩ k
theorem g6_startAnew_16 {a0 : Int} {K : am_K} {M : am_M} {Q : Option am_V → am_M → Prop} (k : Q none M) : am_AtN m6_startAnew 16 [some (vr a0)] [] K M Q := by
  exact s_return (show decode (am_cc m6_startAnew) 16 = .ok (.return_, 1) by decide +kernel) rfl k
theorem g6_nextOf_0 {a0 a1 a2 : Int} {K : am_K} {M : am_M} {Q : Option am_V → am_M → Prop} (k : am_CallN m8_within [vi a1, vi 6] K M (fun r M' => am_AtN m6_nextOf 6 [some (vr a0), some (vi a1), some (vi a2)] (r.toList ++ []) K M' Q)) : am_AtN m6_nextOf 0 [some (vr a0), some (vi a1), some (vi a2)] [] K M Q := by
  refine s_iload_n (show decode (am_cc m6_nextOf) 0 = .ok (.iload_n 1, 1) by decide +kernel) rfl ?_
  refine s_bipush (show decode (am_cc m6_nextOf) 1 = .ok (.bipush 6, 2) by decide +kernel) ⟨by decide, by decide⟩ (by decide) ?_
  exact n_callN (as := [vi a1, vi 6]) (stk := []) (show decode (am_cc m6_nextOf) 3 = .ok (.invokestatic 27, 3) by decide +kernel) lk_RX6_27 (by decide) (Nat.le_of_ble_eq_true rfl) ⟨rfl, rfl⟩ k
theorem g6_nextOf_6 {a0 a1 a2 t0 : Int} {K : am_K} {M : am_M} {Q : Option am_V → am_M → Prop} (k1 : t0 = 0 → am_AtN m6_nextOf 17 [some (vr a0), some (vi a1), some (vi a2)] [] K M Q) (k2 : ¬ (t0 = 0) → am_AtN m6_nextOf 9 [some (vr a0), some (vi a1), some (vi a2)] [] K M Q) : am_AtN m6_nextOf 6 [some (vr a0), some (vi a1), some (vi a2)] [vi t0] K M Q := by
  exact s_if_eq (tgt := 17) (show decode (am_cc m6_nextOf) 6 = .ok (.ifCond .eq 11, 3) by decide +kernel) (by decide) k1 k2
theorem g6_nextOf_9 {a0 a1 a2 : Int} {K : am_K} {M : am_M} {Q : Option am_V → am_M → Prop} (k : am_CallN m8_within [vi a2, vi 4] K M (fun r M' => am_AtN m6_nextOf 14 [some (vr a0), some (vi a1), some (vi a2)] (r.toList ++ []) K M' Q)) : am_AtN m6_nextOf 9 [some (vr a0), some (vi a1), some (vi a2)] [] K M Q := by
  refine s_iload_n (show decode (am_cc m6_nextOf) 9 = .ok (.iload_n 2, 1) by decide +kernel) rfl ?_
  refine s_iconst (show decode (am_cc m6_nextOf) 10 = .ok (.iconst 4, 1) by decide +kernel) ⟨by decide, by decide⟩ ?_
  exact n_callN (as := [vi a2, vi 4]) (stk := []) (show decode (am_cc m6_nextOf) 11 = .ok (.invokestatic 27, 3) by decide +kernel) lk_RX6_27 (by decide) (Nat.le_of_ble_eq_true rfl) ⟨rfl, rfl⟩ k
theorem g6_nextOf_14 {a0 a1 a2 t0 : Int} {K : am_K} {M : am_M} {Q : Option am_V → am_M → Prop} (k1 : ¬ t0 = 0 → am_AtN m6_nextOf 19 [some (vr a0), some (vi a1), some (vi a2)] [] K M Q) (k2 : t0 = 0 → am_AtN m6_nextOf 17 [some (vr a0), some (vi a1), some (vi a2)] [] K M Q) : am_AtN m6_nextOf 14 [some (vr a0), some (vi a1), some (vi a2)] [vi t0] K M Q := by
  exact s_if_ne (tgt := 19) (show decode (am_cc m6_nextOf) 14 = .ok (.ifCond .ne 5, 3) by decide +kernel) (by decide) k1 k2
theorem g6_nextOf_17 {a0 a1 a2 : Int} {K : am_K} {M : am_M} {Q : Option am_V → am_M → Prop} (k : Q (some (vi 0)) M) : am_AtN m6_nextOf 17 [some (vr a0), some (vi a1), some (vi a2)] [] K M Q := by
  refine s_iconst (show decode (am_cc m6_nextOf) 17 = .ok (.iconst 0, 1) by decide +kernel) ⟨by decide, by decide⟩ ?_
  exact s_ireturn (show decode (am_cc m6_nextOf) 18 = .ok (.ireturn, 1) by decide +kernel) rfl k
theorem g6_nextOf_19 {a0 a1 a2 : Int} {K : am_K} {M : am_M} {Q : Option am_V → am_M → Prop} {r0_0 : Int} {r0_1 : Int} {n1 : Nat} {q1 : List Int} (h1 : am_kd K a0 = some (6, 2, [r0_0, r0_1])) (h2 : -2147483648 ≤ a1 * 4 ∧ a1 * 4 ≤ 2147483647) (h3 : -2147483648 ≤ (a1 * 4) + a2 ∧ (a1 * 4) + a2 ≤ 2147483647) (h4 : am_kd K r0_0 = some (11, n1, q1)) (h5 : 0 ≤ (a1 * 4) + a2) (h6 : (a1 * 4) + a2 < (n1 : Int)) (k : Q (some (vi (M r0_0 ((a1 * 4) + a2)))) M) : am_AtN m6_nextOf 19 [some (vr a0), some (vi a1), some (vi a2)] [] K M Q := by
  refine s_aload_n (show decode (am_cc m6_nextOf) 19 = .ok (.aload_n 0, 1) by decide +kernel) rfl ?_
  refine s_getf (k := 0) (v := vr r0_0) (show decode (am_cc m6_nextOf) 20 = .ok (.getfield 9, 3) by decide +kernel) h1 (by decide) rfl jnX6 (by decide) lf_RX6_9 rfl ?_
  refine s_iload_n (show decode (am_cc m6_nextOf) 23 = .ok (.iload_n 1, 1) by decide +kernel) rfl ?_
  refine s_iconst (show decode (am_cc m6_nextOf) 24 = .ok (.iconst 4, 1) by decide +kernel) ⟨by decide, by decide⟩ ?_
  refine s_imul (show decode (am_cc m6_nextOf) 25 = .ok (.imul, 1) by decide +kernel) h2 ?_
  refine s_iload_n (show decode (am_cc m6_nextOf) 26 = .ok (.iload_n 2, 1) by decide +kernel) rfl ?_
  refine s_iadd (show decode (am_cc m6_nextOf) 27 = .ok (.iadd, 1) by decide +kernel) h3 ?_
  refine s_iaload (show decode (am_cc m6_nextOf) 28 = .ok (.iaload, 1) by decide +kernel) h4 h5 h6 ?_
  exact s_ireturn (show decode (am_cc m6_nextOf) 29 = .ok (.ireturn, 1) by decide +kernel) rfl k
theorem g6_holdsAt_0 {a0 a1 : Int} {K : am_K} {M : am_M} {Q : Option am_V → am_M → Prop} (k : am_CallN m8_within [vi a1, vi 6] K M (fun r M' => am_AtN m6_holdsAt 6 [some (vr a0), some (vi a1)] (r.toList ++ []) K M' Q)) : am_AtN m6_holdsAt 0 [some (vr a0), some (vi a1)] [] K M Q := by
  refine s_iload_n (show decode (am_cc m6_holdsAt) 0 = .ok (.iload_n 1, 1) by decide +kernel) rfl ?_
  refine s_bipush (show decode (am_cc m6_holdsAt) 1 = .ok (.bipush 6, 2) by decide +kernel) ⟨by decide, by decide⟩ (by decide) ?_
  exact n_callN (as := [vi a1, vi 6]) (stk := []) (show decode (am_cc m6_holdsAt) 3 = .ok (.invokestatic 27, 3) by decide +kernel) lk_RX6_27 (by decide) (Nat.le_of_ble_eq_true rfl) ⟨rfl, rfl⟩ k
theorem g6_holdsAt_6 {a0 a1 t0 : Int} {K : am_K} {M : am_M} {Q : Option am_V → am_M → Prop} (k1 : t0 = 0 → am_AtN m6_holdsAt 23 [some (vr a0), some (vi a1)] [] K M Q) (k2 : ¬ (t0 = 0) → am_AtN m6_holdsAt 9 [some (vr a0), some (vi a1)] [] K M Q) : am_AtN m6_holdsAt 6 [some (vr a0), some (vi a1)] [vi t0] K M Q := by
  exact s_if_eq (tgt := 23) (show decode (am_cc m6_holdsAt) 6 = .ok (.ifCond .eq 17, 3) by decide +kernel) (by decide) k1 k2
theorem g6_holdsAt_9 {a0 a1 : Int} {K : am_K} {M : am_M} {Q : Option am_V → am_M → Prop} {r0_0 : Int} {r0_1 : Int} {n1 : Nat} {q1 : List Int} (h1 : am_kd K a0 = some (6, 2, [r0_0, r0_1])) (h2 : am_kd K r0_1 = some (11, n1, q1)) (h3 : 0 ≤ a1) (h4 : a1 < (n1 : Int)) (k1 : ¬ M r0_1 a1 = 1 → am_AtN m6_holdsAt 23 [some (vr a0), some (vi a1)] [] K M Q) (k2 : M r0_1 a1 = 1 → am_AtN m6_holdsAt 19 [some (vr a0), some (vi a1)] [] K M Q) : am_AtN m6_holdsAt 9 [some (vr a0), some (vi a1)] [] K M Q := by
  refine s_aload_n (show decode (am_cc m6_holdsAt) 9 = .ok (.aload_n 0, 1) by decide +kernel) rfl ?_
  refine s_getf (k := 1) (v := vr r0_1) (show decode (am_cc m6_holdsAt) 10 = .ok (.getfield 15, 3) by decide +kernel) h1 (by decide) rfl jnX6 (by decide) lf_RX6_15 rfl ?_
  refine s_iload_n (show decode (am_cc m6_holdsAt) 13 = .ok (.iload_n 1, 1) by decide +kernel) rfl ?_
  refine s_iaload (show decode (am_cc m6_holdsAt) 14 = .ok (.iaload, 1) by decide +kernel) h2 h3 h4 ?_
  refine s_iconst (show decode (am_cc m6_holdsAt) 15 = .ok (.iconst 1, 1) by decide +kernel) ⟨by decide, by decide⟩ ?_
  exact s_icmp_ne (tgt := 23) (show decode (am_cc m6_holdsAt) 16 = .ok (.if_icmp .ne 7, 3) by decide +kernel) (by decide) k1 k2
theorem g6_holdsAt_19 {a0 a1 : Int} {K : am_K} {M : am_M} {Q : Option am_V → am_M → Prop} (k : am_AtN m6_holdsAt 24 [some (vr a0), some (vi a1)] [vi 1] K M Q) : am_AtN m6_holdsAt 19 [some (vr a0), some (vi a1)] [] K M Q := by
  refine s_iconst (show decode (am_cc m6_holdsAt) 19 = .ok (.iconst 1, 1) by decide +kernel) ⟨by decide, by decide⟩ ?_
  refine s_goto (tgt := 24) (show decode (am_cc m6_holdsAt) 20 = .ok (.goto 4, 3) by decide +kernel) (by decide) ?_
  exact k
theorem g6_holdsAt_23 {a0 a1 : Int} {K : am_K} {M : am_M} {Q : Option am_V → am_M → Prop} (k : am_AtN m6_holdsAt 24 [some (vr a0), some (vi a1)] [vi 0] K M Q) : am_AtN m6_holdsAt 23 [some (vr a0), some (vi a1)] [] K M Q := by
  refine s_iconst (show decode (am_cc m6_holdsAt) 23 = .ok (.iconst 0, 1) by decide +kernel) ⟨by decide, by decide⟩ ?_
  exact k
theorem g6_holdsAt_24 {a0 a1 t0 : Int} {K : am_K} {M : am_M} {Q : Option am_V → am_M → Prop} (h1 : t0 = 0 ∨ t0 = 1) (k : Q (some (vi t0)) M) : am_AtN m6_holdsAt 24 [some (vr a0), some (vi a1)] [vi t0] K M Q := by
  exact s_zreturn (show decode (am_cc m6_holdsAt) 24 = .ok (.ireturn, 1) by decide +kernel) rfl h1 k
theorem g6_lead_0 {a0 a1 a2 a3 : Int} {K : am_K} {M : am_M} {Q : Option am_V → am_M → Prop} (k : am_CallN m8_within [vi a1, vi 6] K M (fun r M' => am_AtN m6_lead 6 [some (vr a0), some (vi a1), some (vi a2), some (vi a3)] (r.toList ++ []) K M' Q)) : am_AtN m6_lead 0 [some (vr a0), some (vi a1), some (vi a2), some (vi a3)] [] K M Q := by
  refine s_iload_n (show decode (am_cc m6_lead) 0 = .ok (.iload_n 1, 1) by decide +kernel) rfl ?_
  refine s_bipush (show decode (am_cc m6_lead) 1 = .ok (.bipush 6, 2) by decide +kernel) ⟨by decide, by decide⟩ (by decide) ?_
  exact n_callN (as := [vi a1, vi 6]) (stk := []) (show decode (am_cc m6_lead) 3 = .ok (.invokestatic 27, 3) by decide +kernel) lk_RX6_27 (by decide) (Nat.le_of_ble_eq_true rfl) ⟨rfl, rfl⟩ k
theorem g6_lead_6 {a0 a1 a2 a3 t0 : Int} {K : am_K} {M : am_M} {Q : Option am_V → am_M → Prop} (k1 : t0 = 0 → am_AtN m6_lead 17 [some (vr a0), some (vi a1), some (vi a2), some (vi a3)] [] K M Q) (k2 : ¬ (t0 = 0) → am_AtN m6_lead 9 [some (vr a0), some (vi a1), some (vi a2), some (vi a3)] [] K M Q) : am_AtN m6_lead 6 [some (vr a0), some (vi a1), some (vi a2), some (vi a3)] [vi t0] K M Q := by
  exact s_if_eq (tgt := 17) (show decode (am_cc m6_lead) 6 = .ok (.ifCond .eq 11, 3) by decide +kernel) (by decide) k1 k2
theorem g6_lead_9 {a0 a1 a2 a3 : Int} {K : am_K} {M : am_M} {Q : Option am_V → am_M → Prop} (k : am_CallN m8_within [vi a2, vi 4] K M (fun r M' => am_AtN m6_lead 14 [some (vr a0), some (vi a1), some (vi a2), some (vi a3)] (r.toList ++ []) K M' Q)) : am_AtN m6_lead 9 [some (vr a0), some (vi a1), some (vi a2), some (vi a3)] [] K M Q := by
  refine s_iload_n (show decode (am_cc m6_lead) 9 = .ok (.iload_n 2, 1) by decide +kernel) rfl ?_
  refine s_iconst (show decode (am_cc m6_lead) 10 = .ok (.iconst 4, 1) by decide +kernel) ⟨by decide, by decide⟩ ?_
  exact n_callN (as := [vi a2, vi 4]) (stk := []) (show decode (am_cc m6_lead) 11 = .ok (.invokestatic 27, 3) by decide +kernel) lk_RX6_27 (by decide) (Nat.le_of_ble_eq_true rfl) ⟨rfl, rfl⟩ k
theorem g6_lead_14 {a0 a1 a2 a3 t0 : Int} {K : am_K} {M : am_M} {Q : Option am_V → am_M → Prop} (k1 : ¬ t0 = 0 → am_AtN m6_lead 18 [some (vr a0), some (vi a1), some (vi a2), some (vi a3)] [] K M Q) (k2 : t0 = 0 → am_AtN m6_lead 17 [some (vr a0), some (vi a1), some (vi a2), some (vi a3)] [] K M Q) : am_AtN m6_lead 14 [some (vr a0), some (vi a1), some (vi a2), some (vi a3)] [vi t0] K M Q := by
  exact s_if_ne (tgt := 18) (show decode (am_cc m6_lead) 14 = .ok (.ifCond .ne 4, 3) by decide +kernel) (by decide) k1 k2
theorem g6_lead_17 {a0 a1 a2 a3 : Int} {K : am_K} {M : am_M} {Q : Option am_V → am_M → Prop} (k : Q none M) : am_AtN m6_lead 17 [some (vr a0), some (vi a1), some (vi a2), some (vi a3)] [] K M Q := by
  exact s_return (show decode (am_cc m6_lead) 17 = .ok (.return_, 1) by decide +kernel) rfl k
theorem g6_lead_18 {a0 a1 a2 a3 : Int} {K : am_K} {M : am_M} {Q : Option am_V → am_M → Prop} {r0_0 : Int} {r0_1 : Int} {n1 : Nat} {q1 : List Int} (h1 : am_kd K a0 = some (6, 2, [r0_0, r0_1])) (h2 : -2147483648 ≤ a1 * 4 ∧ a1 * 4 ≤ 2147483647) (h3 : -2147483648 ≤ (a1 * 4) + a2 ∧ (a1 * 4) + a2 ≤ 2147483647) (h4 : am_kd K r0_0 = some (11, n1, q1)) (h5 : 0 ≤ (a1 * 4) + a2) (h6 : (a1 * 4) + a2 < (n1 : Int)) (k : Q none (am_up M r0_0 ((a1 * 4) + a2) a3)) : am_AtN m6_lead 18 [some (vr a0), some (vi a1), some (vi a2), some (vi a3)] [] K M Q := by
  refine s_aload_n (show decode (am_cc m6_lead) 18 = .ok (.aload_n 0, 1) by decide +kernel) rfl ?_
  refine s_getf (k := 0) (v := vr r0_0) (show decode (am_cc m6_lead) 19 = .ok (.getfield 9, 3) by decide +kernel) h1 (by decide) rfl jnX6 (by decide) lf_RX6_9 rfl ?_
  refine s_iload_n (show decode (am_cc m6_lead) 22 = .ok (.iload_n 1, 1) by decide +kernel) rfl ?_
  refine s_iconst (show decode (am_cc m6_lead) 23 = .ok (.iconst 4, 1) by decide +kernel) ⟨by decide, by decide⟩ ?_
  refine s_imul (show decode (am_cc m6_lead) 24 = .ok (.imul, 1) by decide +kernel) h2 ?_
  refine s_iload_n (show decode (am_cc m6_lead) 25 = .ok (.iload_n 2, 1) by decide +kernel) rfl ?_
  refine s_iadd (show decode (am_cc m6_lead) 26 = .ok (.iadd, 1) by decide +kernel) h3 ?_
  refine s_iload_n (show decode (am_cc m6_lead) 27 = .ok (.iload_n 3, 1) by decide +kernel) rfl ?_
  refine s_iastore (show decode (am_cc m6_lead) 28 = .ok (.iastore, 1) by decide +kernel) h4 h5 h6 ?_
  exact s_return (show decode (am_cc m6_lead) 29 = .ok (.return_, 1) by decide +kernel) rfl k
theorem g6_hold_0 {a0 a1 a2 : Int} {K : am_K} {M : am_M} {Q : Option am_V → am_M → Prop} (k : am_CallN m8_within [vi a1, vi 6] K M (fun r M' => am_AtN m6_hold 6 [some (vr a0), some (vi a1), some (vi a2)] (r.toList ++ []) K M' Q)) : am_AtN m6_hold 0 [some (vr a0), some (vi a1), some (vi a2)] [] K M Q := by
  refine s_iload_n (show decode (am_cc m6_hold) 0 = .ok (.iload_n 1, 1) by decide +kernel) rfl ?_
  refine s_bipush (show decode (am_cc m6_hold) 1 = .ok (.bipush 6, 2) by decide +kernel) ⟨by decide, by decide⟩ (by decide) ?_
  exact n_callN (as := [vi a1, vi 6]) (stk := []) (show decode (am_cc m6_hold) 3 = .ok (.invokestatic 27, 3) by decide +kernel) lk_RX6_27 (by decide) (Nat.le_of_ble_eq_true rfl) ⟨rfl, rfl⟩ k
theorem g6_hold_6 {a0 a1 a2 t0 : Int} {K : am_K} {M : am_M} {Q : Option am_V → am_M → Prop} (k1 : t0 = 0 → am_AtN m6_hold 19 [some (vr a0), some (vi a1), some (vi a2)] [] K M Q) (k2 : ¬ (t0 = 0) → am_AtN m6_hold 9 [some (vr a0), some (vi a1), some (vi a2)] [] K M Q) : am_AtN m6_hold 6 [some (vr a0), some (vi a1), some (vi a2)] [vi t0] K M Q := by
  exact s_if_eq (tgt := 19) (show decode (am_cc m6_hold) 6 = .ok (.ifCond .eq 13, 3) by decide +kernel) (by decide) k1 k2
theorem g6_hold_9 {a0 a1 a2 : Int} {K : am_K} {M : am_M} {Q : Option am_V → am_M → Prop} {r0_0 : Int} {r0_1 : Int} (h1 : am_kd K a0 = some (6, 2, [r0_0, r0_1])) (k : am_CallN m8_oneIf [vi a2] K M (fun r M' => am_AtN m6_hold 18 [some (vr a0), some (vi a1), some (vi a2)] (r.toList ++ [vi a1, vr r0_1]) K M' Q)) : am_AtN m6_hold 9 [some (vr a0), some (vi a1), some (vi a2)] [] K M Q := by
  refine s_aload_n (show decode (am_cc m6_hold) 9 = .ok (.aload_n 0, 1) by decide +kernel) rfl ?_
  refine s_getf (k := 1) (v := vr r0_1) (show decode (am_cc m6_hold) 10 = .ok (.getfield 15, 3) by decide +kernel) h1 (by decide) rfl jnX6 (by decide) lf_RX6_15 rfl ?_
  refine s_iload_n (show decode (am_cc m6_hold) 13 = .ok (.iload_n 1, 1) by decide +kernel) rfl ?_
  refine s_iload_n (show decode (am_cc m6_hold) 14 = .ok (.iload_n 2, 1) by decide +kernel) rfl ?_
  exact n_callN (as := [vi a2]) (stk := [vi a1, vr r0_1]) (show decode (am_cc m6_hold) 15 = .ok (.invokestatic 31, 3) by decide +kernel) lk_RX6_31 (by decide) (Nat.le_of_ble_eq_true rfl) ⟨rfl, rfl⟩ k
theorem g6_hold_18 {a0 a1 a2 t0 t1 t2 : Int} {K : am_K} {M : am_M} {Q : Option am_V → am_M → Prop} {n0 : Nat} {q0 : List Int} (h1 : am_kd K t0 = some (11, n0, q0)) (h2 : 0 ≤ t1) (h3 : t1 < (n0 : Int)) (k : am_AtN m6_hold 19 [some (vr a0), some (vi a1), some (vi a2)] [] K (am_up M t0 t1 t2) Q) : am_AtN m6_hold 18 [some (vr a0), some (vi a1), some (vi a2)] [vi t2, vi t1, vr t0] K M Q := by
  refine s_iastore (show decode (am_cc m6_hold) 18 = .ok (.iastore, 1) by decide +kernel) h1 h2 h3 ?_
  exact k
theorem g6_hold_19 {a0 a1 a2 : Int} {K : am_K} {M : am_M} {Q : Option am_V → am_M → Prop} (k : Q none M) : am_AtN m6_hold 19 [some (vr a0), some (vi a1), some (vi a2)] [] K M Q := by
  exact s_return (show decode (am_cc m6_hold) 19 = .ok (.return_, 1) by decide +kernel) rfl k
theorem g6_copy_0 {a0 a1 : Int} {K : am_K} {M : am_M} {Q : Option am_V → am_M → Prop} (k : am_AtN m6_copy 2 [some (vr a0), some (vr a1), some (vi 0)] [] K M Q) : am_AtN m6_copy 0 [some (vr a0), some (vr a1), none] [] K M Q := by
  refine s_iconst (show decode (am_cc m6_copy) 0 = .ok (.iconst 0, 1) by decide +kernel) ⟨by decide, by decide⟩ ?_
  refine s_istore_n (show decode (am_cc m6_copy) 1 = .ok (.istore_n 2, 1) by decide +kernel) (by decide) ?_
  exact k
theorem g6_copy_2 {a0 a1 a2 : Int} {K : am_K} {M : am_M} {Q : Option am_V → am_M → Prop} (k1 : 24 ≤ a2 → am_AtN m6_copy 26 [some (vr a0), some (vr a1), some (vi a2)] [] K M Q) (k2 : ¬ (24 ≤ a2) → am_AtN m6_copy 8 [some (vr a0), some (vr a1), some (vi a2)] [] K M Q) : am_AtN m6_copy 2 [some (vr a0), some (vr a1), some (vi a2)] [] K M Q := by
  refine s_iload_n (show decode (am_cc m6_copy) 2 = .ok (.iload_n 2, 1) by decide +kernel) rfl ?_
  refine s_bipush (show decode (am_cc m6_copy) 3 = .ok (.bipush 24, 2) by decide +kernel) ⟨by decide, by decide⟩ (by decide) ?_
  exact s_icmp_ge (tgt := 26) (show decode (am_cc m6_copy) 5 = .ok (.if_icmp .ge 21, 3) by decide +kernel) (by decide) k1 k2
theorem g6_copy_8 {a0 a1 a2 : Int} {K : am_K} {M : am_M} {Q : Option am_V → am_M → Prop} {r0_0 : Int} {r0_1 : Int} {r1_0 : Int} {r1_1 : Int} {n2 : Nat} {q2 : List Int} {n3 : Nat} {q3 : List Int} (h1 : am_kd K a0 = some (6, 2, [r0_0, r0_1])) (h2 : am_kd K a1 = some (6, 2, [r1_0, r1_1])) (h3 : am_kd K r1_0 = some (11, n2, q2)) (h4 : 0 ≤ a2) (h5 : a2 < (n2 : Int)) (h6 : am_kd K r0_0 = some (11, n3, q3)) (h7 : 0 ≤ a2) (h8 : a2 < (n3 : Int)) (h9 : -2147483648 ≤ a2 + 1 ∧ a2 + 1 ≤ 2147483647) (k : am_AtN m6_copy 2 [some (vr a0), some (vr a1), some (vi (a2 + 1))] [] K (am_up M r0_0 a2 (M r1_0 a2)) Q) : am_AtN m6_copy 8 [some (vr a0), some (vr a1), some (vi a2)] [] K M Q := by
  refine s_aload_n (show decode (am_cc m6_copy) 8 = .ok (.aload_n 0, 1) by decide +kernel) rfl ?_
  refine s_getf (k := 0) (v := vr r0_0) (show decode (am_cc m6_copy) 9 = .ok (.getfield 9, 3) by decide +kernel) h1 (by decide) rfl jnX6 (by decide) lf_RX6_9 rfl ?_
  refine s_iload_n (show decode (am_cc m6_copy) 12 = .ok (.iload_n 2, 1) by decide +kernel) rfl ?_
  refine s_aload_n (show decode (am_cc m6_copy) 13 = .ok (.aload_n 1, 1) by decide +kernel) rfl ?_
  refine s_getf (k := 0) (v := vr r1_0) (show decode (am_cc m6_copy) 14 = .ok (.getfield 9, 3) by decide +kernel) h2 (by decide) rfl jnX6 (by decide) lf_RX6_9 rfl ?_
  refine s_iload_n (show decode (am_cc m6_copy) 17 = .ok (.iload_n 2, 1) by decide +kernel) rfl ?_
  refine s_iaload (show decode (am_cc m6_copy) 18 = .ok (.iaload, 1) by decide +kernel) h3 h4 h5 ?_
  refine s_iastore (show decode (am_cc m6_copy) 19 = .ok (.iastore, 1) by decide +kernel) h6 h7 h8 ?_
  refine s_iinc (show decode (am_cc m6_copy) 20 = .ok (.iinc 2 1, 3) by decide +kernel) rfl (by decide) h9 ?_
  refine s_goto (tgt := 2) (show decode (am_cc m6_copy) 23 = .ok (.goto (-21), 3) by decide +kernel) (by decide) ?_
  exact k
theorem g6_copy_26 {a0 a1 a2 : Int} {K : am_K} {M : am_M} {Q : Option am_V → am_M → Prop} (k : am_AtN m6_copy 28 [some (vr a0), some (vr a1), some (vi 0)] [] K M Q) : am_AtN m6_copy 26 [some (vr a0), some (vr a1), some (vi a2)] [] K M Q := by
  refine s_iconst (show decode (am_cc m6_copy) 26 = .ok (.iconst 0, 1) by decide +kernel) ⟨by decide, by decide⟩ ?_
  refine s_istore_n (show decode (am_cc m6_copy) 27 = .ok (.istore_n 2, 1) by decide +kernel) (by decide) ?_
  exact k
theorem g6_copy_28 {a0 a1 a2 : Int} {K : am_K} {M : am_M} {Q : Option am_V → am_M → Prop} (k1 : 6 ≤ a2 → am_AtN m6_copy 52 [some (vr a0), some (vr a1), some (vi a2)] [] K M Q) (k2 : ¬ (6 ≤ a2) → am_AtN m6_copy 34 [some (vr a0), some (vr a1), some (vi a2)] [] K M Q) : am_AtN m6_copy 28 [some (vr a0), some (vr a1), some (vi a2)] [] K M Q := by
  refine s_iload_n (show decode (am_cc m6_copy) 28 = .ok (.iload_n 2, 1) by decide +kernel) rfl ?_
  refine s_bipush (show decode (am_cc m6_copy) 29 = .ok (.bipush 6, 2) by decide +kernel) ⟨by decide, by decide⟩ (by decide) ?_
  exact s_icmp_ge (tgt := 52) (show decode (am_cc m6_copy) 31 = .ok (.if_icmp .ge 21, 3) by decide +kernel) (by decide) k1 k2
theorem g6_copy_34 {a0 a1 a2 : Int} {K : am_K} {M : am_M} {Q : Option am_V → am_M → Prop} {r0_0 : Int} {r0_1 : Int} {r1_0 : Int} {r1_1 : Int} {n2 : Nat} {q2 : List Int} {n3 : Nat} {q3 : List Int} (h1 : am_kd K a0 = some (6, 2, [r0_0, r0_1])) (h2 : am_kd K a1 = some (6, 2, [r1_0, r1_1])) (h3 : am_kd K r1_1 = some (11, n2, q2)) (h4 : 0 ≤ a2) (h5 : a2 < (n2 : Int)) (h6 : am_kd K r0_1 = some (11, n3, q3)) (h7 : 0 ≤ a2) (h8 : a2 < (n3 : Int)) (h9 : -2147483648 ≤ a2 + 1 ∧ a2 + 1 ≤ 2147483647) (k : am_AtN m6_copy 28 [some (vr a0), some (vr a1), some (vi (a2 + 1))] [] K (am_up M r0_1 a2 (M r1_1 a2)) Q) : am_AtN m6_copy 34 [some (vr a0), some (vr a1), some (vi a2)] [] K M Q := by
  refine s_aload_n (show decode (am_cc m6_copy) 34 = .ok (.aload_n 0, 1) by decide +kernel) rfl ?_
  refine s_getf (k := 1) (v := vr r0_1) (show decode (am_cc m6_copy) 35 = .ok (.getfield 15, 3) by decide +kernel) h1 (by decide) rfl jnX6 (by decide) lf_RX6_15 rfl ?_
  refine s_iload_n (show decode (am_cc m6_copy) 38 = .ok (.iload_n 2, 1) by decide +kernel) rfl ?_
  refine s_aload_n (show decode (am_cc m6_copy) 39 = .ok (.aload_n 1, 1) by decide +kernel) rfl ?_
  refine s_getf (k := 1) (v := vr r1_1) (show decode (am_cc m6_copy) 40 = .ok (.getfield 15, 3) by decide +kernel) h2 (by decide) rfl jnX6 (by decide) lf_RX6_15 rfl ?_
  refine s_iload_n (show decode (am_cc m6_copy) 43 = .ok (.iload_n 2, 1) by decide +kernel) rfl ?_
  refine s_iaload (show decode (am_cc m6_copy) 44 = .ok (.iaload, 1) by decide +kernel) h3 h4 h5 ?_
  refine s_iastore (show decode (am_cc m6_copy) 45 = .ok (.iastore, 1) by decide +kernel) h6 h7 h8 ?_
  refine s_iinc (show decode (am_cc m6_copy) 46 = .ok (.iinc 2 1, 3) by decide +kernel) rfl (by decide) h9 ?_
  refine s_goto (tgt := 28) (show decode (am_cc m6_copy) 49 = .ok (.goto (-21), 3) by decide +kernel) (by decide) ?_
  exact k
theorem g6_copy_52 {a0 a1 a2 : Int} {K : am_K} {M : am_M} {Q : Option am_V → am_M → Prop} (k : Q none M) : am_AtN m6_copy 52 [some (vr a0), some (vr a1), some (vi a2)] [] K M Q := by
  exact s_return (show decode (am_cc m6_copy) 52 = .ok (.return_, 1) by decide +kernel) rfl k
theorem g6_turnRound_0 {a0 : Int} {K : am_K} {M : am_M} {Q : Option am_V → am_M → Prop} (k : am_AtN m6_turnRound 4 [some (vr a0), some (vi 0), some (vi 0)] [] K M Q) : am_AtN m6_turnRound 0 [some (vr a0), none, none] [] K M Q := by
  refine s_iconst (show decode (am_cc m6_turnRound) 0 = .ok (.iconst 0, 1) by decide +kernel) ⟨by decide, by decide⟩ ?_
  refine s_istore_n (show decode (am_cc m6_turnRound) 1 = .ok (.istore_n 1, 1) by decide +kernel) (by decide) ?_
  refine s_iconst (show decode (am_cc m6_turnRound) 2 = .ok (.iconst 0, 1) by decide +kernel) ⟨by decide, by decide⟩ ?_
  refine s_istore_n (show decode (am_cc m6_turnRound) 3 = .ok (.istore_n 2, 1) by decide +kernel) (by decide) ?_
  exact k
theorem g6_turnRound_4 {a0 a1 a2 : Int} {K : am_K} {M : am_M} {Q : Option am_V → am_M → Prop} (k1 : 6 ≤ a2 → am_AtN m6_turnRound 39 [some (vr a0), some (vi a1), some (vi a2)] [] K M Q) (k2 : ¬ (6 ≤ a2) → am_AtN m6_turnRound 10 [some (vr a0), some (vi a1), some (vi a2)] [] K M Q) : am_AtN m6_turnRound 4 [some (vr a0), some (vi a1), some (vi a2)] [] K M Q := by
  refine s_iload_n (show decode (am_cc m6_turnRound) 4 = .ok (.iload_n 2, 1) by decide +kernel) rfl ?_
  refine s_bipush (show decode (am_cc m6_turnRound) 5 = .ok (.bipush 6, 2) by decide +kernel) ⟨by decide, by decide⟩ (by decide) ?_
  exact s_icmp_ge (tgt := 39) (show decode (am_cc m6_turnRound) 7 = .ok (.if_icmp .ge 32, 3) by decide +kernel) (by decide) k1 k2
theorem g6_turnRound_10 {a0 a1 a2 : Int} {K : am_K} {M : am_M} {Q : Option am_V → am_M → Prop} {r0_0 : Int} {r0_1 : Int} {n1 : Nat} {q1 : List Int} (h1 : am_kd K a0 = some (6, 2, [r0_0, r0_1])) (h2 : am_kd K r0_1 = some (11, n1, q1)) (h3 : 0 ≤ a2) (h4 : a2 < (n1 : Int)) (h5 : -2147483648 ≤ 1 - (M r0_1 a2) ∧ 1 - (M r0_1 a2) ≤ 2147483647) (h6 : 0 ≤ a2) (h7 : a2 < (n1 : Int)) (h8 : 0 ≤ a2) (h9 : a2 < (n1 : Int)) (h10 : -2147483648 ≤ a1 + ((am_up M r0_1 a2 (1 - (M r0_1 a2))) r0_1 a2) ∧ a1 + ((am_up M r0_1 a2 (1 - (M r0_1 a2))) r0_1 a2) ≤ 2147483647) (h11 : -2147483648 ≤ a2 + 1 ∧ a2 + 1 ≤ 2147483647) (k : am_AtN m6_turnRound 4 [some (vr a0), some (vi (a1 + ((am_up M r0_1 a2 (1 - (M r0_1 a2))) r0_1 a2))), some (vi (a2 + 1))] [] K (am_up M r0_1 a2 (1 - (M r0_1 a2))) Q) : am_AtN m6_turnRound 10 [some (vr a0), some (vi a1), some (vi a2)] [] K M Q := by
  refine s_aload_n (show decode (am_cc m6_turnRound) 10 = .ok (.aload_n 0, 1) by decide +kernel) rfl ?_
  refine s_getf (k := 1) (v := vr r0_1) (show decode (am_cc m6_turnRound) 11 = .ok (.getfield 15, 3) by decide +kernel) h1 (by decide) rfl jnX6 (by decide) lf_RX6_15 rfl ?_
  refine s_iload_n (show decode (am_cc m6_turnRound) 14 = .ok (.iload_n 2, 1) by decide +kernel) rfl ?_
  refine s_iconst (show decode (am_cc m6_turnRound) 15 = .ok (.iconst 1, 1) by decide +kernel) ⟨by decide, by decide⟩ ?_
  refine s_aload_n (show decode (am_cc m6_turnRound) 16 = .ok (.aload_n 0, 1) by decide +kernel) rfl ?_
  refine s_getf (k := 1) (v := vr r0_1) (show decode (am_cc m6_turnRound) 17 = .ok (.getfield 15, 3) by decide +kernel) h1 (by decide) rfl jnX6 (by decide) lf_RX6_15 rfl ?_
  refine s_iload_n (show decode (am_cc m6_turnRound) 20 = .ok (.iload_n 2, 1) by decide +kernel) rfl ?_
  refine s_iaload (show decode (am_cc m6_turnRound) 21 = .ok (.iaload, 1) by decide +kernel) h2 h3 h4 ?_
  refine s_isub (show decode (am_cc m6_turnRound) 22 = .ok (.isub, 1) by decide +kernel) h5 ?_
  refine s_iastore (show decode (am_cc m6_turnRound) 23 = .ok (.iastore, 1) by decide +kernel) h2 h6 h7 ?_
  refine s_iload_n (show decode (am_cc m6_turnRound) 24 = .ok (.iload_n 1, 1) by decide +kernel) rfl ?_
  refine s_aload_n (show decode (am_cc m6_turnRound) 25 = .ok (.aload_n 0, 1) by decide +kernel) rfl ?_
  refine s_getf (k := 1) (v := vr r0_1) (show decode (am_cc m6_turnRound) 26 = .ok (.getfield 15, 3) by decide +kernel) h1 (by decide) rfl jnX6 (by decide) lf_RX6_15 rfl ?_
  refine s_iload_n (show decode (am_cc m6_turnRound) 29 = .ok (.iload_n 2, 1) by decide +kernel) rfl ?_
  refine s_iaload (show decode (am_cc m6_turnRound) 30 = .ok (.iaload, 1) by decide +kernel) h2 h8 h9 ?_
  refine s_iadd (show decode (am_cc m6_turnRound) 31 = .ok (.iadd, 1) by decide +kernel) h10 ?_
  refine s_istore_n (show decode (am_cc m6_turnRound) 32 = .ok (.istore_n 1, 1) by decide +kernel) (by decide) ?_
  refine s_iinc (show decode (am_cc m6_turnRound) 33 = .ok (.iinc 2 1, 3) by decide +kernel) rfl (by decide) h11 ?_
  refine s_goto (tgt := 4) (show decode (am_cc m6_turnRound) 36 = .ok (.goto (-32), 3) by decide +kernel) (by decide) ?_
  exact k
theorem g6_turnRound_39 {a0 a1 a2 : Int} {K : am_K} {M : am_M} {Q : Option am_V → am_M → Prop} (k : Q (some (vi a1)) M) : am_AtN m6_turnRound 39 [some (vr a0), some (vi a1), some (vi a2)] [] K M Q := by
  refine s_iload_n (show decode (am_cc m6_turnRound) 39 = .ok (.iload_n 1, 1) by decide +kernel) rfl ?_
  exact s_ireturn (show decode (am_cc m6_turnRound) 40 = .ok (.ireturn, 1) by decide +kernel) rfl k
theorem g6_afterWord_0 {a0 a1 a2 : Int} {K : am_K} {M : am_M} {Q : Option am_V → am_M → Prop} (k : am_AtN m6_afterWord 5 [some (vr a0), some (vi a1), some (vi a2), some (vi a1), some (vi 0)] [] K M Q) : am_AtN m6_afterWord 0 [some (vr a0), some (vi a1), some (vi a2), none, none] [] K M Q := by
  refine s_iload_n (show decode (am_cc m6_afterWord) 0 = .ok (.iload_n 1, 1) by decide +kernel) rfl ?_
  refine s_istore_n (show decode (am_cc m6_afterWord) 1 = .ok (.istore_n 3, 1) by decide +kernel) (by decide) ?_
  refine s_iconst (show decode (am_cc m6_afterWord) 2 = .ok (.iconst 0, 1) by decide +kernel) ⟨by decide, by decide⟩ ?_
  refine s_istore (show decode (am_cc m6_afterWord) 3 = .ok (.istore 4, 2) by decide +kernel) (by decide) ?_
  exact k
theorem g6_afterWord_5 {a0 a1 a2 a3 a4 : Int} {K : am_K} {M : am_M} {Q : Option am_V → am_M → Prop} (k : am_CallN m8_wordLength [vi a2] K M (fun r M' => am_AtN m6_afterWord 11 [some (vr a0), some (vi a1), some (vi a2), some (vi a3), some (vi a4)] (r.toList ++ [vi a4]) K M' Q)) : am_AtN m6_afterWord 5 [some (vr a0), some (vi a1), some (vi a2), some (vi a3), some (vi a4)] [] K M Q := by
  refine s_iload (show decode (am_cc m6_afterWord) 5 = .ok (.iload 4, 2) by decide +kernel) rfl ?_
  refine s_iload_n (show decode (am_cc m6_afterWord) 7 = .ok (.iload_n 2, 1) by decide +kernel) rfl ?_
  exact n_callN (as := [vi a2]) (stk := [vi a4]) (show decode (am_cc m6_afterWord) 8 = .ok (.invokestatic 35, 3) by decide +kernel) lk_RX6_35 (by decide) (Nat.le_of_ble_eq_true rfl) ⟨rfl, rfl⟩ k
theorem g6_afterWord_11 {a0 a1 a2 a3 a4 t0 t1 : Int} {K : am_K} {M : am_M} {Q : Option am_V → am_M → Prop} (k1 : t1 ≤ t0 → am_AtN m6_afterWord 32 [some (vr a0), some (vi a1), some (vi a2), some (vi a3), some (vi a4)] [] K M Q) (k2 : ¬ (t1 ≤ t0) → am_AtN m6_afterWord 14 [some (vr a0), some (vi a1), some (vi a2), some (vi a3), some (vi a4)] [] K M Q) : am_AtN m6_afterWord 11 [some (vr a0), some (vi a1), some (vi a2), some (vi a3), some (vi a4)] [vi t1, vi t0] K M Q := by
  exact s_icmp_ge (tgt := 32) (show decode (am_cc m6_afterWord) 11 = .ok (.if_icmp .ge 21, 3) by decide +kernel) (by decide) k1 k2
theorem g6_afterWord_14 {a0 a1 a2 a3 a4 : Int} {K : am_K} {M : am_M} {Q : Option am_V → am_M → Prop} (k : am_CallN m8_wordLetter [vi a2, vi a4] K M (fun r M' => am_AtN m6_afterWord 22 [some (vr a0), some (vi a1), some (vi a2), some (vi a3), some (vi a4)] (r.toList ++ [vi a3, vr a0]) K M' Q)) : am_AtN m6_afterWord 14 [some (vr a0), some (vi a1), some (vi a2), some (vi a3), some (vi a4)] [] K M Q := by
  refine s_aload_n (show decode (am_cc m6_afterWord) 14 = .ok (.aload_n 0, 1) by decide +kernel) rfl ?_
  refine s_iload_n (show decode (am_cc m6_afterWord) 15 = .ok (.iload_n 3, 1) by decide +kernel) rfl ?_
  refine s_iload_n (show decode (am_cc m6_afterWord) 16 = .ok (.iload_n 2, 1) by decide +kernel) rfl ?_
  refine s_iload (show decode (am_cc m6_afterWord) 17 = .ok (.iload 4, 2) by decide +kernel) rfl ?_
  exact n_callN (as := [vi a2, vi a4]) (stk := [vi a3, vr a0]) (show decode (am_cc m6_afterWord) 19 = .ok (.invokestatic 39, 3) by decide +kernel) lk_RX6_39 (by decide) (Nat.le_of_ble_eq_true rfl) ⟨rfl, rfl⟩ k
theorem g6_afterWord_22 {a0 a1 a2 a3 a4 t0 t1 t2 : Int} {K : am_K} {M : am_M} {Q : Option am_V → am_M → Prop} {r0 : List Int} (h1 : am_kd K t0 = some (6, 2, r0)) (k : am_CallN m6_nextOf [vr t0, vi t1, vi t2] K M (fun r M' => am_AtN m6_afterWord 25 [some (vr a0), some (vi a1), some (vi a2), some (vi a3), some (vi a4)] (r.toList ++ []) K M' Q)) : am_AtN m6_afterWord 22 [some (vr a0), some (vi a1), some (vi a2), some (vi a3), some (vi a4)] [vi t2, vi t1, vr t0] K M Q := by
  exact n_callV (as := [vi t1, vi t2]) (stk := []) (show decode (am_cc m6_afterWord) 22 = .ok (.invokevirtual 43, 3) by decide +kernel) lk_RX6_43 h1 (by decide) rfl rfl (by decide) (Nat.le_of_ble_eq_true rfl) ⟨rfl, rfl⟩ k
theorem g6_afterWord_25 {a0 a1 a2 a3 a4 t0 : Int} {K : am_K} {M : am_M} {Q : Option am_V → am_M → Prop} (h1 : -2147483648 ≤ a4 + 1 ∧ a4 + 1 ≤ 2147483647) (k : am_AtN m6_afterWord 5 [some (vr a0), some (vi a1), some (vi a2), some (vi t0), some (vi (a4 + 1))] [] K M Q) : am_AtN m6_afterWord 25 [some (vr a0), some (vi a1), some (vi a2), some (vi a3), some (vi a4)] [vi t0] K M Q := by
  refine s_istore_n (show decode (am_cc m6_afterWord) 25 = .ok (.istore_n 3, 1) by decide +kernel) (by decide) ?_
  refine s_iinc (show decode (am_cc m6_afterWord) 26 = .ok (.iinc 4 1, 3) by decide +kernel) rfl (by decide) h1 ?_
  refine s_goto (tgt := 5) (show decode (am_cc m6_afterWord) 29 = .ok (.goto (-24), 3) by decide +kernel) (by decide) ?_
  exact k
theorem g6_afterWord_32 {a0 a1 a2 a3 a4 : Int} {K : am_K} {M : am_M} {Q : Option am_V → am_M → Prop} (k : Q (some (vi a3)) M) : am_AtN m6_afterWord 32 [some (vr a0), some (vi a1), some (vi a2), some (vi a3), some (vi a4)] [] K M Q := by
  refine s_iload_n (show decode (am_cc m6_afterWord) 32 = .ok (.iload_n 3, 1) by decide +kernel) rfl ?_
  exact s_ireturn (show decode (am_cc m6_afterWord) 33 = .ok (.ireturn, 1) by decide +kernel) rfl k
theorem g6_draw_0 {a0 a1 a2 a3 : Int} {K : am_K} {M : am_M} {Q : Option am_V → am_M → Prop} (k : am_AtN m6_draw 3 [some (vr a0), some (vi a1), some (vi a2), some (vi a3), some (vi 0), none] [] K M Q) : am_AtN m6_draw 0 [some (vr a0), some (vi a1), some (vi a2), some (vi a3), none, none] [] K M Q := by
  refine s_iconst (show decode (am_cc m6_draw) 0 = .ok (.iconst 0, 1) by decide +kernel) ⟨by decide, by decide⟩ ?_
  refine s_istore (show decode (am_cc m6_draw) 1 = .ok (.istore 4, 2) by decide +kernel) (by decide) ?_
  exact k
theorem g6_draw_3 {a0 a1 a2 a3 a4 : Int} {K : am_K} {M : am_M} {Q : Option am_V → am_M → Prop} (k1 : 6 ≤ a4 → am_AtN m6_draw 62 [some (vr a0), some (vi a1), some (vi a2), some (vi a3), some (vi a4), none] [] K M Q) (k2 : ¬ (6 ≤ a4) → am_AtN m6_draw 10 [some (vr a0), some (vi a1), some (vi a2), some (vi a3), some (vi a4), none] [] K M Q) : am_AtN m6_draw 3 [some (vr a0), some (vi a1), some (vi a2), some (vi a3), some (vi a4), none] [] K M Q := by
  refine s_iload (show decode (am_cc m6_draw) 3 = .ok (.iload 4, 2) by decide +kernel) rfl ?_
  refine s_bipush (show decode (am_cc m6_draw) 5 = .ok (.bipush 6, 2) by decide +kernel) ⟨by decide, by decide⟩ (by decide) ?_
  exact s_icmp_ge (tgt := 62) (show decode (am_cc m6_draw) 7 = .ok (.if_icmp .ge 55, 3) by decide +kernel) (by decide) k1 k2
theorem g6_draw_10 {a0 a1 a2 a3 a4 : Int} {K : am_K} {M : am_M} {Q : Option am_V → am_M → Prop} (k : am_CallN m6_kindHolds [vi a1, vi a4, vi a3] K M (fun r M' => am_AtN m6_draw 20 [some (vr a0), some (vi a1), some (vi a2), some (vi a3), some (vi a4), none] (r.toList ++ [vi a4, vr a0]) K M' Q)) : am_AtN m6_draw 10 [some (vr a0), some (vi a1), some (vi a2), some (vi a3), some (vi a4), none] [] K M Q := by
  refine s_aload_n (show decode (am_cc m6_draw) 10 = .ok (.aload_n 0, 1) by decide +kernel) rfl ?_
  refine s_iload (show decode (am_cc m6_draw) 11 = .ok (.iload 4, 2) by decide +kernel) rfl ?_
  refine s_iload_n (show decode (am_cc m6_draw) 13 = .ok (.iload_n 1, 1) by decide +kernel) rfl ?_
  refine s_iload (show decode (am_cc m6_draw) 14 = .ok (.iload 4, 2) by decide +kernel) rfl ?_
  refine s_iload_n (show decode (am_cc m6_draw) 16 = .ok (.iload_n 3, 1) by decide +kernel) rfl ?_
  exact n_callS (as := [vi a1, vi a4, vi a3]) (stk := [vi a4, vr a0]) (show decode (am_cc m6_draw) 17 = .ok (.invokestatic 46, 3) by decide +kernel) lk_RX6_46 (by decide) (Nat.le_of_ble_eq_true rfl) ⟨rfl, rfl⟩ k
theorem g6_draw_20 {a0 a1 a2 a3 a4 t0 t1 t2 : Int} {K : am_K} {M : am_M} {Q : Option am_V → am_M → Prop} {r0 : List Int} (h1 : am_kd K t0 = some (6, 2, r0)) (k : am_CallN m6_hold [vr t0, vi t1, vi t2] K M (fun r M' => am_AtN m6_draw 23 [some (vr a0), some (vi a1), some (vi a2), some (vi a3), some (vi a4), none] (r.toList ++ []) K M' Q)) : am_AtN m6_draw 20 [some (vr a0), some (vi a1), some (vi a2), some (vi a3), some (vi a4), none] [vi t2, vi t1, vr t0] K M Q := by
  exact n_callV (as := [vi t1, vi t2]) (stk := []) (show decode (am_cc m6_draw) 20 = .ok (.invokevirtual 50, 3) by decide +kernel) lk_RX6_50 h1 (by decide) rfl rfl (by decide) (Nat.le_of_ble_eq_true rfl) ⟨rfl, rfl⟩ k
theorem g6_draw_23 {a0 a1 a2 a3 a4 : Int} {K : am_K} {M : am_M} {Q : Option am_V → am_M → Prop} (k : am_AtN m6_draw 26 [some (vr a0), some (vi a1), some (vi a2), some (vi a3), some (vi a4), some (vi 0)] [] K M Q) : am_AtN m6_draw 23 [some (vr a0), some (vi a1), some (vi a2), some (vi a3), some (vi a4), none] [] K M Q := by
  refine s_iconst (show decode (am_cc m6_draw) 23 = .ok (.iconst 0, 1) by decide +kernel) ⟨by decide, by decide⟩ ?_
  refine s_istore (show decode (am_cc m6_draw) 24 = .ok (.istore 5, 2) by decide +kernel) (by decide) ?_
  exact k
theorem g6_draw_26 {a0 a1 a2 a3 a4 a5 : Int} {K : am_K} {M : am_M} {Q : Option am_V → am_M → Prop} (k1 : a3 ≤ a5 → am_AtN m6_draw 56 [some (vr a0), some (vi a1), some (vi a2), some (vi a3), some (vi a4), some (vi a5)] [] K M Q) (k2 : ¬ (a3 ≤ a5) → am_AtN m6_draw 32 [some (vr a0), some (vi a1), some (vi a2), some (vi a3), some (vi a4), some (vi a5)] [] K M Q) : am_AtN m6_draw 26 [some (vr a0), some (vi a1), some (vi a2), some (vi a3), some (vi a4), some (vi a5)] [] K M Q := by
  refine s_iload (show decode (am_cc m6_draw) 26 = .ok (.iload 5, 2) by decide +kernel) rfl ?_
  refine s_iload_n (show decode (am_cc m6_draw) 28 = .ok (.iload_n 3, 1) by decide +kernel) rfl ?_
  exact s_icmp_ge (tgt := 56) (show decode (am_cc m6_draw) 29 = .ok (.if_icmp .ge 27, 3) by decide +kernel) (by decide) k1 k2
theorem g6_draw_32 {a0 a1 a2 a3 a4 a5 : Int} {K : am_K} {M : am_M} {Q : Option am_V → am_M → Prop} (k : am_CallN m6_kindNext [vi a1, vi a2, vi a4, vi a5, vi a3] K M (fun r M' => am_AtN m6_draw 47 [some (vr a0), some (vi a1), some (vi a2), some (vi a3), some (vi a4), some (vi a5)] (r.toList ++ [vi a5, vi a4, vr a0]) K M' Q)) : am_AtN m6_draw 32 [some (vr a0), some (vi a1), some (vi a2), some (vi a3), some (vi a4), some (vi a5)] [] K M Q := by
  refine s_aload_n (show decode (am_cc m6_draw) 32 = .ok (.aload_n 0, 1) by decide +kernel) rfl ?_
  refine s_iload (show decode (am_cc m6_draw) 33 = .ok (.iload 4, 2) by decide +kernel) rfl ?_
  refine s_iload (show decode (am_cc m6_draw) 35 = .ok (.iload 5, 2) by decide +kernel) rfl ?_
  refine s_iload_n (show decode (am_cc m6_draw) 37 = .ok (.iload_n 1, 1) by decide +kernel) rfl ?_
  refine s_iload_n (show decode (am_cc m6_draw) 38 = .ok (.iload_n 2, 1) by decide +kernel) rfl ?_
  refine s_iload (show decode (am_cc m6_draw) 39 = .ok (.iload 4, 2) by decide +kernel) rfl ?_
  refine s_iload (show decode (am_cc m6_draw) 41 = .ok (.iload 5, 2) by decide +kernel) rfl ?_
  refine s_iload_n (show decode (am_cc m6_draw) 43 = .ok (.iload_n 3, 1) by decide +kernel) rfl ?_
  exact n_callS (as := [vi a1, vi a2, vi a4, vi a5, vi a3]) (stk := [vi a5, vi a4, vr a0]) (show decode (am_cc m6_draw) 44 = .ok (.invokestatic 54, 3) by decide +kernel) lk_RX6_54 (by decide) (Nat.le_of_ble_eq_true rfl) ⟨rfl, rfl⟩ k
theorem g6_draw_47 {a0 a1 a2 a3 a4 a5 t0 t1 t2 t3 : Int} {K : am_K} {M : am_M} {Q : Option am_V → am_M → Prop} {r0 : List Int} (h1 : am_kd K t0 = some (6, 2, r0)) (k : am_CallN m6_lead [vr t0, vi t1, vi t2, vi t3] K M (fun r M' => am_AtN m6_draw 50 [some (vr a0), some (vi a1), some (vi a2), some (vi a3), some (vi a4), some (vi a5)] (r.toList ++ []) K M' Q)) : am_AtN m6_draw 47 [some (vr a0), some (vi a1), some (vi a2), some (vi a3), some (vi a4), some (vi a5)] [vi t3, vi t2, vi t1, vr t0] K M Q := by
  exact n_callV (as := [vi t1, vi t2, vi t3]) (stk := []) (show decode (am_cc m6_draw) 47 = .ok (.invokevirtual 58, 3) by decide +kernel) lk_RX6_58 h1 (by decide) rfl rfl (by decide) (Nat.le_of_ble_eq_true rfl) ⟨rfl, rfl⟩ k
theorem g6_draw_50 {a0 a1 a2 a3 a4 a5 : Int} {K : am_K} {M : am_M} {Q : Option am_V → am_M → Prop} (h1 : -2147483648 ≤ a5 + 1 ∧ a5 + 1 ≤ 2147483647) (k : am_AtN m6_draw 26 [some (vr a0), some (vi a1), some (vi a2), some (vi a3), some (vi a4), some (vi (a5 + 1))] [] K M Q) : am_AtN m6_draw 50 [some (vr a0), some (vi a1), some (vi a2), some (vi a3), some (vi a4), some (vi a5)] [] K M Q := by
  refine s_iinc (show decode (am_cc m6_draw) 50 = .ok (.iinc 5 1, 3) by decide +kernel) rfl (by decide) h1 ?_
  refine s_goto (tgt := 26) (show decode (am_cc m6_draw) 53 = .ok (.goto (-27), 3) by decide +kernel) (by decide) ?_
  exact k
theorem g6_draw_56 {a0 a1 a2 a3 a4 a5 : Int} {K : am_K} {M : am_M} {Q : Option am_V → am_M → Prop} (h1 : -2147483648 ≤ a4 + 1 ∧ a4 + 1 ≤ 2147483647) (k : am_AtN m6_draw 3 [some (vr a0), some (vi a1), some (vi a2), some (vi a3), some (vi (a4 + 1)), none] [] K M Q) : am_AtN m6_draw 56 [some (vr a0), some (vi a1), some (vi a2), some (vi a3), some (vi a4), some (vi a5)] [] K M Q := by
  refine s_iinc (show decode (am_cc m6_draw) 56 = .ok (.iinc 4 1, 3) by decide +kernel) rfl (by decide) h1 ?_
  refine s_goto (tgt := 3) (show decode (am_cc m6_draw) 59 = .ok (.goto (-56), 3) by decide +kernel) (by decide) ?_
  refine am_fg 5 ?_
  exact k
theorem g6_draw_62 {a0 a1 a2 a3 a4 : Int} {K : am_K} {M : am_M} {Q : Option am_V → am_M → Prop} (k : Q none M) : am_AtN m6_draw 62 [some (vr a0), some (vi a1), some (vi a2), some (vi a3), some (vi a4), none] [] K M Q := by
  exact s_return (show decode (am_cc m6_draw) 62 = .ok (.return_, 1) by decide +kernel) rfl k
theorem g6_kindHolds_0 {a0 a1 a2 : Int} {K : am_K} {M : am_M} {Q : Option am_V → am_M → Prop} (kd : (a0 < 1 ∨ 7 < a0) → am_AtN m6_kindHolds 87 [some (vi a0), some (vi a1), some (vi a2)] [] K M Q) (k1 : a0 = 1 → am_AtN m6_kindHolds 44 [some (vi a0), some (vi a1), some (vi a2)] [] K M Q) (k2 : a0 = 2 → am_AtN m6_kindHolds 55 [some (vi a0), some (vi a1), some (vi a2)] [] K M Q) (k3 : a0 = 3 → am_AtN m6_kindHolds 66 [some (vi a0), some (vi a1), some (vi a2)] [] K M Q) (k4 : a0 = 4 → am_AtN m6_kindHolds 66 [some (vi a0), some (vi a1), some (vi a2)] [] K M Q) (k5 : a0 = 5 → am_AtN m6_kindHolds 55 [some (vi a0), some (vi a1), some (vi a2)] [] K M Q) (k6 : a0 = 6 → am_AtN m6_kindHolds 55 [some (vi a0), some (vi a1), some (vi a2)] [] K M Q) (k7 : a0 = 7 → am_AtN m6_kindHolds 76 [some (vi a0), some (vi a1), some (vi a2)] [] K M Q) : am_AtN m6_kindHolds 0 [some (vi a0), some (vi a1), some (vi a2)] [] K M Q := by
  refine s_iload_n (show decode (am_cc m6_kindHolds) 0 = .ok (.iload_n 0, 1) by decide +kernel) rfl ?_
  by_cases hd0 : a0 < 1 ∨ 7 < a0
  · refine s_tableOut (tgt := 87) (show decode (am_cc m6_kindHolds) 1 = .ok (.tableswitch 86 1 7 #[43, 54, 65, 65, 54, 54, 75], 43) by decide +kernel) hd0 (by decide) ?_
    exact kd hd0
  · have hc0 : a0 = 1 ∨ a0 = 2 ∨ a0 = 3 ∨ a0 = 4 ∨ a0 = 5 ∨ a0 = 6 ∨ a0 = 7 := by omega
    rcases hc0 with hc0 | hc0 | hc0 | hc0 | hc0 | hc0 | hc0
    · refine s_tableIn (tgt := 44) (off := 43) (show decode (am_cc m6_kindHolds) 1 = .ok (.tableswitch 86 1 7 #[43, 54, 65, 65, 54, 54, 75], 43) by decide +kernel) 0 (by omega) (by decide) (by decide) (by decide) ?_
      exact k1 hc0
    · refine s_tableIn (tgt := 55) (off := 54) (show decode (am_cc m6_kindHolds) 1 = .ok (.tableswitch 86 1 7 #[43, 54, 65, 65, 54, 54, 75], 43) by decide +kernel) 1 (by omega) (by decide) (by decide) (by decide) ?_
      exact k2 hc0
    · refine s_tableIn (tgt := 66) (off := 65) (show decode (am_cc m6_kindHolds) 1 = .ok (.tableswitch 86 1 7 #[43, 54, 65, 65, 54, 54, 75], 43) by decide +kernel) 2 (by omega) (by decide) (by decide) (by decide) ?_
      exact k3 hc0
    · refine s_tableIn (tgt := 66) (off := 65) (show decode (am_cc m6_kindHolds) 1 = .ok (.tableswitch 86 1 7 #[43, 54, 65, 65, 54, 54, 75], 43) by decide +kernel) 3 (by omega) (by decide) (by decide) (by decide) ?_
      exact k4 hc0
    · refine s_tableIn (tgt := 55) (off := 54) (show decode (am_cc m6_kindHolds) 1 = .ok (.tableswitch 86 1 7 #[43, 54, 65, 65, 54, 54, 75], 43) by decide +kernel) 4 (by omega) (by decide) (by decide) (by decide) ?_
      exact k5 hc0
    · refine s_tableIn (tgt := 55) (off := 54) (show decode (am_cc m6_kindHolds) 1 = .ok (.tableswitch 86 1 7 #[43, 54, 65, 65, 54, 54, 75], 43) by decide +kernel) 5 (by omega) (by decide) (by decide) (by decide) ?_
      exact k6 hc0
    · refine s_tableIn (tgt := 76) (off := 75) (show decode (am_cc m6_kindHolds) 1 = .ok (.tableswitch 86 1 7 #[43, 54, 65, 65, 54, 54, 75], 43) by decide +kernel) 6 (by omega) (by decide) (by decide) (by decide) ?_
      exact k7 hc0
theorem g6_kindHolds_44 {a0 a1 a2 : Int} {K : am_K} {M : am_M} {Q : Option am_V → am_M → Prop} (k1 : a2 ≤ a1 → am_AtN m6_kindHolds 53 [some (vi a0), some (vi a1), some (vi a2)] [] K M Q) (k2 : ¬ (a2 ≤ a1) → am_AtN m6_kindHolds 49 [some (vi a0), some (vi a1), some (vi a2)] [] K M Q) : am_AtN m6_kindHolds 44 [some (vi a0), some (vi a1), some (vi a2)] [] K M Q := by
  refine s_iload_n (show decode (am_cc m6_kindHolds) 44 = .ok (.iload_n 1, 1) by decide +kernel) rfl ?_
  refine s_iload_n (show decode (am_cc m6_kindHolds) 45 = .ok (.iload_n 2, 1) by decide +kernel) rfl ?_
  exact s_icmp_ge (tgt := 53) (show decode (am_cc m6_kindHolds) 46 = .ok (.if_icmp .ge 7, 3) by decide +kernel) (by decide) k1 k2
theorem g6_kindHolds_49 {a0 a1 a2 : Int} {K : am_K} {M : am_M} {Q : Option am_V → am_M → Prop} (k : am_AtN m6_kindHolds 54 [some (vi a0), some (vi a1), some (vi a2)] [vi 1] K M Q) : am_AtN m6_kindHolds 49 [some (vi a0), some (vi a1), some (vi a2)] [] K M Q := by
  refine s_iconst (show decode (am_cc m6_kindHolds) 49 = .ok (.iconst 1, 1) by decide +kernel) ⟨by decide, by decide⟩ ?_
  refine s_goto (tgt := 54) (show decode (am_cc m6_kindHolds) 50 = .ok (.goto 4, 3) by decide +kernel) (by decide) ?_
  exact k
theorem g6_kindHolds_53 {a0 a1 a2 : Int} {K : am_K} {M : am_M} {Q : Option am_V → am_M → Prop} (k : am_AtN m6_kindHolds 54 [some (vi a0), some (vi a1), some (vi a2)] [vi 0] K M Q) : am_AtN m6_kindHolds 53 [some (vi a0), some (vi a1), some (vi a2)] [] K M Q := by
  refine s_iconst (show decode (am_cc m6_kindHolds) 53 = .ok (.iconst 0, 1) by decide +kernel) ⟨by decide, by decide⟩ ?_
  exact k
theorem g6_kindHolds_54 {a0 a1 a2 t0 : Int} {K : am_K} {M : am_M} {Q : Option am_V → am_M → Prop} (h1 : t0 = 0 ∨ t0 = 1) (k : Q (some (vi t0)) M) : am_AtN m6_kindHolds 54 [some (vi a0), some (vi a1), some (vi a2)] [vi t0] K M Q := by
  exact s_zreturn (show decode (am_cc m6_kindHolds) 54 = .ok (.ireturn, 1) by decide +kernel) rfl h1 k
theorem g6_kindHolds_55 {a0 a1 a2 : Int} {K : am_K} {M : am_M} {Q : Option am_V → am_M → Prop} (k1 : ¬ a1 = 1 → am_AtN m6_kindHolds 64 [some (vi a0), some (vi a1), some (vi a2)] [] K M Q) (k2 : a1 = 1 → am_AtN m6_kindHolds 60 [some (vi a0), some (vi a1), some (vi a2)] [] K M Q) : am_AtN m6_kindHolds 55 [some (vi a0), some (vi a1), some (vi a2)] [] K M Q := by
  refine s_iload_n (show decode (am_cc m6_kindHolds) 55 = .ok (.iload_n 1, 1) by decide +kernel) rfl ?_
  refine s_iconst (show decode (am_cc m6_kindHolds) 56 = .ok (.iconst 1, 1) by decide +kernel) ⟨by decide, by decide⟩ ?_
  exact s_icmp_ne (tgt := 64) (show decode (am_cc m6_kindHolds) 57 = .ok (.if_icmp .ne 7, 3) by decide +kernel) (by decide) k1 k2
theorem g6_kindHolds_60 {a0 a1 a2 : Int} {K : am_K} {M : am_M} {Q : Option am_V → am_M → Prop} (k : am_AtN m6_kindHolds 65 [some (vi a0), some (vi a1), some (vi a2)] [vi 1] K M Q) : am_AtN m6_kindHolds 60 [some (vi a0), some (vi a1), some (vi a2)] [] K M Q := by
  refine s_iconst (show decode (am_cc m6_kindHolds) 60 = .ok (.iconst 1, 1) by decide +kernel) ⟨by decide, by decide⟩ ?_
  refine s_goto (tgt := 65) (show decode (am_cc m6_kindHolds) 61 = .ok (.goto 4, 3) by decide +kernel) (by decide) ?_
  exact k
theorem g6_kindHolds_64 {a0 a1 a2 : Int} {K : am_K} {M : am_M} {Q : Option am_V → am_M → Prop} (k : am_AtN m6_kindHolds 65 [some (vi a0), some (vi a1), some (vi a2)] [vi 0] K M Q) : am_AtN m6_kindHolds 64 [some (vi a0), some (vi a1), some (vi a2)] [] K M Q := by
  refine s_iconst (show decode (am_cc m6_kindHolds) 64 = .ok (.iconst 0, 1) by decide +kernel) ⟨by decide, by decide⟩ ?_
  exact k
theorem g6_kindHolds_65 {a0 a1 a2 t0 : Int} {K : am_K} {M : am_M} {Q : Option am_V → am_M → Prop} (h1 : t0 = 0 ∨ t0 = 1) (k : Q (some (vi t0)) M) : am_AtN m6_kindHolds 65 [some (vi a0), some (vi a1), some (vi a2)] [vi t0] K M Q := by
  exact s_zreturn (show decode (am_cc m6_kindHolds) 65 = .ok (.ireturn, 1) by decide +kernel) rfl h1 k
theorem g6_kindHolds_66 {a0 a1 a2 : Int} {K : am_K} {M : am_M} {Q : Option am_V → am_M → Prop} (k1 : ¬ a1 = 0 → am_AtN m6_kindHolds 74 [some (vi a0), some (vi a1), some (vi a2)] [] K M Q) (k2 : a1 = 0 → am_AtN m6_kindHolds 70 [some (vi a0), some (vi a1), some (vi a2)] [] K M Q) : am_AtN m6_kindHolds 66 [some (vi a0), some (vi a1), some (vi a2)] [] K M Q := by
  refine s_iload_n (show decode (am_cc m6_kindHolds) 66 = .ok (.iload_n 1, 1) by decide +kernel) rfl ?_
  exact s_if_ne (tgt := 74) (show decode (am_cc m6_kindHolds) 67 = .ok (.ifCond .ne 7, 3) by decide +kernel) (by decide) k1 k2
theorem g6_kindHolds_70 {a0 a1 a2 : Int} {K : am_K} {M : am_M} {Q : Option am_V → am_M → Prop} (k : am_AtN m6_kindHolds 75 [some (vi a0), some (vi a1), some (vi a2)] [vi 1] K M Q) : am_AtN m6_kindHolds 70 [some (vi a0), some (vi a1), some (vi a2)] [] K M Q := by
  refine s_iconst (show decode (am_cc m6_kindHolds) 70 = .ok (.iconst 1, 1) by decide +kernel) ⟨by decide, by decide⟩ ?_
  refine s_goto (tgt := 75) (show decode (am_cc m6_kindHolds) 71 = .ok (.goto 4, 3) by decide +kernel) (by decide) ?_
  exact k
theorem g6_kindHolds_74 {a0 a1 a2 : Int} {K : am_K} {M : am_M} {Q : Option am_V → am_M → Prop} (k : am_AtN m6_kindHolds 75 [some (vi a0), some (vi a1), some (vi a2)] [vi 0] K M Q) : am_AtN m6_kindHolds 74 [some (vi a0), some (vi a1), some (vi a2)] [] K M Q := by
  refine s_iconst (show decode (am_cc m6_kindHolds) 74 = .ok (.iconst 0, 1) by decide +kernel) ⟨by decide, by decide⟩ ?_
  exact k
theorem g6_kindHolds_75 {a0 a1 a2 t0 : Int} {K : am_K} {M : am_M} {Q : Option am_V → am_M → Prop} (h1 : t0 = 0 ∨ t0 = 1) (k : Q (some (vi t0)) M) : am_AtN m6_kindHolds 75 [some (vi a0), some (vi a1), some (vi a2)] [vi t0] K M Q := by
  exact s_zreturn (show decode (am_cc m6_kindHolds) 75 = .ok (.ireturn, 1) by decide +kernel) rfl h1 k
theorem g6_kindHolds_76 {a0 a1 a2 : Int} {K : am_K} {M : am_M} {Q : Option am_V → am_M → Prop} (k1 : a2 < a1 → am_AtN m6_kindHolds 85 [some (vi a0), some (vi a1), some (vi a2)] [] K M Q) (k2 : ¬ (a2 < a1) → am_AtN m6_kindHolds 81 [some (vi a0), some (vi a1), some (vi a2)] [] K M Q) : am_AtN m6_kindHolds 76 [some (vi a0), some (vi a1), some (vi a2)] [] K M Q := by
  refine s_iload_n (show decode (am_cc m6_kindHolds) 76 = .ok (.iload_n 1, 1) by decide +kernel) rfl ?_
  refine s_iload_n (show decode (am_cc m6_kindHolds) 77 = .ok (.iload_n 2, 1) by decide +kernel) rfl ?_
  exact s_icmp_gt (tgt := 85) (show decode (am_cc m6_kindHolds) 78 = .ok (.if_icmp .gt 7, 3) by decide +kernel) (by decide) k1 k2
theorem g6_kindHolds_81 {a0 a1 a2 : Int} {K : am_K} {M : am_M} {Q : Option am_V → am_M → Prop} (k : am_AtN m6_kindHolds 86 [some (vi a0), some (vi a1), some (vi a2)] [vi 1] K M Q) : am_AtN m6_kindHolds 81 [some (vi a0), some (vi a1), some (vi a2)] [] K M Q := by
  refine s_iconst (show decode (am_cc m6_kindHolds) 81 = .ok (.iconst 1, 1) by decide +kernel) ⟨by decide, by decide⟩ ?_
  refine s_goto (tgt := 86) (show decode (am_cc m6_kindHolds) 82 = .ok (.goto 4, 3) by decide +kernel) (by decide) ?_
  exact k
theorem g6_kindHolds_85 {a0 a1 a2 : Int} {K : am_K} {M : am_M} {Q : Option am_V → am_M → Prop} (k : am_AtN m6_kindHolds 86 [some (vi a0), some (vi a1), some (vi a2)] [vi 0] K M Q) : am_AtN m6_kindHolds 85 [some (vi a0), some (vi a1), some (vi a2)] [] K M Q := by
  refine s_iconst (show decode (am_cc m6_kindHolds) 85 = .ok (.iconst 0, 1) by decide +kernel) ⟨by decide, by decide⟩ ?_
  exact k
theorem g6_kindHolds_86 {a0 a1 a2 t0 : Int} {K : am_K} {M : am_M} {Q : Option am_V → am_M → Prop} (h1 : t0 = 0 ∨ t0 = 1) (k : Q (some (vi t0)) M) : am_AtN m6_kindHolds 86 [some (vi a0), some (vi a1), some (vi a2)] [vi t0] K M Q := by
  exact s_zreturn (show decode (am_cc m6_kindHolds) 86 = .ok (.ireturn, 1) by decide +kernel) rfl h1 k
theorem g6_kindHolds_87 {a0 a1 a2 : Int} {K : am_K} {M : am_M} {Q : Option am_V → am_M → Prop} (k : Q (some (vi 1)) M) : am_AtN m6_kindHolds 87 [some (vi a0), some (vi a1), some (vi a2)] [] K M Q := by
  refine s_iconst (show decode (am_cc m6_kindHolds) 87 = .ok (.iconst 1, 1) by decide +kernel) ⟨by decide, by decide⟩ ?_
  exact s_zreturn (show decode (am_cc m6_kindHolds) 88 = .ok (.ireturn, 1) by decide +kernel) rfl (by decide) k
theorem g6_kindNext_0 {a0 a1 a2 a3 a4 : Int} {K : am_K} {M : am_M} {Q : Option am_V → am_M → Prop} (kd : (a0 < 1 ∨ 7 < a0) → am_AtN m6_kindNext 141 [some (vi a0), some (vi a1), some (vi a2), some (vi a3), some (vi a4)] [] K M Q) (k1 : a0 = 1 → am_AtN m6_kindNext 44 [some (vi a0), some (vi a1), some (vi a2), some (vi a3), some (vi a4)] [] K M Q) (k2 : a0 = 2 → am_AtN m6_kindNext 56 [some (vi a0), some (vi a1), some (vi a2), some (vi a3), some (vi a4)] [] K M Q) (k3 : a0 = 3 → am_AtN m6_kindNext 72 [some (vi a0), some (vi a1), some (vi a2), some (vi a3), some (vi a4)] [] K M Q) (k4 : a0 = 4 → am_AtN m6_kindNext 56 [some (vi a0), some (vi a1), some (vi a2), some (vi a3), some (vi a4)] [] K M Q) (k5 : a0 = 5 → am_AtN m6_kindNext 87 [some (vi a0), some (vi a1), some (vi a2), some (vi a3), some (vi a4)] [] K M Q) (k6 : a0 = 6 → am_AtN m6_kindNext 106 [some (vi a0), some (vi a1), some (vi a2), some (vi a3), some (vi a4)] [] K M Q) (k7 : a0 = 7 → am_AtN m6_kindNext 117 [some (vi a0), some (vi a1), some (vi a2), some (vi a3), some (vi a4)] [] K M Q) : am_AtN m6_kindNext 0 [some (vi a0), some (vi a1), some (vi a2), some (vi a3), some (vi a4)] [] K M Q := by
  refine s_iload_n (show decode (am_cc m6_kindNext) 0 = .ok (.iload_n 0, 1) by decide +kernel) rfl ?_
  by_cases hd0 : a0 < 1 ∨ 7 < a0
  · refine s_tableOut (tgt := 141) (show decode (am_cc m6_kindNext) 1 = .ok (.tableswitch 140 1 7 #[43, 55, 71, 55, 86, 105, 116], 43) by decide +kernel) hd0 (by decide) ?_
    exact kd hd0
  · have hc0 : a0 = 1 ∨ a0 = 2 ∨ a0 = 3 ∨ a0 = 4 ∨ a0 = 5 ∨ a0 = 6 ∨ a0 = 7 := by omega
    rcases hc0 with hc0 | hc0 | hc0 | hc0 | hc0 | hc0 | hc0
    · refine s_tableIn (tgt := 44) (off := 43) (show decode (am_cc m6_kindNext) 1 = .ok (.tableswitch 140 1 7 #[43, 55, 71, 55, 86, 105, 116], 43) by decide +kernel) 0 (by omega) (by decide) (by decide) (by decide) ?_
      exact k1 hc0
    · refine s_tableIn (tgt := 56) (off := 55) (show decode (am_cc m6_kindNext) 1 = .ok (.tableswitch 140 1 7 #[43, 55, 71, 55, 86, 105, 116], 43) by decide +kernel) 1 (by omega) (by decide) (by decide) (by decide) ?_
      exact k2 hc0
    · refine s_tableIn (tgt := 72) (off := 71) (show decode (am_cc m6_kindNext) 1 = .ok (.tableswitch 140 1 7 #[43, 55, 71, 55, 86, 105, 116], 43) by decide +kernel) 2 (by omega) (by decide) (by decide) (by decide) ?_
      exact k3 hc0
    · refine s_tableIn (tgt := 56) (off := 55) (show decode (am_cc m6_kindNext) 1 = .ok (.tableswitch 140 1 7 #[43, 55, 71, 55, 86, 105, 116], 43) by decide +kernel) 3 (by omega) (by decide) (by decide) (by decide) ?_
      exact k4 hc0
    · refine s_tableIn (tgt := 87) (off := 86) (show decode (am_cc m6_kindNext) 1 = .ok (.tableswitch 140 1 7 #[43, 55, 71, 55, 86, 105, 116], 43) by decide +kernel) 4 (by omega) (by decide) (by decide) (by decide) ?_
      exact k5 hc0
    · refine s_tableIn (tgt := 106) (off := 105) (show decode (am_cc m6_kindNext) 1 = .ok (.tableswitch 140 1 7 #[43, 55, 71, 55, 86, 105, 116], 43) by decide +kernel) 5 (by omega) (by decide) (by decide) (by decide) ?_
      exact k6 hc0
    · refine s_tableIn (tgt := 117) (off := 116) (show decode (am_cc m6_kindNext) 1 = .ok (.tableswitch 140 1 7 #[43, 55, 71, 55, 86, 105, 116], 43) by decide +kernel) 6 (by omega) (by decide) (by decide) (by decide) ?_
      exact k7 hc0
theorem g6_kindNext_44 {a0 a1 a2 a3 a4 : Int} {K : am_K} {M : am_M} {Q : Option am_V → am_M → Prop} (k1 : a2 ≤ a3 → am_AtN m6_kindNext 54 [some (vi a0), some (vi a1), some (vi a2), some (vi a3), some (vi a4)] [] K M Q) (k2 : ¬ (a2 ≤ a3) → am_AtN m6_kindNext 49 [some (vi a0), some (vi a1), some (vi a2), some (vi a3), some (vi a4)] [] K M Q) : am_AtN m6_kindNext 44 [some (vi a0), some (vi a1), some (vi a2), some (vi a3), some (vi a4)] [] K M Q := by
  refine s_iload_n (show decode (am_cc m6_kindNext) 44 = .ok (.iload_n 3, 1) by decide +kernel) rfl ?_
  refine s_iload_n (show decode (am_cc m6_kindNext) 45 = .ok (.iload_n 2, 1) by decide +kernel) rfl ?_
  exact s_icmp_ge (tgt := 54) (show decode (am_cc m6_kindNext) 46 = .ok (.if_icmp .ge 8, 3) by decide +kernel) (by decide) k1 k2
theorem g6_kindNext_49 {a0 a1 a2 a3 a4 : Int} {K : am_K} {M : am_M} {Q : Option am_V → am_M → Prop} (k : am_AtN m6_kindNext 55 [some (vi a0), some (vi a1), some (vi a2), some (vi a3), some (vi a4)] [vi a4] K M Q) : am_AtN m6_kindNext 49 [some (vi a0), some (vi a1), some (vi a2), some (vi a3), some (vi a4)] [] K M Q := by
  refine s_iload (show decode (am_cc m6_kindNext) 49 = .ok (.iload 4, 2) by decide +kernel) rfl ?_
  refine s_goto (tgt := 55) (show decode (am_cc m6_kindNext) 51 = .ok (.goto 4, 3) by decide +kernel) (by decide) ?_
  exact k
theorem g6_kindNext_54 {a0 a1 a2 a3 a4 : Int} {K : am_K} {M : am_M} {Q : Option am_V → am_M → Prop} (k : am_AtN m6_kindNext 55 [some (vi a0), some (vi a1), some (vi a2), some (vi a3), some (vi a4)] [vi a3] K M Q) : am_AtN m6_kindNext 54 [some (vi a0), some (vi a1), some (vi a2), some (vi a3), some (vi a4)] [] K M Q := by
  refine s_iload_n (show decode (am_cc m6_kindNext) 54 = .ok (.iload_n 3, 1) by decide +kernel) rfl ?_
  exact k
theorem g6_kindNext_55 {a0 a1 a2 a3 a4 t0 : Int} {K : am_K} {M : am_M} {Q : Option am_V → am_M → Prop} (k : Q (some (vi t0)) M) : am_AtN m6_kindNext 55 [some (vi a0), some (vi a1), some (vi a2), some (vi a3), some (vi a4)] [vi t0] K M Q := by
  exact s_ireturn (show decode (am_cc m6_kindNext) 55 = .ok (.ireturn, 1) by decide +kernel) rfl k
theorem g6_kindNext_56 {a0 a1 a2 a3 a4 : Int} {K : am_K} {M : am_M} {Q : Option am_V → am_M → Prop} (k1 : a2 = 1 → am_AtN m6_kindNext 66 [some (vi a0), some (vi a1), some (vi a2), some (vi a3), some (vi a4)] [] K M Q) (k2 : ¬ (a2 = 1) → am_AtN m6_kindNext 61 [some (vi a0), some (vi a1), some (vi a2), some (vi a3), some (vi a4)] [] K M Q) : am_AtN m6_kindNext 56 [some (vi a0), some (vi a1), some (vi a2), some (vi a3), some (vi a4)] [] K M Q := by
  refine s_iload_n (show decode (am_cc m6_kindNext) 56 = .ok (.iload_n 2, 1) by decide +kernel) rfl ?_
  refine s_iconst (show decode (am_cc m6_kindNext) 57 = .ok (.iconst 1, 1) by decide +kernel) ⟨by decide, by decide⟩ ?_
  exact s_icmp_eq (tgt := 66) (show decode (am_cc m6_kindNext) 58 = .ok (.if_icmp .eq 8, 3) by decide +kernel) (by decide) k1 k2
theorem g6_kindNext_61 {a0 a1 a2 a3 a4 : Int} {K : am_K} {M : am_M} {Q : Option am_V → am_M → Prop} (k1 : ¬ a3 = a1 → am_AtN m6_kindNext 70 [some (vi a0), some (vi a1), some (vi a2), some (vi a3), some (vi a4)] [] K M Q) (k2 : a3 = a1 → am_AtN m6_kindNext 66 [some (vi a0), some (vi a1), some (vi a2), some (vi a3), some (vi a4)] [] K M Q) : am_AtN m6_kindNext 61 [some (vi a0), some (vi a1), some (vi a2), some (vi a3), some (vi a4)] [] K M Q := by
  refine s_iload_n (show decode (am_cc m6_kindNext) 61 = .ok (.iload_n 3, 1) by decide +kernel) rfl ?_
  refine s_iload_n (show decode (am_cc m6_kindNext) 62 = .ok (.iload_n 1, 1) by decide +kernel) rfl ?_
  exact s_icmp_ne (tgt := 70) (show decode (am_cc m6_kindNext) 63 = .ok (.if_icmp .ne 7, 3) by decide +kernel) (by decide) k1 k2
theorem g6_kindNext_66 {a0 a1 a2 a3 a4 : Int} {K : am_K} {M : am_M} {Q : Option am_V → am_M → Prop} (k : am_AtN m6_kindNext 71 [some (vi a0), some (vi a1), some (vi a2), some (vi a3), some (vi a4)] [vi 1] K M Q) : am_AtN m6_kindNext 66 [some (vi a0), some (vi a1), some (vi a2), some (vi a3), some (vi a4)] [] K M Q := by
  refine s_iconst (show decode (am_cc m6_kindNext) 66 = .ok (.iconst 1, 1) by decide +kernel) ⟨by decide, by decide⟩ ?_
  refine s_goto (tgt := 71) (show decode (am_cc m6_kindNext) 67 = .ok (.goto 4, 3) by decide +kernel) (by decide) ?_
  exact k
theorem g6_kindNext_70 {a0 a1 a2 a3 a4 : Int} {K : am_K} {M : am_M} {Q : Option am_V → am_M → Prop} (k : am_AtN m6_kindNext 71 [some (vi a0), some (vi a1), some (vi a2), some (vi a3), some (vi a4)] [vi 0] K M Q) : am_AtN m6_kindNext 70 [some (vi a0), some (vi a1), some (vi a2), some (vi a3), some (vi a4)] [] K M Q := by
  refine s_iconst (show decode (am_cc m6_kindNext) 70 = .ok (.iconst 0, 1) by decide +kernel) ⟨by decide, by decide⟩ ?_
  exact k
theorem g6_kindNext_71 {a0 a1 a2 a3 a4 t0 : Int} {K : am_K} {M : am_M} {Q : Option am_V → am_M → Prop} (k : Q (some (vi t0)) M) : am_AtN m6_kindNext 71 [some (vi a0), some (vi a1), some (vi a2), some (vi a3), some (vi a4)] [vi t0] K M Q := by
  exact s_ireturn (show decode (am_cc m6_kindNext) 71 = .ok (.ireturn, 1) by decide +kernel) rfl k
theorem g6_kindNext_72 {a0 a1 a2 a3 a4 : Int} {K : am_K} {M : am_M} {Q : Option am_V → am_M → Prop} (h1 : -2147483648 ≤ a2 + 1 ∧ a2 + 1 ≤ 2147483647) (k1 : a1 ≤ a2 + 1 → am_AtN m6_kindNext 85 [some (vi a0), some (vi a1), some (vi a2), some (vi a3), some (vi a4)] [] K M Q) (k2 : ¬ (a1 ≤ a2 + 1) → am_AtN m6_kindNext 79 [some (vi a0), some (vi a1), some (vi a2), some (vi a3), some (vi a4)] [] K M Q) : am_AtN m6_kindNext 72 [some (vi a0), some (vi a1), some (vi a2), some (vi a3), some (vi a4)] [] K M Q := by
  refine s_iload_n (show decode (am_cc m6_kindNext) 72 = .ok (.iload_n 2, 1) by decide +kernel) rfl ?_
  refine s_iconst (show decode (am_cc m6_kindNext) 73 = .ok (.iconst 1, 1) by decide +kernel) ⟨by decide, by decide⟩ ?_
  refine s_iadd (show decode (am_cc m6_kindNext) 74 = .ok (.iadd, 1) by decide +kernel) h1 ?_
  refine s_iload_n (show decode (am_cc m6_kindNext) 75 = .ok (.iload_n 1, 1) by decide +kernel) rfl ?_
  exact s_icmp_ge (tgt := 85) (show decode (am_cc m6_kindNext) 76 = .ok (.if_icmp .ge 9, 3) by decide +kernel) (by decide) k1 k2
theorem g6_kindNext_79 {a0 a1 a2 a3 a4 : Int} {K : am_K} {M : am_M} {Q : Option am_V → am_M → Prop} (h1 : -2147483648 ≤ a2 + 1 ∧ a2 + 1 ≤ 2147483647) (k : am_AtN m6_kindNext 86 [some (vi a0), some (vi a1), some (vi a2), some (vi a3), some (vi a4)] [vi (a2 + 1)] K M Q) : am_AtN m6_kindNext 79 [some (vi a0), some (vi a1), some (vi a2), some (vi a3), some (vi a4)] [] K M Q := by
  refine s_iload_n (show decode (am_cc m6_kindNext) 79 = .ok (.iload_n 2, 1) by decide +kernel) rfl ?_
  refine s_iconst (show decode (am_cc m6_kindNext) 80 = .ok (.iconst 1, 1) by decide +kernel) ⟨by decide, by decide⟩ ?_
  refine s_iadd (show decode (am_cc m6_kindNext) 81 = .ok (.iadd, 1) by decide +kernel) h1 ?_
  refine s_goto (tgt := 86) (show decode (am_cc m6_kindNext) 82 = .ok (.goto 4, 3) by decide +kernel) (by decide) ?_
  exact k
theorem g6_kindNext_85 {a0 a1 a2 a3 a4 : Int} {K : am_K} {M : am_M} {Q : Option am_V → am_M → Prop} (k : am_AtN m6_kindNext 86 [some (vi a0), some (vi a1), some (vi a2), some (vi a3), some (vi a4)] [vi 0] K M Q) : am_AtN m6_kindNext 85 [some (vi a0), some (vi a1), some (vi a2), some (vi a3), some (vi a4)] [] K M Q := by
  refine s_iconst (show decode (am_cc m6_kindNext) 85 = .ok (.iconst 0, 1) by decide +kernel) ⟨by decide, by decide⟩ ?_
  exact k
theorem g6_kindNext_86 {a0 a1 a2 a3 a4 t0 : Int} {K : am_K} {M : am_M} {Q : Option am_V → am_M → Prop} (k : Q (some (vi t0)) M) : am_AtN m6_kindNext 86 [some (vi a0), some (vi a1), some (vi a2), some (vi a3), some (vi a4)] [vi t0] K M Q := by
  exact s_ireturn (show decode (am_cc m6_kindNext) 86 = .ok (.ireturn, 1) by decide +kernel) rfl k
theorem g6_kindNext_87 {a0 a1 a2 a3 a4 : Int} {K : am_K} {M : am_M} {Q : Option am_V → am_M → Prop} (k1 : a2 = 0 → am_AtN m6_kindNext 95 [some (vi a0), some (vi a1), some (vi a2), some (vi a3), some (vi a4)] [] K M Q) (k2 : ¬ (a2 = 0) → am_AtN m6_kindNext 91 [some (vi a0), some (vi a1), some (vi a2), some (vi a3), some (vi a4)] [] K M Q) : am_AtN m6_kindNext 87 [some (vi a0), some (vi a1), some (vi a2), some (vi a3), some (vi a4)] [] K M Q := by
  refine s_iload_n (show decode (am_cc m6_kindNext) 87 = .ok (.iload_n 2, 1) by decide +kernel) rfl ?_
  exact s_if_eq (tgt := 95) (show decode (am_cc m6_kindNext) 88 = .ok (.ifCond .eq 7, 3) by decide +kernel) (by decide) k1 k2
theorem g6_kindNext_91 {a0 a1 a2 a3 a4 : Int} {K : am_K} {M : am_M} {Q : Option am_V → am_M → Prop} (k : am_AtN m6_kindNext 105 [some (vi a0), some (vi a1), some (vi a2), some (vi a3), some (vi a4)] [vi a2] K M Q) : am_AtN m6_kindNext 91 [some (vi a0), some (vi a1), some (vi a2), some (vi a3), some (vi a4)] [] K M Q := by
  refine s_iload_n (show decode (am_cc m6_kindNext) 91 = .ok (.iload_n 2, 1) by decide +kernel) rfl ?_
  refine s_goto (tgt := 105) (show decode (am_cc m6_kindNext) 92 = .ok (.goto 13, 3) by decide +kernel) (by decide) ?_
  exact k
theorem g6_kindNext_95 {a0 a1 a2 a3 a4 : Int} {K : am_K} {M : am_M} {Q : Option am_V → am_M → Prop} (k1 : ¬ a3 = a1 → am_AtN m6_kindNext 104 [some (vi a0), some (vi a1), some (vi a2), some (vi a3), some (vi a4)] [] K M Q) (k2 : a3 = a1 → am_AtN m6_kindNext 100 [some (vi a0), some (vi a1), some (vi a2), some (vi a3), some (vi a4)] [] K M Q) : am_AtN m6_kindNext 95 [some (vi a0), some (vi a1), some (vi a2), some (vi a3), some (vi a4)] [] K M Q := by
  refine s_iload_n (show decode (am_cc m6_kindNext) 95 = .ok (.iload_n 3, 1) by decide +kernel) rfl ?_
  refine s_iload_n (show decode (am_cc m6_kindNext) 96 = .ok (.iload_n 1, 1) by decide +kernel) rfl ?_
  exact s_icmp_ne (tgt := 104) (show decode (am_cc m6_kindNext) 97 = .ok (.if_icmp .ne 7, 3) by decide +kernel) (by decide) k1 k2
theorem g6_kindNext_100 {a0 a1 a2 a3 a4 : Int} {K : am_K} {M : am_M} {Q : Option am_V → am_M → Prop} (k : am_AtN m6_kindNext 105 [some (vi a0), some (vi a1), some (vi a2), some (vi a3), some (vi a4)] [vi 1] K M Q) : am_AtN m6_kindNext 100 [some (vi a0), some (vi a1), some (vi a2), some (vi a3), some (vi a4)] [] K M Q := by
  refine s_iconst (show decode (am_cc m6_kindNext) 100 = .ok (.iconst 1, 1) by decide +kernel) ⟨by decide, by decide⟩ ?_
  refine s_goto (tgt := 105) (show decode (am_cc m6_kindNext) 101 = .ok (.goto 4, 3) by decide +kernel) (by decide) ?_
  exact k
theorem g6_kindNext_104 {a0 a1 a2 a3 a4 : Int} {K : am_K} {M : am_M} {Q : Option am_V → am_M → Prop} (k : am_AtN m6_kindNext 105 [some (vi a0), some (vi a1), some (vi a2), some (vi a3), some (vi a4)] [vi 2] K M Q) : am_AtN m6_kindNext 104 [some (vi a0), some (vi a1), some (vi a2), some (vi a3), some (vi a4)] [] K M Q := by
  refine s_iconst (show decode (am_cc m6_kindNext) 104 = .ok (.iconst 2, 1) by decide +kernel) ⟨by decide, by decide⟩ ?_
  exact k
theorem g6_kindNext_105 {a0 a1 a2 a3 a4 t0 : Int} {K : am_K} {M : am_M} {Q : Option am_V → am_M → Prop} (k : Q (some (vi t0)) M) : am_AtN m6_kindNext 105 [some (vi a0), some (vi a1), some (vi a2), some (vi a3), some (vi a4)] [vi t0] K M Q := by
  exact s_ireturn (show decode (am_cc m6_kindNext) 105 = .ok (.ireturn, 1) by decide +kernel) rfl k
theorem g6_kindNext_106 {a0 a1 a2 a3 a4 : Int} {K : am_K} {M : am_M} {Q : Option am_V → am_M → Prop} (k1 : ¬ a3 = a1 → am_AtN m6_kindNext 115 [some (vi a0), some (vi a1), some (vi a2), some (vi a3), some (vi a4)] [] K M Q) (k2 : a3 = a1 → am_AtN m6_kindNext 111 [some (vi a0), some (vi a1), some (vi a2), some (vi a3), some (vi a4)] [] K M Q) : am_AtN m6_kindNext 106 [some (vi a0), some (vi a1), some (vi a2), some (vi a3), some (vi a4)] [] K M Q := by
  refine s_iload_n (show decode (am_cc m6_kindNext) 106 = .ok (.iload_n 3, 1) by decide +kernel) rfl ?_
  refine s_iload_n (show decode (am_cc m6_kindNext) 107 = .ok (.iload_n 1, 1) by decide +kernel) rfl ?_
  exact s_icmp_ne (tgt := 115) (show decode (am_cc m6_kindNext) 108 = .ok (.if_icmp .ne 7, 3) by decide +kernel) (by decide) k1 k2
theorem g6_kindNext_111 {a0 a1 a2 a3 a4 : Int} {K : am_K} {M : am_M} {Q : Option am_V → am_M → Prop} (k : am_AtN m6_kindNext 116 [some (vi a0), some (vi a1), some (vi a2), some (vi a3), some (vi a4)] [vi 1] K M Q) : am_AtN m6_kindNext 111 [some (vi a0), some (vi a1), some (vi a2), some (vi a3), some (vi a4)] [] K M Q := by
  refine s_iconst (show decode (am_cc m6_kindNext) 111 = .ok (.iconst 1, 1) by decide +kernel) ⟨by decide, by decide⟩ ?_
  refine s_goto (tgt := 116) (show decode (am_cc m6_kindNext) 112 = .ok (.goto 4, 3) by decide +kernel) (by decide) ?_
  exact k
theorem g6_kindNext_115 {a0 a1 a2 a3 a4 : Int} {K : am_K} {M : am_M} {Q : Option am_V → am_M → Prop} (k : am_AtN m6_kindNext 116 [some (vi a0), some (vi a1), some (vi a2), some (vi a3), some (vi a4)] [vi 0] K M Q) : am_AtN m6_kindNext 115 [some (vi a0), some (vi a1), some (vi a2), some (vi a3), some (vi a4)] [] K M Q := by
  refine s_iconst (show decode (am_cc m6_kindNext) 115 = .ok (.iconst 0, 1) by decide +kernel) ⟨by decide, by decide⟩ ?_
  exact k
theorem g6_kindNext_116 {a0 a1 a2 a3 a4 t0 : Int} {K : am_K} {M : am_M} {Q : Option am_V → am_M → Prop} (k : Q (some (vi t0)) M) : am_AtN m6_kindNext 116 [some (vi a0), some (vi a1), some (vi a2), some (vi a3), some (vi a4)] [vi t0] K M Q := by
  exact s_ireturn (show decode (am_cc m6_kindNext) 116 = .ok (.ireturn, 1) by decide +kernel) rfl k
theorem g6_kindNext_117 {a0 a1 a2 a3 a4 : Int} {K : am_K} {M : am_M} {Q : Option am_V → am_M → Prop} (h1 : -2147483648 ≤ a3 + 1 ∧ a3 + 1 ≤ 2147483647) (k1 : a2 = a3 + 1 → am_AtN m6_kindNext 130 [some (vi a0), some (vi a1), some (vi a2), some (vi a3), some (vi a4)] [] K M Q) (k2 : ¬ (a2 = a3 + 1) → am_AtN m6_kindNext 124 [some (vi a0), some (vi a1), some (vi a2), some (vi a3), some (vi a4)] [] K M Q) : am_AtN m6_kindNext 117 [some (vi a0), some (vi a1), some (vi a2), some (vi a3), some (vi a4)] [] K M Q := by
  refine s_iload_n (show decode (am_cc m6_kindNext) 117 = .ok (.iload_n 2, 1) by decide +kernel) rfl ?_
  refine s_iload_n (show decode (am_cc m6_kindNext) 118 = .ok (.iload_n 3, 1) by decide +kernel) rfl ?_
  refine s_iconst (show decode (am_cc m6_kindNext) 119 = .ok (.iconst 1, 1) by decide +kernel) ⟨by decide, by decide⟩ ?_
  refine s_iadd (show decode (am_cc m6_kindNext) 120 = .ok (.iadd, 1) by decide +kernel) h1 ?_
  exact s_icmp_eq (tgt := 130) (show decode (am_cc m6_kindNext) 121 = .ok (.if_icmp .eq 9, 3) by decide +kernel) (by decide) k1 k2
theorem g6_kindNext_124 {a0 a1 a2 a3 a4 : Int} {K : am_K} {M : am_M} {Q : Option am_V → am_M → Prop} (k1 : a2 ≤ a4 → am_AtN m6_kindNext 137 [some (vi a0), some (vi a1), some (vi a2), some (vi a3), some (vi a4)] [] K M Q) (k2 : ¬ (a2 ≤ a4) → am_AtN m6_kindNext 130 [some (vi a0), some (vi a1), some (vi a2), some (vi a3), some (vi a4)] [] K M Q) : am_AtN m6_kindNext 124 [some (vi a0), some (vi a1), some (vi a2), some (vi a3), some (vi a4)] [] K M Q := by
  refine s_iload_n (show decode (am_cc m6_kindNext) 124 = .ok (.iload_n 2, 1) by decide +kernel) rfl ?_
  refine s_iload (show decode (am_cc m6_kindNext) 125 = .ok (.iload 4, 2) by decide +kernel) rfl ?_
  exact s_icmp_le (tgt := 137) (show decode (am_cc m6_kindNext) 127 = .ok (.if_icmp .le 10, 3) by decide +kernel) (by decide) k1 k2
theorem g6_kindNext_130 {a0 a1 a2 a3 a4 : Int} {K : am_K} {M : am_M} {Q : Option am_V → am_M → Prop} (h1 : -2147483648 ≤ a4 + 1 ∧ a4 + 1 ≤ 2147483647) (k : am_AtN m6_kindNext 140 [some (vi a0), some (vi a1), some (vi a2), some (vi a3), some (vi a4)] [vi (a4 + 1)] K M Q) : am_AtN m6_kindNext 130 [some (vi a0), some (vi a1), some (vi a2), some (vi a3), some (vi a4)] [] K M Q := by
  refine s_iload (show decode (am_cc m6_kindNext) 130 = .ok (.iload 4, 2) by decide +kernel) rfl ?_
  refine s_iconst (show decode (am_cc m6_kindNext) 132 = .ok (.iconst 1, 1) by decide +kernel) ⟨by decide, by decide⟩ ?_
  refine s_iadd (show decode (am_cc m6_kindNext) 133 = .ok (.iadd, 1) by decide +kernel) h1 ?_
  refine s_goto (tgt := 140) (show decode (am_cc m6_kindNext) 134 = .ok (.goto 6, 3) by decide +kernel) (by decide) ?_
  exact k
theorem g6_kindNext_137 {a0 a1 a2 a3 a4 : Int} {K : am_K} {M : am_M} {Q : Option am_V → am_M → Prop} (h1 : -2147483648 ≤ a3 + 1 ∧ a3 + 1 ≤ 2147483647) (k : am_AtN m6_kindNext 140 [some (vi a0), some (vi a1), some (vi a2), some (vi a3), some (vi a4)] [vi (a3 + 1)] K M Q) : am_AtN m6_kindNext 137 [some (vi a0), some (vi a1), some (vi a2), some (vi a3), some (vi a4)] [] K M Q := by
  refine s_iload_n (show decode (am_cc m6_kindNext) 137 = .ok (.iload_n 3, 1) by decide +kernel) rfl ?_
  refine s_iconst (show decode (am_cc m6_kindNext) 138 = .ok (.iconst 1, 1) by decide +kernel) ⟨by decide, by decide⟩ ?_
  refine s_iadd (show decode (am_cc m6_kindNext) 139 = .ok (.iadd, 1) by decide +kernel) h1 ?_
  exact k
theorem g6_kindNext_140 {a0 a1 a2 a3 a4 t0 : Int} {K : am_K} {M : am_M} {Q : Option am_V → am_M → Prop} (k : Q (some (vi t0)) M) : am_AtN m6_kindNext 140 [some (vi a0), some (vi a1), some (vi a2), some (vi a3), some (vi a4)] [vi t0] K M Q := by
  exact s_ireturn (show decode (am_cc m6_kindNext) 140 = .ok (.ireturn, 1) by decide +kernel) rfl k
theorem g6_kindNext_141 {a0 a1 a2 a3 a4 : Int} {K : am_K} {M : am_M} {Q : Option am_V → am_M → Prop} (k : Q (some (vi 0)) M) : am_AtN m6_kindNext 141 [some (vi a0), some (vi a1), some (vi a2), some (vi a3), some (vi a4)] [] K M Q := by
  refine s_iconst (show decode (am_cc m6_kindNext) 141 = .ok (.iconst 0, 1) by decide +kernel) ⟨by decide, by decide⟩ ?_
  exact s_ireturn (show decode (am_cc m6_kindNext) 142 = .ok (.ireturn, 1) by decide +kernel) rfl k
theorem g4_startAnew_0 {a0 : Int} {K : am_K} {M : am_M} {Q : Option am_V → am_M → Prop} (k : am_AtN m4_startAnew 2 [some (vr a0), some (vi 0), none] [] K M Q) : am_AtN m4_startAnew 0 [some (vr a0), none, none] [] K M Q := by
  refine s_iconst (show decode (am_cc m4_startAnew) 0 = .ok (.iconst 0, 1) by decide +kernel) ⟨by decide, by decide⟩ ?_
  refine s_istore_n (show decode (am_cc m4_startAnew) 1 = .ok (.istore_n 1, 1) by decide +kernel) (by decide) ?_
  exact k
theorem g4_startAnew_2 {a0 a1 : Int} {K : am_K} {M : am_M} {Q : Option am_V → am_M → Prop} (k1 : 6 ≤ a1 → am_AtN m4_startAnew 44 [some (vr a0), some (vi a1), none] [] K M Q) (k2 : ¬ (6 ≤ a1) → am_AtN m4_startAnew 8 [some (vr a0), some (vi a1), none] [] K M Q) : am_AtN m4_startAnew 2 [some (vr a0), some (vi a1), none] [] K M Q := by
  refine s_iload_n (show decode (am_cc m4_startAnew) 2 = .ok (.iload_n 1, 1) by decide +kernel) rfl ?_
  refine s_bipush (show decode (am_cc m4_startAnew) 3 = .ok (.bipush 6, 2) by decide +kernel) ⟨by decide, by decide⟩ (by decide) ?_
  exact s_icmp_ge (tgt := 44) (show decode (am_cc m4_startAnew) 5 = .ok (.if_icmp .ge 39, 3) by decide +kernel) (by decide) k1 k2
theorem g4_startAnew_8 {a0 a1 : Int} {K : am_K} {M : am_M} {Q : Option am_V → am_M → Prop} {r0_0 : Int} {r0_1 : Int} {r0_2 : Int} {n1 : Nat} {q1 : List Int} (h1 : am_kd K a0 = some (4, 3, [r0_0, r0_1, r0_2])) (h2 : am_kd K r0_2 = some (11, n1, q1)) (h3 : 0 ≤ a1) (h4 : a1 < (n1 : Int)) (k : am_AtN m4_startAnew 17 [some (vr a0), some (vi a1), some (vi 0)] [] K (am_up M r0_2 a1 0) Q) : am_AtN m4_startAnew 8 [some (vr a0), some (vi a1), none] [] K M Q := by
  refine s_aload_n (show decode (am_cc m4_startAnew) 8 = .ok (.aload_n 0, 1) by decide +kernel) rfl ?_
  refine s_getf (k := 2) (v := vr r0_2) (show decode (am_cc m4_startAnew) 9 = .ok (.getfield 18, 3) by decide +kernel) h1 (by decide) rfl jnX4 (by decide) lf_RX4_18 rfl ?_
  refine s_iload_n (show decode (am_cc m4_startAnew) 12 = .ok (.iload_n 1, 1) by decide +kernel) rfl ?_
  refine s_iconst (show decode (am_cc m4_startAnew) 13 = .ok (.iconst 0, 1) by decide +kernel) ⟨by decide, by decide⟩ ?_
  refine s_iastore (show decode (am_cc m4_startAnew) 14 = .ok (.iastore, 1) by decide +kernel) h2 h3 h4 ?_
  refine s_iconst (show decode (am_cc m4_startAnew) 15 = .ok (.iconst 0, 1) by decide +kernel) ⟨by decide, by decide⟩ ?_
  refine s_istore_n (show decode (am_cc m4_startAnew) 16 = .ok (.istore_n 2, 1) by decide +kernel) (by decide) ?_
  exact k
theorem g4_startAnew_17 {a0 a1 a2 : Int} {K : am_K} {M : am_M} {Q : Option am_V → am_M → Prop} (k1 : 4 ≤ a2 → am_AtN m4_startAnew 38 [some (vr a0), some (vi a1), some (vi a2)] [] K M Q) (k2 : ¬ (4 ≤ a2) → am_AtN m4_startAnew 22 [some (vr a0), some (vi a1), some (vi a2)] [] K M Q) : am_AtN m4_startAnew 17 [some (vr a0), some (vi a1), some (vi a2)] [] K M Q := by
  refine s_iload_n (show decode (am_cc m4_startAnew) 17 = .ok (.iload_n 2, 1) by decide +kernel) rfl ?_
  refine s_iconst (show decode (am_cc m4_startAnew) 18 = .ok (.iconst 4, 1) by decide +kernel) ⟨by decide, by decide⟩ ?_
  exact s_icmp_ge (tgt := 38) (show decode (am_cc m4_startAnew) 19 = .ok (.if_icmp .ge 19, 3) by decide +kernel) (by decide) k1 k2
theorem g4_startAnew_22 {a0 a1 a2 : Int} {K : am_K} {M : am_M} {Q : Option am_V → am_M → Prop} {r0 : List Int} (h1 : -2147483648 ≤ 1 + a2 ∧ 1 + a2 ≤ 2147483647) (h2 : am_kd K a0 = some (4, 3, r0)) (k : am_CallN m4_lead [vr a0, vi a1, vi a2, vi 0, vi (1 + a2)] K M (fun r M' => am_AtN m4_startAnew 32 [some (vr a0), some (vi a1), some (vi a2)] (r.toList ++ []) K M' Q)) : am_AtN m4_startAnew 22 [some (vr a0), some (vi a1), some (vi a2)] [] K M Q := by
  refine s_aload_n (show decode (am_cc m4_startAnew) 22 = .ok (.aload_n 0, 1) by decide +kernel) rfl ?_
  refine s_iload_n (show decode (am_cc m4_startAnew) 23 = .ok (.iload_n 1, 1) by decide +kernel) rfl ?_
  refine s_iload_n (show decode (am_cc m4_startAnew) 24 = .ok (.iload_n 2, 1) by decide +kernel) rfl ?_
  refine s_iconst (show decode (am_cc m4_startAnew) 25 = .ok (.iconst 0, 1) by decide +kernel) ⟨by decide, by decide⟩ ?_
  refine s_iconst (show decode (am_cc m4_startAnew) 26 = .ok (.iconst 1, 1) by decide +kernel) ⟨by decide, by decide⟩ ?_
  refine s_iload_n (show decode (am_cc m4_startAnew) 27 = .ok (.iload_n 2, 1) by decide +kernel) rfl ?_
  refine s_iadd (show decode (am_cc m4_startAnew) 28 = .ok (.iadd, 1) by decide +kernel) h1 ?_
  exact n_callV (as := [vi a1, vi a2, vi 0, vi (1 + a2)]) (stk := []) (show decode (am_cc m4_startAnew) 29 = .ok (.invokevirtual 24, 3) by decide +kernel) lk_RX4_24 h2 (by decide) rfl rfl (by decide) (Nat.le_of_ble_eq_true rfl) ⟨rfl, rfl⟩ k
theorem g4_startAnew_32 {a0 a1 a2 : Int} {K : am_K} {M : am_M} {Q : Option am_V → am_M → Prop} (h1 : -2147483648 ≤ a2 + 1 ∧ a2 + 1 ≤ 2147483647) (k : am_AtN m4_startAnew 17 [some (vr a0), some (vi a1), some (vi (a2 + 1))] [] K M Q) : am_AtN m4_startAnew 32 [some (vr a0), some (vi a1), some (vi a2)] [] K M Q := by
  refine s_iinc (show decode (am_cc m4_startAnew) 32 = .ok (.iinc 2 1, 3) by decide +kernel) rfl (by decide) h1 ?_
  refine s_goto (tgt := 17) (show decode (am_cc m4_startAnew) 35 = .ok (.goto (-18), 3) by decide +kernel) (by decide) ?_
  exact k
theorem g4_startAnew_38 {a0 a1 a2 : Int} {K : am_K} {M : am_M} {Q : Option am_V → am_M → Prop} (h1 : -2147483648 ≤ a1 + 1 ∧ a1 + 1 ≤ 2147483647) (k : am_AtN m4_startAnew 2 [some (vr a0), some (vi (a1 + 1)), none] [] K M Q) : am_AtN m4_startAnew 38 [some (vr a0), some (vi a1), some (vi a2)] [] K M Q := by
  refine s_iinc (show decode (am_cc m4_startAnew) 38 = .ok (.iinc 1 1, 3) by decide +kernel) rfl (by decide) h1 ?_
  refine s_goto (tgt := 2) (show decode (am_cc m4_startAnew) 41 = .ok (.goto (-39), 3) by decide +kernel) (by decide) ?_
  refine am_fg 2 ?_
  exact k
theorem g4_startAnew_44 {a0 a1 : Int} {K : am_K} {M : am_M} {Q : Option am_V → am_M → Prop} (k : Q none M) : am_AtN m4_startAnew 44 [some (vr a0), some (vi a1), none] [] K M Q := by
  exact s_return (show decode (am_cc m4_startAnew) 44 = .ok (.return_, 1) by decide +kernel) rfl k
theorem g4_nextOf_0 {a0 a1 a2 : Int} {K : am_K} {M : am_M} {Q : Option am_V → am_M → Prop} (k : am_CallN m8_within [vi a1, vi 6] K M (fun r M' => am_AtN m4_nextOf 6 [some (vr a0), some (vi a1), some (vi a2)] (r.toList ++ []) K M' Q)) : am_AtN m4_nextOf 0 [some (vr a0), some (vi a1), some (vi a2)] [] K M Q := by
  refine s_iload_n (show decode (am_cc m4_nextOf) 0 = .ok (.iload_n 1, 1) by decide +kernel) rfl ?_
  refine s_bipush (show decode (am_cc m4_nextOf) 1 = .ok (.bipush 6, 2) by decide +kernel) ⟨by decide, by decide⟩ (by decide) ?_
  exact n_callN (as := [vi a1, vi 6]) (stk := []) (show decode (am_cc m4_nextOf) 3 = .ok (.invokestatic 28, 3) by decide +kernel) lk_RX4_28 (by decide) (Nat.le_of_ble_eq_true rfl) ⟨rfl, rfl⟩ k
theorem g4_nextOf_6 {a0 a1 a2 t0 : Int} {K : am_K} {M : am_M} {Q : Option am_V → am_M → Prop} (k1 : t0 = 0 → am_AtN m4_nextOf 17 [some (vr a0), some (vi a1), some (vi a2)] [] K M Q) (k2 : ¬ (t0 = 0) → am_AtN m4_nextOf 9 [some (vr a0), some (vi a1), some (vi a2)] [] K M Q) : am_AtN m4_nextOf 6 [some (vr a0), some (vi a1), some (vi a2)] [vi t0] K M Q := by
  exact s_if_eq (tgt := 17) (show decode (am_cc m4_nextOf) 6 = .ok (.ifCond .eq 11, 3) by decide +kernel) (by decide) k1 k2
theorem g4_nextOf_9 {a0 a1 a2 : Int} {K : am_K} {M : am_M} {Q : Option am_V → am_M → Prop} (k : am_CallN m8_within [vi a2, vi 4] K M (fun r M' => am_AtN m4_nextOf 14 [some (vr a0), some (vi a1), some (vi a2)] (r.toList ++ []) K M' Q)) : am_AtN m4_nextOf 9 [some (vr a0), some (vi a1), some (vi a2)] [] K M Q := by
  refine s_iload_n (show decode (am_cc m4_nextOf) 9 = .ok (.iload_n 2, 1) by decide +kernel) rfl ?_
  refine s_iconst (show decode (am_cc m4_nextOf) 10 = .ok (.iconst 4, 1) by decide +kernel) ⟨by decide, by decide⟩ ?_
  exact n_callN (as := [vi a2, vi 4]) (stk := []) (show decode (am_cc m4_nextOf) 11 = .ok (.invokestatic 28, 3) by decide +kernel) lk_RX4_28 (by decide) (Nat.le_of_ble_eq_true rfl) ⟨rfl, rfl⟩ k
theorem g4_nextOf_14 {a0 a1 a2 t0 : Int} {K : am_K} {M : am_M} {Q : Option am_V → am_M → Prop} (k1 : ¬ t0 = 0 → am_AtN m4_nextOf 19 [some (vr a0), some (vi a1), some (vi a2)] [] K M Q) (k2 : t0 = 0 → am_AtN m4_nextOf 17 [some (vr a0), some (vi a1), some (vi a2)] [] K M Q) : am_AtN m4_nextOf 14 [some (vr a0), some (vi a1), some (vi a2)] [vi t0] K M Q := by
  exact s_if_ne (tgt := 19) (show decode (am_cc m4_nextOf) 14 = .ok (.ifCond .ne 5, 3) by decide +kernel) (by decide) k1 k2
theorem g4_nextOf_17 {a0 a1 a2 : Int} {K : am_K} {M : am_M} {Q : Option am_V → am_M → Prop} (k : Q (some (vi 0)) M) : am_AtN m4_nextOf 17 [some (vr a0), some (vi a1), some (vi a2)] [] K M Q := by
  refine s_iconst (show decode (am_cc m4_nextOf) 17 = .ok (.iconst 0, 1) by decide +kernel) ⟨by decide, by decide⟩ ?_
  exact s_ireturn (show decode (am_cc m4_nextOf) 18 = .ok (.ireturn, 1) by decide +kernel) rfl k
theorem g4_nextOf_19 {a0 a1 a2 : Int} {K : am_K} {M : am_M} {Q : Option am_V → am_M → Prop} {r0_0 : Int} {r0_1 : Int} {r0_2 : Int} {n1 : Nat} {q1 : List Int} (h1 : am_kd K a0 = some (4, 3, [r0_0, r0_1, r0_2])) (h2 : -2147483648 ≤ a1 * 4 ∧ a1 * 4 ≤ 2147483647) (h3 : -2147483648 ≤ (a1 * 4) + a2 ∧ (a1 * 4) + a2 ≤ 2147483647) (h4 : am_kd K r0_0 = some (11, n1, q1)) (h5 : 0 ≤ (a1 * 4) + a2) (h6 : (a1 * 4) + a2 < (n1 : Int)) (k : Q (some (vi (M r0_0 ((a1 * 4) + a2)))) M) : am_AtN m4_nextOf 19 [some (vr a0), some (vi a1), some (vi a2)] [] K M Q := by
  refine s_aload_n (show decode (am_cc m4_nextOf) 19 = .ok (.aload_n 0, 1) by decide +kernel) rfl ?_
  refine s_getf (k := 0) (v := vr r0_0) (show decode (am_cc m4_nextOf) 20 = .ok (.getfield 9, 3) by decide +kernel) h1 (by decide) rfl jnX4 (by decide) lf_RX4_9 rfl ?_
  refine s_iload_n (show decode (am_cc m4_nextOf) 23 = .ok (.iload_n 1, 1) by decide +kernel) rfl ?_
  refine s_iconst (show decode (am_cc m4_nextOf) 24 = .ok (.iconst 4, 1) by decide +kernel) ⟨by decide, by decide⟩ ?_
  refine s_imul (show decode (am_cc m4_nextOf) 25 = .ok (.imul, 1) by decide +kernel) h2 ?_
  refine s_iload_n (show decode (am_cc m4_nextOf) 26 = .ok (.iload_n 2, 1) by decide +kernel) rfl ?_
  refine s_iadd (show decode (am_cc m4_nextOf) 27 = .ok (.iadd, 1) by decide +kernel) h3 ?_
  refine s_iaload (show decode (am_cc m4_nextOf) 28 = .ok (.iaload, 1) by decide +kernel) h4 h5 h6 ?_
  exact s_ireturn (show decode (am_cc m4_nextOf) 29 = .ok (.ireturn, 1) by decide +kernel) rfl k
theorem g4_wordOf_0 {a0 a1 a2 : Int} {K : am_K} {M : am_M} {Q : Option am_V → am_M → Prop} (k : am_CallN m8_within [vi a1, vi 6] K M (fun r M' => am_AtN m4_wordOf 6 [some (vr a0), some (vi a1), some (vi a2)] (r.toList ++ []) K M' Q)) : am_AtN m4_wordOf 0 [some (vr a0), some (vi a1), some (vi a2)] [] K M Q := by
  refine s_iload_n (show decode (am_cc m4_wordOf) 0 = .ok (.iload_n 1, 1) by decide +kernel) rfl ?_
  refine s_bipush (show decode (am_cc m4_wordOf) 1 = .ok (.bipush 6, 2) by decide +kernel) ⟨by decide, by decide⟩ (by decide) ?_
  exact n_callN (as := [vi a1, vi 6]) (stk := []) (show decode (am_cc m4_wordOf) 3 = .ok (.invokestatic 28, 3) by decide +kernel) lk_RX4_28 (by decide) (Nat.le_of_ble_eq_true rfl) ⟨rfl, rfl⟩ k
theorem g4_wordOf_6 {a0 a1 a2 t0 : Int} {K : am_K} {M : am_M} {Q : Option am_V → am_M → Prop} (k1 : t0 = 0 → am_AtN m4_wordOf 17 [some (vr a0), some (vi a1), some (vi a2)] [] K M Q) (k2 : ¬ (t0 = 0) → am_AtN m4_wordOf 9 [some (vr a0), some (vi a1), some (vi a2)] [] K M Q) : am_AtN m4_wordOf 6 [some (vr a0), some (vi a1), some (vi a2)] [vi t0] K M Q := by
  exact s_if_eq (tgt := 17) (show decode (am_cc m4_wordOf) 6 = .ok (.ifCond .eq 11, 3) by decide +kernel) (by decide) k1 k2
theorem g4_wordOf_9 {a0 a1 a2 : Int} {K : am_K} {M : am_M} {Q : Option am_V → am_M → Prop} (k : am_CallN m8_within [vi a2, vi 4] K M (fun r M' => am_AtN m4_wordOf 14 [some (vr a0), some (vi a1), some (vi a2)] (r.toList ++ []) K M' Q)) : am_AtN m4_wordOf 9 [some (vr a0), some (vi a1), some (vi a2)] [] K M Q := by
  refine s_iload_n (show decode (am_cc m4_wordOf) 9 = .ok (.iload_n 2, 1) by decide +kernel) rfl ?_
  refine s_iconst (show decode (am_cc m4_wordOf) 10 = .ok (.iconst 4, 1) by decide +kernel) ⟨by decide, by decide⟩ ?_
  exact n_callN (as := [vi a2, vi 4]) (stk := []) (show decode (am_cc m4_wordOf) 11 = .ok (.invokestatic 28, 3) by decide +kernel) lk_RX4_28 (by decide) (Nat.le_of_ble_eq_true rfl) ⟨rfl, rfl⟩ k
theorem g4_wordOf_14 {a0 a1 a2 t0 : Int} {K : am_K} {M : am_M} {Q : Option am_V → am_M → Prop} (k1 : ¬ t0 = 0 → am_AtN m4_wordOf 19 [some (vr a0), some (vi a1), some (vi a2)] [] K M Q) (k2 : t0 = 0 → am_AtN m4_wordOf 17 [some (vr a0), some (vi a1), some (vi a2)] [] K M Q) : am_AtN m4_wordOf 14 [some (vr a0), some (vi a1), some (vi a2)] [vi t0] K M Q := by
  exact s_if_ne (tgt := 19) (show decode (am_cc m4_wordOf) 14 = .ok (.ifCond .ne 5, 3) by decide +kernel) (by decide) k1 k2
theorem g4_wordOf_17 {a0 a1 a2 : Int} {K : am_K} {M : am_M} {Q : Option am_V → am_M → Prop} (k : Q (some (vi 0)) M) : am_AtN m4_wordOf 17 [some (vr a0), some (vi a1), some (vi a2)] [] K M Q := by
  refine s_iconst (show decode (am_cc m4_wordOf) 17 = .ok (.iconst 0, 1) by decide +kernel) ⟨by decide, by decide⟩ ?_
  exact s_ireturn (show decode (am_cc m4_wordOf) 18 = .ok (.ireturn, 1) by decide +kernel) rfl k
theorem g4_wordOf_19 {a0 a1 a2 : Int} {K : am_K} {M : am_M} {Q : Option am_V → am_M → Prop} {r0_0 : Int} {r0_1 : Int} {r0_2 : Int} {n1 : Nat} {q1 : List Int} (h1 : am_kd K a0 = some (4, 3, [r0_0, r0_1, r0_2])) (h2 : -2147483648 ≤ a1 * 4 ∧ a1 * 4 ≤ 2147483647) (h3 : -2147483648 ≤ (a1 * 4) + a2 ∧ (a1 * 4) + a2 ≤ 2147483647) (h4 : am_kd K r0_1 = some (11, n1, q1)) (h5 : 0 ≤ (a1 * 4) + a2) (h6 : (a1 * 4) + a2 < (n1 : Int)) (k : Q (some (vi (M r0_1 ((a1 * 4) + a2)))) M) : am_AtN m4_wordOf 19 [some (vr a0), some (vi a1), some (vi a2)] [] K M Q := by
  refine s_aload_n (show decode (am_cc m4_wordOf) 19 = .ok (.aload_n 0, 1) by decide +kernel) rfl ?_
  refine s_getf (k := 1) (v := vr r0_1) (show decode (am_cc m4_wordOf) 20 = .ok (.getfield 15, 3) by decide +kernel) h1 (by decide) rfl jnX4 (by decide) lf_RX4_15 rfl ?_
  refine s_iload_n (show decode (am_cc m4_wordOf) 23 = .ok (.iload_n 1, 1) by decide +kernel) rfl ?_
  refine s_iconst (show decode (am_cc m4_wordOf) 24 = .ok (.iconst 4, 1) by decide +kernel) ⟨by decide, by decide⟩ ?_
  refine s_imul (show decode (am_cc m4_wordOf) 25 = .ok (.imul, 1) by decide +kernel) h2 ?_
  refine s_iload_n (show decode (am_cc m4_wordOf) 26 = .ok (.iload_n 2, 1) by decide +kernel) rfl ?_
  refine s_iadd (show decode (am_cc m4_wordOf) 27 = .ok (.iadd, 1) by decide +kernel) h3 ?_
  refine s_iaload (show decode (am_cc m4_wordOf) 28 = .ok (.iaload, 1) by decide +kernel) h4 h5 h6 ?_
  exact s_ireturn (show decode (am_cc m4_wordOf) 29 = .ok (.ireturn, 1) by decide +kernel) rfl k
theorem g4_endOf_0 {a0 a1 : Int} {K : am_K} {M : am_M} {Q : Option am_V → am_M → Prop} (k : am_CallN m8_within [vi a1, vi 6] K M (fun r M' => am_AtN m4_endOf 6 [some (vr a0), some (vi a1)] (r.toList ++ []) K M' Q)) : am_AtN m4_endOf 0 [some (vr a0), some (vi a1)] [] K M Q := by
  refine s_iload_n (show decode (am_cc m4_endOf) 0 = .ok (.iload_n 1, 1) by decide +kernel) rfl ?_
  refine s_bipush (show decode (am_cc m4_endOf) 1 = .ok (.bipush 6, 2) by decide +kernel) ⟨by decide, by decide⟩ (by decide) ?_
  exact n_callN (as := [vi a1, vi 6]) (stk := []) (show decode (am_cc m4_endOf) 3 = .ok (.invokestatic 28, 3) by decide +kernel) lk_RX4_28 (by decide) (Nat.le_of_ble_eq_true rfl) ⟨rfl, rfl⟩ k
theorem g4_endOf_6 {a0 a1 t0 : Int} {K : am_K} {M : am_M} {Q : Option am_V → am_M → Prop} (k1 : t0 = 0 → am_AtN m4_endOf 18 [some (vr a0), some (vi a1)] [] K M Q) (k2 : ¬ (t0 = 0) → am_AtN m4_endOf 9 [some (vr a0), some (vi a1)] [] K M Q) : am_AtN m4_endOf 6 [some (vr a0), some (vi a1)] [vi t0] K M Q := by
  exact s_if_eq (tgt := 18) (show decode (am_cc m4_endOf) 6 = .ok (.ifCond .eq 12, 3) by decide +kernel) (by decide) k1 k2
theorem g4_endOf_9 {a0 a1 : Int} {K : am_K} {M : am_M} {Q : Option am_V → am_M → Prop} {r0_0 : Int} {r0_1 : Int} {r0_2 : Int} {n1 : Nat} {q1 : List Int} (h1 : am_kd K a0 = some (4, 3, [r0_0, r0_1, r0_2])) (h2 : am_kd K r0_2 = some (11, n1, q1)) (h3 : 0 ≤ a1) (h4 : a1 < (n1 : Int)) (k : am_AtN m4_endOf 19 [some (vr a0), some (vi a1)] [vi (M r0_2 a1)] K M Q) : am_AtN m4_endOf 9 [some (vr a0), some (vi a1)] [] K M Q := by
  refine s_aload_n (show decode (am_cc m4_endOf) 9 = .ok (.aload_n 0, 1) by decide +kernel) rfl ?_
  refine s_getf (k := 2) (v := vr r0_2) (show decode (am_cc m4_endOf) 10 = .ok (.getfield 18, 3) by decide +kernel) h1 (by decide) rfl jnX4 (by decide) lf_RX4_18 rfl ?_
  refine s_iload_n (show decode (am_cc m4_endOf) 13 = .ok (.iload_n 1, 1) by decide +kernel) rfl ?_
  refine s_iaload (show decode (am_cc m4_endOf) 14 = .ok (.iaload, 1) by decide +kernel) h2 h3 h4 ?_
  refine s_goto (tgt := 19) (show decode (am_cc m4_endOf) 15 = .ok (.goto 4, 3) by decide +kernel) (by decide) ?_
  exact k
theorem g4_endOf_18 {a0 a1 : Int} {K : am_K} {M : am_M} {Q : Option am_V → am_M → Prop} (k : am_AtN m4_endOf 19 [some (vr a0), some (vi a1)] [vi (-1)] K M Q) : am_AtN m4_endOf 18 [some (vr a0), some (vi a1)] [] K M Q := by
  refine s_iconst (show decode (am_cc m4_endOf) 18 = .ok (.iconst (-1), 1) by decide +kernel) ⟨by decide, by decide⟩ ?_
  exact k
theorem g4_endOf_19 {a0 a1 t0 : Int} {K : am_K} {M : am_M} {Q : Option am_V → am_M → Prop} (k : Q (some (vi t0)) M) : am_AtN m4_endOf 19 [some (vr a0), some (vi a1)] [vi t0] K M Q := by
  exact s_ireturn (show decode (am_cc m4_endOf) 19 = .ok (.ireturn, 1) by decide +kernel) rfl k
theorem g4_lead_0 {a0 a1 a2 a3 a4 : Int} {K : am_K} {M : am_M} {Q : Option am_V → am_M → Prop} (k : am_CallN m8_within [vi a1, vi 6] K M (fun r M' => am_AtN m4_lead 6 [some (vr a0), some (vi a1), some (vi a2), some (vi a3), some (vi a4)] (r.toList ++ []) K M' Q)) : am_AtN m4_lead 0 [some (vr a0), some (vi a1), some (vi a2), some (vi a3), some (vi a4)] [] K M Q := by
  refine s_iload_n (show decode (am_cc m4_lead) 0 = .ok (.iload_n 1, 1) by decide +kernel) rfl ?_
  refine s_bipush (show decode (am_cc m4_lead) 1 = .ok (.bipush 6, 2) by decide +kernel) ⟨by decide, by decide⟩ (by decide) ?_
  exact n_callN (as := [vi a1, vi 6]) (stk := []) (show decode (am_cc m4_lead) 3 = .ok (.invokestatic 28, 3) by decide +kernel) lk_RX4_28 (by decide) (Nat.le_of_ble_eq_true rfl) ⟨rfl, rfl⟩ k
theorem g4_lead_6 {a0 a1 a2 a3 a4 t0 : Int} {K : am_K} {M : am_M} {Q : Option am_V → am_M → Prop} (k1 : t0 = 0 → am_AtN m4_lead 17 [some (vr a0), some (vi a1), some (vi a2), some (vi a3), some (vi a4)] [] K M Q) (k2 : ¬ (t0 = 0) → am_AtN m4_lead 9 [some (vr a0), some (vi a1), some (vi a2), some (vi a3), some (vi a4)] [] K M Q) : am_AtN m4_lead 6 [some (vr a0), some (vi a1), some (vi a2), some (vi a3), some (vi a4)] [vi t0] K M Q := by
  exact s_if_eq (tgt := 17) (show decode (am_cc m4_lead) 6 = .ok (.ifCond .eq 11, 3) by decide +kernel) (by decide) k1 k2
theorem g4_lead_9 {a0 a1 a2 a3 a4 : Int} {K : am_K} {M : am_M} {Q : Option am_V → am_M → Prop} (k : am_CallN m8_within [vi a2, vi 4] K M (fun r M' => am_AtN m4_lead 14 [some (vr a0), some (vi a1), some (vi a2), some (vi a3), some (vi a4)] (r.toList ++ []) K M' Q)) : am_AtN m4_lead 9 [some (vr a0), some (vi a1), some (vi a2), some (vi a3), some (vi a4)] [] K M Q := by
  refine s_iload_n (show decode (am_cc m4_lead) 9 = .ok (.iload_n 2, 1) by decide +kernel) rfl ?_
  refine s_iconst (show decode (am_cc m4_lead) 10 = .ok (.iconst 4, 1) by decide +kernel) ⟨by decide, by decide⟩ ?_
  exact n_callN (as := [vi a2, vi 4]) (stk := []) (show decode (am_cc m4_lead) 11 = .ok (.invokestatic 28, 3) by decide +kernel) lk_RX4_28 (by decide) (Nat.le_of_ble_eq_true rfl) ⟨rfl, rfl⟩ k
theorem g4_lead_14 {a0 a1 a2 a3 a4 t0 : Int} {K : am_K} {M : am_M} {Q : Option am_V → am_M → Prop} (k1 : ¬ t0 = 0 → am_AtN m4_lead 18 [some (vr a0), some (vi a1), some (vi a2), some (vi a3), some (vi a4)] [] K M Q) (k2 : t0 = 0 → am_AtN m4_lead 17 [some (vr a0), some (vi a1), some (vi a2), some (vi a3), some (vi a4)] [] K M Q) : am_AtN m4_lead 14 [some (vr a0), some (vi a1), some (vi a2), some (vi a3), some (vi a4)] [vi t0] K M Q := by
  exact s_if_ne (tgt := 18) (show decode (am_cc m4_lead) 14 = .ok (.ifCond .ne 4, 3) by decide +kernel) (by decide) k1 k2
theorem g4_lead_17 {a0 a1 a2 a3 a4 : Int} {K : am_K} {M : am_M} {Q : Option am_V → am_M → Prop} (k : Q none M) : am_AtN m4_lead 17 [some (vr a0), some (vi a1), some (vi a2), some (vi a3), some (vi a4)] [] K M Q := by
  exact s_return (show decode (am_cc m4_lead) 17 = .ok (.return_, 1) by decide +kernel) rfl k
theorem g4_lead_18 {a0 a1 a2 a3 a4 : Int} {K : am_K} {M : am_M} {Q : Option am_V → am_M → Prop} {r0_0 : Int} {r0_1 : Int} {r0_2 : Int} {n1 : Nat} {q1 : List Int} {n2 : Nat} {q2 : List Int} (h1 : am_kd K a0 = some (4, 3, [r0_0, r0_1, r0_2])) (h2 : -2147483648 ≤ a1 * 4 ∧ a1 * 4 ≤ 2147483647) (h3 : -2147483648 ≤ (a1 * 4) + a2 ∧ (a1 * 4) + a2 ≤ 2147483647) (h4 : am_kd K r0_0 = some (11, n1, q1)) (h5 : 0 ≤ (a1 * 4) + a2) (h6 : (a1 * 4) + a2 < (n1 : Int)) (h7 : -2147483648 ≤ a1 * 4 ∧ a1 * 4 ≤ 2147483647) (h8 : -2147483648 ≤ (a1 * 4) + a2 ∧ (a1 * 4) + a2 ≤ 2147483647) (h9 : am_kd K r0_1 = some (11, n2, q2)) (h10 : 0 ≤ (a1 * 4) + a2) (h11 : (a1 * 4) + a2 < (n2 : Int)) (k : Q none (am_up (am_up M r0_0 ((a1 * 4) + a2) a3) r0_1 ((a1 * 4) + a2) a4)) : am_AtN m4_lead 18 [some (vr a0), some (vi a1), some (vi a2), some (vi a3), some (vi a4)] [] K M Q := by
  refine s_aload_n (show decode (am_cc m4_lead) 18 = .ok (.aload_n 0, 1) by decide +kernel) rfl ?_
  refine s_getf (k := 0) (v := vr r0_0) (show decode (am_cc m4_lead) 19 = .ok (.getfield 9, 3) by decide +kernel) h1 (by decide) rfl jnX4 (by decide) lf_RX4_9 rfl ?_
  refine s_iload_n (show decode (am_cc m4_lead) 22 = .ok (.iload_n 1, 1) by decide +kernel) rfl ?_
  refine s_iconst (show decode (am_cc m4_lead) 23 = .ok (.iconst 4, 1) by decide +kernel) ⟨by decide, by decide⟩ ?_
  refine s_imul (show decode (am_cc m4_lead) 24 = .ok (.imul, 1) by decide +kernel) h2 ?_
  refine s_iload_n (show decode (am_cc m4_lead) 25 = .ok (.iload_n 2, 1) by decide +kernel) rfl ?_
  refine s_iadd (show decode (am_cc m4_lead) 26 = .ok (.iadd, 1) by decide +kernel) h3 ?_
  refine s_iload_n (show decode (am_cc m4_lead) 27 = .ok (.iload_n 3, 1) by decide +kernel) rfl ?_
  refine s_iastore (show decode (am_cc m4_lead) 28 = .ok (.iastore, 1) by decide +kernel) h4 h5 h6 ?_
  refine s_aload_n (show decode (am_cc m4_lead) 29 = .ok (.aload_n 0, 1) by decide +kernel) rfl ?_
  refine s_getf (k := 1) (v := vr r0_1) (show decode (am_cc m4_lead) 30 = .ok (.getfield 15, 3) by decide +kernel) h1 (by decide) rfl jnX4 (by decide) lf_RX4_15 rfl ?_
  refine s_iload_n (show decode (am_cc m4_lead) 33 = .ok (.iload_n 1, 1) by decide +kernel) rfl ?_
  refine s_iconst (show decode (am_cc m4_lead) 34 = .ok (.iconst 4, 1) by decide +kernel) ⟨by decide, by decide⟩ ?_
  refine s_imul (show decode (am_cc m4_lead) 35 = .ok (.imul, 1) by decide +kernel) h7 ?_
  refine s_iload_n (show decode (am_cc m4_lead) 36 = .ok (.iload_n 2, 1) by decide +kernel) rfl ?_
  refine s_iadd (show decode (am_cc m4_lead) 37 = .ok (.iadd, 1) by decide +kernel) h8 ?_
  refine s_iload (show decode (am_cc m4_lead) 38 = .ok (.iload 4, 2) by decide +kernel) rfl ?_
  refine s_iastore (show decode (am_cc m4_lead) 40 = .ok (.iastore, 1) by decide +kernel) h9 h10 h11 ?_
  exact s_return (show decode (am_cc m4_lead) 41 = .ok (.return_, 1) by decide +kernel) rfl k
theorem g4_finish_0 {a0 a1 a2 : Int} {K : am_K} {M : am_M} {Q : Option am_V → am_M → Prop} (k : am_CallN m8_within [vi a1, vi 6] K M (fun r M' => am_AtN m4_finish 6 [some (vr a0), some (vi a1), some (vi a2)] (r.toList ++ []) K M' Q)) : am_AtN m4_finish 0 [some (vr a0), some (vi a1), some (vi a2)] [] K M Q := by
  refine s_iload_n (show decode (am_cc m4_finish) 0 = .ok (.iload_n 1, 1) by decide +kernel) rfl ?_
  refine s_bipush (show decode (am_cc m4_finish) 1 = .ok (.bipush 6, 2) by decide +kernel) ⟨by decide, by decide⟩ (by decide) ?_
  exact n_callN (as := [vi a1, vi 6]) (stk := []) (show decode (am_cc m4_finish) 3 = .ok (.invokestatic 28, 3) by decide +kernel) lk_RX4_28 (by decide) (Nat.le_of_ble_eq_true rfl) ⟨rfl, rfl⟩ k
theorem g4_finish_6 {a0 a1 a2 t0 : Int} {K : am_K} {M : am_M} {Q : Option am_V → am_M → Prop} (k1 : t0 = 0 → am_AtN m4_finish 16 [some (vr a0), some (vi a1), some (vi a2)] [] K M Q) (k2 : ¬ (t0 = 0) → am_AtN m4_finish 9 [some (vr a0), some (vi a1), some (vi a2)] [] K M Q) : am_AtN m4_finish 6 [some (vr a0), some (vi a1), some (vi a2)] [vi t0] K M Q := by
  exact s_if_eq (tgt := 16) (show decode (am_cc m4_finish) 6 = .ok (.ifCond .eq 10, 3) by decide +kernel) (by decide) k1 k2
theorem g4_finish_9 {a0 a1 a2 : Int} {K : am_K} {M : am_M} {Q : Option am_V → am_M → Prop} {r0_0 : Int} {r0_1 : Int} {r0_2 : Int} {n1 : Nat} {q1 : List Int} (h1 : am_kd K a0 = some (4, 3, [r0_0, r0_1, r0_2])) (h2 : am_kd K r0_2 = some (11, n1, q1)) (h3 : 0 ≤ a1) (h4 : a1 < (n1 : Int)) (k : am_AtN m4_finish 16 [some (vr a0), some (vi a1), some (vi a2)] [] K (am_up M r0_2 a1 a2) Q) : am_AtN m4_finish 9 [some (vr a0), some (vi a1), some (vi a2)] [] K M Q := by
  refine s_aload_n (show decode (am_cc m4_finish) 9 = .ok (.aload_n 0, 1) by decide +kernel) rfl ?_
  refine s_getf (k := 2) (v := vr r0_2) (show decode (am_cc m4_finish) 10 = .ok (.getfield 18, 3) by decide +kernel) h1 (by decide) rfl jnX4 (by decide) lf_RX4_18 rfl ?_
  refine s_iload_n (show decode (am_cc m4_finish) 13 = .ok (.iload_n 1, 1) by decide +kernel) rfl ?_
  refine s_iload_n (show decode (am_cc m4_finish) 14 = .ok (.iload_n 2, 1) by decide +kernel) rfl ?_
  refine s_iastore (show decode (am_cc m4_finish) 15 = .ok (.iastore, 1) by decide +kernel) h2 h3 h4 ?_
  exact k
theorem g4_finish_16 {a0 a1 a2 : Int} {K : am_K} {M : am_M} {Q : Option am_V → am_M → Prop} (k : Q none M) : am_AtN m4_finish 16 [some (vr a0), some (vi a1), some (vi a2)] [] K M Q := by
  exact s_return (show decode (am_cc m4_finish) 16 = .ok (.return_, 1) by decide +kernel) rfl k
theorem g4_rewrite_0 {a0 a1 a2 : Int} {K : am_K} {M : am_M} {Q : Option am_V → am_M → Prop} {r0 : List Int} (h1 : am_kd K a2 = some (5, 2, r0)) (k : am_CallN m5_empty [vr a2] K M (fun r M' => am_AtN m4_rewrite 4 [some (vr a0), some (vr a1), some (vr a2), none, none, none] (r.toList ++ []) K M' Q)) : am_AtN m4_rewrite 0 [some (vr a0), some (vr a1), some (vr a2), none, none, none] [] K M Q := by
  refine s_aload_n (show decode (am_cc m4_rewrite) 0 = .ok (.aload_n 2, 1) by decide +kernel) rfl ?_
  exact n_callV (as := []) (stk := []) (show decode (am_cc m4_rewrite) 1 = .ok (.invokevirtual 32, 3) by decide +kernel) lk_RX4_32 h1 (by decide) rfl rfl (by decide) (Nat.le_of_ble_eq_true rfl) ⟨rfl, rfl⟩ k
theorem g4_rewrite_4 {a0 a1 a2 : Int} {K : am_K} {M : am_M} {Q : Option am_V → am_M → Prop} (k : am_AtN m4_rewrite 9 [some (vr a0), some (vr a1), some (vr a2), some (vi 0), some (vi 0), none] [] K M Q) : am_AtN m4_rewrite 4 [some (vr a0), some (vr a1), some (vr a2), none, none, none] [] K M Q := by
  refine s_iconst (show decode (am_cc m4_rewrite) 4 = .ok (.iconst 0, 1) by decide +kernel) ⟨by decide, by decide⟩ ?_
  refine s_istore_n (show decode (am_cc m4_rewrite) 5 = .ok (.istore_n 3, 1) by decide +kernel) (by decide) ?_
  refine s_iconst (show decode (am_cc m4_rewrite) 6 = .ok (.iconst 0, 1) by decide +kernel) ⟨by decide, by decide⟩ ?_
  refine s_istore (show decode (am_cc m4_rewrite) 7 = .ok (.istore 4, 2) by decide +kernel) (by decide) ?_
  exact k
theorem g4_rewrite_9 {a0 a1 a2 a3 a4 : Int} {K : am_K} {M : am_M} {Q : Option am_V → am_M → Prop} {r0 : List Int} (h1 : am_kd K a1 = some (5, 2, r0)) (k : am_CallN m5_size [vr a1] K M (fun r M' => am_AtN m4_rewrite 15 [some (vr a0), some (vr a1), some (vr a2), some (vi a3), some (vi a4), none] (r.toList ++ [vi a4]) K M' Q)) : am_AtN m4_rewrite 9 [some (vr a0), some (vr a1), some (vr a2), some (vi a3), some (vi a4), none] [] K M Q := by
  refine s_iload (show decode (am_cc m4_rewrite) 9 = .ok (.iload 4, 2) by decide +kernel) rfl ?_
  refine s_aload_n (show decode (am_cc m4_rewrite) 11 = .ok (.aload_n 1, 1) by decide +kernel) rfl ?_
  exact n_callV (as := []) (stk := [vi a4]) (show decode (am_cc m4_rewrite) 12 = .ok (.invokevirtual 37, 3) by decide +kernel) lk_RX4_37 h1 (by decide) rfl rfl (by decide) (Nat.le_of_ble_eq_true rfl) ⟨rfl, rfl⟩ k
theorem g4_rewrite_15 {a0 a1 a2 a3 a4 t0 t1 : Int} {K : am_K} {M : am_M} {Q : Option am_V → am_M → Prop} (k1 : t1 ≤ t0 → am_AtN m4_rewrite 51 [some (vr a0), some (vr a1), some (vr a2), some (vi a3), some (vi a4), none] [] K M Q) (k2 : ¬ (t1 ≤ t0) → am_AtN m4_rewrite 18 [some (vr a0), some (vr a1), some (vr a2), some (vi a3), some (vi a4), none] [] K M Q) : am_AtN m4_rewrite 15 [some (vr a0), some (vr a1), some (vr a2), some (vi a3), some (vi a4), none] [vi t1, vi t0] K M Q := by
  exact s_icmp_ge (tgt := 51) (show decode (am_cc m4_rewrite) 15 = .ok (.if_icmp .ge 36, 3) by decide +kernel) (by decide) k1 k2
theorem g4_rewrite_18 {a0 a1 a2 a3 a4 : Int} {K : am_K} {M : am_M} {Q : Option am_V → am_M → Prop} {r0 : List Int} (h1 : am_kd K a1 = some (5, 2, r0)) (k : am_CallN m5_letterAt [vr a1, vi a4] K M (fun r M' => am_AtN m4_rewrite 24 [some (vr a0), some (vr a1), some (vr a2), some (vi a3), some (vi a4), none] (r.toList ++ []) K M' Q)) : am_AtN m4_rewrite 18 [some (vr a0), some (vr a1), some (vr a2), some (vi a3), some (vi a4), none] [] K M Q := by
  refine s_aload_n (show decode (am_cc m4_rewrite) 18 = .ok (.aload_n 1, 1) by decide +kernel) rfl ?_
  refine s_iload (show decode (am_cc m4_rewrite) 19 = .ok (.iload 4, 2) by decide +kernel) rfl ?_
  exact n_callV (as := [vi a4]) (stk := []) (show decode (am_cc m4_rewrite) 21 = .ok (.invokevirtual 41, 3) by decide +kernel) lk_RX4_41 h1 (by decide) rfl rfl (by decide) (Nat.le_of_ble_eq_true rfl) ⟨rfl, rfl⟩ k
theorem g4_rewrite_24 {a0 a1 a2 a3 a4 t0 : Int} {K : am_K} {M : am_M} {Q : Option am_V → am_M → Prop} {r0 : List Int} (h1 : am_kd K a0 = some (4, 3, r0)) (k : am_CallN m4_wordOf [vr a0, vi a3, vi t0] K M (fun r M' => am_AtN m4_rewrite 34 [some (vr a0), some (vr a1), some (vr a2), some (vi a3), some (vi a4), some (vi t0)] (r.toList ++ [vr a2]) K M' Q)) : am_AtN m4_rewrite 24 [some (vr a0), some (vr a1), some (vr a2), some (vi a3), some (vi a4), none] [vi t0] K M Q := by
  refine s_istore (show decode (am_cc m4_rewrite) 24 = .ok (.istore 5, 2) by decide +kernel) (by decide) ?_
  refine s_aload_n (show decode (am_cc m4_rewrite) 26 = .ok (.aload_n 2, 1) by decide +kernel) rfl ?_
  refine s_aload_n (show decode (am_cc m4_rewrite) 27 = .ok (.aload_n 0, 1) by decide +kernel) rfl ?_
  refine s_iload_n (show decode (am_cc m4_rewrite) 28 = .ok (.iload_n 3, 1) by decide +kernel) rfl ?_
  refine s_iload (show decode (am_cc m4_rewrite) 29 = .ok (.iload 5, 2) by decide +kernel) rfl ?_
  exact n_callV (as := [vi a3, vi t0]) (stk := [vr a2]) (show decode (am_cc m4_rewrite) 31 = .ok (.invokevirtual 45, 3) by decide +kernel) lk_RX4_45 h1 (by decide) rfl rfl (by decide) (Nat.le_of_ble_eq_true rfl) ⟨rfl, rfl⟩ k
theorem g4_rewrite_34 {a0 a1 a2 a3 a4 a5 t0 t1 : Int} {K : am_K} {M : am_M} {Q : Option am_V → am_M → Prop} {r0 : List Int} (h1 : am_kd K t0 = some (5, 2, r0)) (k : am_CallN m5_addWord [vr t0, vi t1] K M (fun r M' => am_AtN m4_rewrite 37 [some (vr a0), some (vr a1), some (vr a2), some (vi a3), some (vi a4), some (vi a5)] (r.toList ++ []) K M' Q)) : am_AtN m4_rewrite 34 [some (vr a0), some (vr a1), some (vr a2), some (vi a3), some (vi a4), some (vi a5)] [vi t1, vr t0] K M Q := by
  exact n_callV (as := [vi t1]) (stk := []) (show decode (am_cc m4_rewrite) 34 = .ok (.invokevirtual 49, 3) by decide +kernel) lk_RX4_49 h1 (by decide) rfl rfl (by decide) (Nat.le_of_ble_eq_true rfl) ⟨rfl, rfl⟩ k
theorem g4_rewrite_37 {a0 a1 a2 a3 a4 a5 : Int} {K : am_K} {M : am_M} {Q : Option am_V → am_M → Prop} {r0 : List Int} (h1 : am_kd K a0 = some (4, 3, r0)) (k : am_CallN m4_nextOf [vr a0, vi a3, vi a5] K M (fun r M' => am_AtN m4_rewrite 44 [some (vr a0), some (vr a1), some (vr a2), some (vi a3), some (vi a4), some (vi a5)] (r.toList ++ []) K M' Q)) : am_AtN m4_rewrite 37 [some (vr a0), some (vr a1), some (vr a2), some (vi a3), some (vi a4), some (vi a5)] [] K M Q := by
  refine s_aload_n (show decode (am_cc m4_rewrite) 37 = .ok (.aload_n 0, 1) by decide +kernel) rfl ?_
  refine s_iload_n (show decode (am_cc m4_rewrite) 38 = .ok (.iload_n 3, 1) by decide +kernel) rfl ?_
  refine s_iload (show decode (am_cc m4_rewrite) 39 = .ok (.iload 5, 2) by decide +kernel) rfl ?_
  exact n_callV (as := [vi a3, vi a5]) (stk := []) (show decode (am_cc m4_rewrite) 41 = .ok (.invokevirtual 53, 3) by decide +kernel) lk_RX4_53 h1 (by decide) rfl rfl (by decide) (Nat.le_of_ble_eq_true rfl) ⟨rfl, rfl⟩ k
theorem g4_rewrite_44 {a0 a1 a2 a3 a4 a5 t0 : Int} {K : am_K} {M : am_M} {Q : Option am_V → am_M → Prop} (h1 : -2147483648 ≤ a4 + 1 ∧ a4 + 1 ≤ 2147483647) (k : am_AtN m4_rewrite 9 [some (vr a0), some (vr a1), some (vr a2), some (vi t0), some (vi (a4 + 1)), none] [] K M Q) : am_AtN m4_rewrite 44 [some (vr a0), some (vr a1), some (vr a2), some (vi a3), some (vi a4), some (vi a5)] [vi t0] K M Q := by
  refine s_istore_n (show decode (am_cc m4_rewrite) 44 = .ok (.istore_n 3, 1) by decide +kernel) (by decide) ?_
  refine s_iinc (show decode (am_cc m4_rewrite) 45 = .ok (.iinc 4 1, 3) by decide +kernel) rfl (by decide) h1 ?_
  refine s_goto (tgt := 9) (show decode (am_cc m4_rewrite) 48 = .ok (.goto (-39), 3) by decide +kernel) (by decide) ?_
  refine am_fg 5 ?_
  exact k
theorem g4_rewrite_51 {a0 a1 a2 a3 a4 : Int} {K : am_K} {M : am_M} {Q : Option am_V → am_M → Prop} {r0 : List Int} (h1 : am_kd K a0 = some (4, 3, r0)) (k : am_CallN m4_endOf [vr a0, vi a3] K M (fun r M' => am_AtN m4_rewrite 56 [some (vr a0), some (vr a1), some (vr a2), some (vi a3), some (vi a4), none] (r.toList ++ []) K M' Q)) : am_AtN m4_rewrite 51 [some (vr a0), some (vr a1), some (vr a2), some (vi a3), some (vi a4), none] [] K M Q := by
  refine s_aload_n (show decode (am_cc m4_rewrite) 51 = .ok (.aload_n 0, 1) by decide +kernel) rfl ?_
  refine s_iload_n (show decode (am_cc m4_rewrite) 52 = .ok (.iload_n 3, 1) by decide +kernel) rfl ?_
  exact n_callV (as := [vi a3]) (stk := []) (show decode (am_cc m4_rewrite) 53 = .ok (.invokevirtual 56, 3) by decide +kernel) lk_RX4_56 h1 (by decide) rfl rfl (by decide) (Nat.le_of_ble_eq_true rfl) ⟨rfl, rfl⟩ k
theorem g4_rewrite_56 {a0 a1 a2 a3 a4 t0 : Int} {K : am_K} {M : am_M} {Q : Option am_V → am_M → Prop} (k1 : ¬ t0 = -1 → am_AtN m4_rewrite 62 [some (vr a0), some (vr a1), some (vr a2), some (vi a3), some (vi a4), none] [] K M Q) (k2 : t0 = -1 → am_AtN m4_rewrite 60 [some (vr a0), some (vr a1), some (vr a2), some (vi a3), some (vi a4), none] [] K M Q) : am_AtN m4_rewrite 56 [some (vr a0), some (vr a1), some (vr a2), some (vi a3), some (vi a4), none] [vi t0] K M Q := by
  refine s_iconst (show decode (am_cc m4_rewrite) 56 = .ok (.iconst (-1), 1) by decide +kernel) ⟨by decide, by decide⟩ ?_
  exact s_icmp_ne (tgt := 62) (show decode (am_cc m4_rewrite) 57 = .ok (.if_icmp .ne 5, 3) by decide +kernel) (by decide) k1 k2
theorem g4_rewrite_60 {a0 a1 a2 a3 a4 : Int} {K : am_K} {M : am_M} {Q : Option am_V → am_M → Prop} (k : Q (some (vi 0)) M) : am_AtN m4_rewrite 60 [some (vr a0), some (vr a1), some (vr a2), some (vi a3), some (vi a4), none] [] K M Q := by
  refine s_iconst (show decode (am_cc m4_rewrite) 60 = .ok (.iconst 0, 1) by decide +kernel) ⟨by decide, by decide⟩ ?_
  exact s_zreturn (show decode (am_cc m4_rewrite) 61 = .ok (.ireturn, 1) by decide +kernel) rfl (by decide) k
theorem g4_rewrite_62 {a0 a1 a2 a3 a4 : Int} {K : am_K} {M : am_M} {Q : Option am_V → am_M → Prop} {r0 : List Int} (h1 : am_kd K a0 = some (4, 3, r0)) (k : am_CallN m4_endOf [vr a0, vi a3] K M (fun r M' => am_AtN m4_rewrite 68 [some (vr a0), some (vr a1), some (vr a2), some (vi a3), some (vi a4), none] (r.toList ++ [vr a2]) K M' Q)) : am_AtN m4_rewrite 62 [some (vr a0), some (vr a1), some (vr a2), some (vi a3), some (vi a4), none] [] K M Q := by
  refine s_aload_n (show decode (am_cc m4_rewrite) 62 = .ok (.aload_n 2, 1) by decide +kernel) rfl ?_
  refine s_aload_n (show decode (am_cc m4_rewrite) 63 = .ok (.aload_n 0, 1) by decide +kernel) rfl ?_
  refine s_iload_n (show decode (am_cc m4_rewrite) 64 = .ok (.iload_n 3, 1) by decide +kernel) rfl ?_
  exact n_callV (as := [vi a3]) (stk := [vr a2]) (show decode (am_cc m4_rewrite) 65 = .ok (.invokevirtual 56, 3) by decide +kernel) lk_RX4_56 h1 (by decide) rfl rfl (by decide) (Nat.le_of_ble_eq_true rfl) ⟨rfl, rfl⟩ k
theorem g4_rewrite_68 {a0 a1 a2 a3 a4 t0 t1 : Int} {K : am_K} {M : am_M} {Q : Option am_V → am_M → Prop} {r0 : List Int} (h1 : am_kd K t0 = some (5, 2, r0)) (k : am_CallN m5_addWord [vr t0, vi t1] K M (fun r M' => am_AtN m4_rewrite 71 [some (vr a0), some (vr a1), some (vr a2), some (vi a3), some (vi a4), none] (r.toList ++ []) K M' Q)) : am_AtN m4_rewrite 68 [some (vr a0), some (vr a1), some (vr a2), some (vi a3), some (vi a4), none] [vi t1, vr t0] K M Q := by
  exact n_callV (as := [vi t1]) (stk := []) (show decode (am_cc m4_rewrite) 68 = .ok (.invokevirtual 49, 3) by decide +kernel) lk_RX4_49 h1 (by decide) rfl rfl (by decide) (Nat.le_of_ble_eq_true rfl) ⟨rfl, rfl⟩ k
theorem g4_rewrite_71 {a0 a1 a2 a3 a4 : Int} {K : am_K} {M : am_M} {Q : Option am_V → am_M → Prop} (k : Q (some (vi 1)) M) : am_AtN m4_rewrite 71 [some (vr a0), some (vr a1), some (vr a2), some (vi a3), some (vi a4), none] [] K M Q := by
  refine s_iconst (show decode (am_cc m4_rewrite) 71 = .ok (.iconst 1, 1) by decide +kernel) ⟨by decide, by decide⟩ ?_
  exact s_zreturn (show decode (am_cc m4_rewrite) 72 = .ok (.ireturn, 1) by decide +kernel) rfl (by decide) k
theorem g5_size_0 {a0 : Int} {K : am_K} {M : am_M} {Q : Option am_V → am_M → Prop} {r0_0 : Int} {r0_1 : Int} (h1 : am_kd K a0 = some (5, 2, [r0_0, r0_1])) (k : Q (some (vi (M a0 1))) M) : am_AtN m5_size 0 [some (vr a0)] [] K M Q := by
  refine s_aload_n (show decode (am_cc m5_size) 0 = .ok (.aload_n 0, 1) by decide +kernel) rfl ?_
  refine s_getf (k := 1) (v := vi (M a0 1)) (show decode (am_cc m5_size) 1 = .ok (.getfield 21, 3) by decide +kernel) h1 (by decide) rfl jnX5 (by decide) lf_RX5_21 rfl ?_
  exact s_ireturn (show decode (am_cc m5_size) 4 = .ok (.ireturn, 1) by decide +kernel) rfl k
theorem g5_empty_0 {a0 : Int} {K : am_K} {M : am_M} {Q : Option am_V → am_M → Prop} {r0_0 : Int} {r0_1 : Int} (h1 : am_kd K a0 = some (5, 2, [r0_0, r0_1])) (k : Q none (am_up M a0 1 0)) : am_AtN m5_empty 0 [some (vr a0)] [] K M Q := by
  refine s_aload_n (show decode (am_cc m5_empty) 0 = .ok (.aload_n 0, 1) by decide +kernel) rfl ?_
  refine s_iconst (show decode (am_cc m5_empty) 1 = .ok (.iconst 0, 1) by decide +kernel) ⟨by decide, by decide⟩ ?_
  refine s_putf (k := 1) (x := 0) (ty0 := tyX5) (show decode (am_cc m5_empty) 2 = .ok (.putfield 21, 3) by decide +kernel) h1 (by decide) rfl jnX5 tyX5_ok nmX5 (by decide) lf_RX5_21 rfl (Or.inl ⟨rfl, rfl, rfl⟩) ?_
  exact s_return (show decode (am_cc m5_empty) 5 = .ok (.return_, 1) by decide +kernel) rfl k
theorem g5_letterAt_0 {a0 a1 : Int} {K : am_K} {M : am_M} {Q : Option am_V → am_M → Prop} {r0_0 : Int} {r0_1 : Int} (h1 : am_kd K a0 = some (5, 2, [r0_0, r0_1])) (k : am_CallN m8_within [vi a1, vi (M a0 1)] K M (fun r M' => am_AtN m5_letterAt 8 [some (vr a0), some (vi a1)] (r.toList ++ []) K M' Q)) : am_AtN m5_letterAt 0 [some (vr a0), some (vi a1)] [] K M Q := by
  refine s_iload_n (show decode (am_cc m5_letterAt) 0 = .ok (.iload_n 1, 1) by decide +kernel) rfl ?_
  refine s_aload_n (show decode (am_cc m5_letterAt) 1 = .ok (.aload_n 0, 1) by decide +kernel) rfl ?_
  refine s_getf (k := 1) (v := vi (M a0 1)) (show decode (am_cc m5_letterAt) 2 = .ok (.getfield 21, 3) by decide +kernel) h1 (by decide) rfl jnX5 (by decide) lf_RX5_21 rfl ?_
  exact n_callN (as := [vi a1, vi (M a0 1)]) (stk := []) (show decode (am_cc m5_letterAt) 5 = .ok (.invokestatic 25, 3) by decide +kernel) lk_RX5_25 (by decide) (Nat.le_of_ble_eq_true rfl) ⟨rfl, rfl⟩ k
theorem g5_letterAt_8 {a0 a1 t0 : Int} {K : am_K} {M : am_M} {Q : Option am_V → am_M → Prop} (k1 : t0 = 0 → am_AtN m5_letterAt 29 [some (vr a0), some (vi a1)] [] K M Q) (k2 : ¬ (t0 = 0) → am_AtN m5_letterAt 11 [some (vr a0), some (vi a1)] [] K M Q) : am_AtN m5_letterAt 8 [some (vr a0), some (vi a1)] [vi t0] K M Q := by
  exact s_if_eq (tgt := 29) (show decode (am_cc m5_letterAt) 8 = .ok (.ifCond .eq 21, 3) by decide +kernel) (by decide) k1 k2
theorem g5_letterAt_11 {a0 a1 : Int} {K : am_K} {M : am_M} {Q : Option am_V → am_M → Prop} {r0_0 : Int} {r0_1 : Int} {n1 : Nat} {q1 : List Int} (h1 : am_kd K a0 = some (5, 2, [r0_0, r0_1])) (h2 : am_kd K r0_0 = some (11, n1, q1)) (h3 : -2147483648 ≤ (n1 : Int) ∧ (n1 : Int) ≤ 2147483647) (k1 : (n1 : Int) ≤ a1 → am_AtN m5_letterAt 29 [some (vr a0), some (vi a1)] [] K M Q) (k2 : ¬ ((n1 : Int) ≤ a1) → am_AtN m5_letterAt 20 [some (vr a0), some (vi a1)] [] K M Q) : am_AtN m5_letterAt 11 [some (vr a0), some (vi a1)] [] K M Q := by
  refine s_iload_n (show decode (am_cc m5_letterAt) 11 = .ok (.iload_n 1, 1) by decide +kernel) rfl ?_
  refine s_aload_n (show decode (am_cc m5_letterAt) 12 = .ok (.aload_n 0, 1) by decide +kernel) rfl ?_
  refine s_getf (k := 0) (v := vr r0_0) (show decode (am_cc m5_letterAt) 13 = .ok (.getfield 15, 3) by decide +kernel) h1 (by decide) rfl jnX5 (by decide) lf_RX5_15 rfl ?_
  refine s_alen (show decode (am_cc m5_letterAt) 16 = .ok (.arraylength, 1) by decide +kernel) h2 rfl h3 ?_
  exact s_icmp_ge (tgt := 29) (show decode (am_cc m5_letterAt) 17 = .ok (.if_icmp .ge 12, 3) by decide +kernel) (by decide) k1 k2
theorem g5_letterAt_20 {a0 a1 : Int} {K : am_K} {M : am_M} {Q : Option am_V → am_M → Prop} {r0_0 : Int} {r0_1 : Int} {n1 : Nat} {q1 : List Int} (h1 : am_kd K a0 = some (5, 2, [r0_0, r0_1])) (h2 : am_kd K r0_0 = some (11, n1, q1)) (h3 : 0 ≤ a1) (h4 : a1 < (n1 : Int)) (k : am_AtN m5_letterAt 31 [some (vr a0), some (vi a1)] [vi (M r0_0 a1)] K M Q) : am_AtN m5_letterAt 20 [some (vr a0), some (vi a1)] [] K M Q := by
  refine s_aload_n (show decode (am_cc m5_letterAt) 20 = .ok (.aload_n 0, 1) by decide +kernel) rfl ?_
  refine s_getf (k := 0) (v := vr r0_0) (show decode (am_cc m5_letterAt) 21 = .ok (.getfield 15, 3) by decide +kernel) h1 (by decide) rfl jnX5 (by decide) lf_RX5_15 rfl ?_
  refine s_iload_n (show decode (am_cc m5_letterAt) 24 = .ok (.iload_n 1, 1) by decide +kernel) rfl ?_
  refine s_iaload (show decode (am_cc m5_letterAt) 25 = .ok (.iaload, 1) by decide +kernel) h2 h3 h4 ?_
  refine s_goto (tgt := 31) (show decode (am_cc m5_letterAt) 26 = .ok (.goto 5, 3) by decide +kernel) (by decide) ?_
  exact k
theorem g5_letterAt_29 {a0 a1 : Int} {K : am_K} {M : am_M} {Q : Option am_V → am_M → Prop} (k : am_AtN m5_letterAt 31 [some (vr a0), some (vi a1)] [vi (-9)] K M Q) : am_AtN m5_letterAt 29 [some (vr a0), some (vi a1)] [] K M Q := by
  refine s_bipush (show decode (am_cc m5_letterAt) 29 = .ok (.bipush (-9), 2) by decide +kernel) ⟨by decide, by decide⟩ (by decide) ?_
  exact k
theorem g5_letterAt_31 {a0 a1 t0 : Int} {K : am_K} {M : am_M} {Q : Option am_V → am_M → Prop} (k : Q (some (vi t0)) M) : am_AtN m5_letterAt 31 [some (vr a0), some (vi a1)] [vi t0] K M Q := by
  exact s_ireturn (show decode (am_cc m5_letterAt) 31 = .ok (.ireturn, 1) by decide +kernel) rfl k
theorem g5_add_0 {a0 a1 : Int} {K : am_K} {M : am_M} {Q : Option am_V → am_M → Prop} {r0_0 : Int} {r0_1 : Int} {n1 : Nat} {q1 : List Int} (h1 : am_kd K a0 = some (5, 2, [r0_0, r0_1])) (h2 : am_kd K r0_0 = some (11, n1, q1)) (h3 : -2147483648 ≤ (n1 : Int) ∧ (n1 : Int) ≤ 2147483647) (k : am_CallN m8_within [vi (M a0 1), vi (n1 : Int)] K M (fun r M' => am_AtN m5_add 12 [some (vr a0), some (vi a1)] (r.toList ++ []) K M' Q)) : am_AtN m5_add 0 [some (vr a0), some (vi a1)] [] K M Q := by
  refine s_aload_n (show decode (am_cc m5_add) 0 = .ok (.aload_n 0, 1) by decide +kernel) rfl ?_
  refine s_getf (k := 1) (v := vi (M a0 1)) (show decode (am_cc m5_add) 1 = .ok (.getfield 21, 3) by decide +kernel) h1 (by decide) rfl jnX5 (by decide) lf_RX5_21 rfl ?_
  refine s_aload_n (show decode (am_cc m5_add) 4 = .ok (.aload_n 0, 1) by decide +kernel) rfl ?_
  refine s_getf (k := 0) (v := vr r0_0) (show decode (am_cc m5_add) 5 = .ok (.getfield 15, 3) by decide +kernel) h1 (by decide) rfl jnX5 (by decide) lf_RX5_15 rfl ?_
  refine s_alen (show decode (am_cc m5_add) 8 = .ok (.arraylength, 1) by decide +kernel) h2 rfl h3 ?_
  exact n_callN (as := [vi (M a0 1), vi (n1 : Int)]) (stk := []) (show decode (am_cc m5_add) 9 = .ok (.invokestatic 25, 3) by decide +kernel) lk_RX5_25 (by decide) (Nat.le_of_ble_eq_true rfl) ⟨rfl, rfl⟩ k
theorem g5_add_12 {a0 a1 t0 : Int} {K : am_K} {M : am_M} {Q : Option am_V → am_M → Prop} (k1 : ¬ t0 = 0 → am_AtN m5_add 16 [some (vr a0), some (vi a1)] [] K M Q) (k2 : t0 = 0 → am_AtN m5_add 15 [some (vr a0), some (vi a1)] [] K M Q) : am_AtN m5_add 12 [some (vr a0), some (vi a1)] [vi t0] K M Q := by
  exact s_if_ne (tgt := 16) (show decode (am_cc m5_add) 12 = .ok (.ifCond .ne 4, 3) by decide +kernel) (by decide) k1 k2
theorem g5_add_15 {a0 a1 : Int} {K : am_K} {M : am_M} {Q : Option am_V → am_M → Prop} (k : Q none M) : am_AtN m5_add 15 [some (vr a0), some (vi a1)] [] K M Q := by
  exact s_return (show decode (am_cc m5_add) 15 = .ok (.return_, 1) by decide +kernel) rfl k
theorem g5_add_16 {a0 a1 : Int} {K : am_K} {M : am_M} {Q : Option am_V → am_M → Prop} {r0_0 : Int} {r0_1 : Int} {n1 : Nat} {q1 : List Int} (h1 : am_kd K a0 = some (5, 2, [r0_0, r0_1])) (h2 : am_kd K r0_0 = some (11, n1, q1)) (h3 : 0 ≤ M a0 1) (h4 : M a0 1 < (n1 : Int)) (h5 : -2147483648 ≤ ((am_up M r0_0 (M a0 1) a1) a0 1) + 1 ∧ ((am_up M r0_0 (M a0 1) a1) a0 1) + 1 ≤ 2147483647) (k : Q none (am_up (am_up M r0_0 (M a0 1) a1) a0 1 (((am_up M r0_0 (M a0 1) a1) a0 1) + 1))) : am_AtN m5_add 16 [some (vr a0), some (vi a1)] [] K M Q := by
  refine s_aload_n (show decode (am_cc m5_add) 16 = .ok (.aload_n 0, 1) by decide +kernel) rfl ?_
  refine s_getf (k := 0) (v := vr r0_0) (show decode (am_cc m5_add) 17 = .ok (.getfield 15, 3) by decide +kernel) h1 (by decide) rfl jnX5 (by decide) lf_RX5_15 rfl ?_
  refine s_aload_n (show decode (am_cc m5_add) 20 = .ok (.aload_n 0, 1) by decide +kernel) rfl ?_
  refine s_getf (k := 1) (v := vi (M a0 1)) (show decode (am_cc m5_add) 21 = .ok (.getfield 21, 3) by decide +kernel) h1 (by decide) rfl jnX5 (by decide) lf_RX5_21 rfl ?_
  refine s_iload_n (show decode (am_cc m5_add) 24 = .ok (.iload_n 1, 1) by decide +kernel) rfl ?_
  refine s_iastore (show decode (am_cc m5_add) 25 = .ok (.iastore, 1) by decide +kernel) h2 h3 h4 ?_
  refine s_aload_n (show decode (am_cc m5_add) 26 = .ok (.aload_n 0, 1) by decide +kernel) rfl ?_
  refine s_dupr (show decode (am_cc m5_add) 27 = .ok (.dup, 1) by decide +kernel) ?_
  refine s_getf (k := 1) (v := vi ((am_up M r0_0 (M a0 1) a1) a0 1)) (show decode (am_cc m5_add) 28 = .ok (.getfield 21, 3) by decide +kernel) h1 (by decide) rfl jnX5 (by decide) lf_RX5_21 rfl ?_
  refine s_iconst (show decode (am_cc m5_add) 31 = .ok (.iconst 1, 1) by decide +kernel) ⟨by decide, by decide⟩ ?_
  refine s_iadd (show decode (am_cc m5_add) 32 = .ok (.iadd, 1) by decide +kernel) h5 ?_
  refine s_putf (k := 1) (x := ((am_up M r0_0 (M a0 1) a1) a0 1) + 1) (ty0 := tyX5) (show decode (am_cc m5_add) 33 = .ok (.putfield 21, 3) by decide +kernel) h1 (by decide) rfl jnX5 tyX5_ok nmX5 (by decide) lf_RX5_21 rfl (Or.inl ⟨rfl, rfl, rfl⟩) ?_
  exact s_return (show decode (am_cc m5_add) 36 = .ok (.return_, 1) by decide +kernel) rfl k
theorem g5_addWord_0 {a0 a1 : Int} {K : am_K} {M : am_M} {Q : Option am_V → am_M → Prop} (k : am_AtN m5_addWord 2 [some (vr a0), some (vi a1), some (vi 0)] [] K M Q) : am_AtN m5_addWord 0 [some (vr a0), some (vi a1), none] [] K M Q := by
  refine s_iconst (show decode (am_cc m5_addWord) 0 = .ok (.iconst 0, 1) by decide +kernel) ⟨by decide, by decide⟩ ?_
  refine s_istore_n (show decode (am_cc m5_addWord) 1 = .ok (.istore_n 2, 1) by decide +kernel) (by decide) ?_
  exact k
theorem g5_addWord_2 {a0 a1 a2 : Int} {K : am_K} {M : am_M} {Q : Option am_V → am_M → Prop} (k : am_CallN m8_wordLength [vi a1] K M (fun r M' => am_AtN m5_addWord 7 [some (vr a0), some (vi a1), some (vi a2)] (r.toList ++ [vi a2]) K M' Q)) : am_AtN m5_addWord 2 [some (vr a0), some (vi a1), some (vi a2)] [] K M Q := by
  refine s_iload_n (show decode (am_cc m5_addWord) 2 = .ok (.iload_n 2, 1) by decide +kernel) rfl ?_
  refine s_iload_n (show decode (am_cc m5_addWord) 3 = .ok (.iload_n 1, 1) by decide +kernel) rfl ?_
  exact n_callN (as := [vi a1]) (stk := [vi a2]) (show decode (am_cc m5_addWord) 4 = .ok (.invokestatic 29, 3) by decide +kernel) lk_RX5_29 (by decide) (Nat.le_of_ble_eq_true rfl) ⟨rfl, rfl⟩ k
theorem g5_addWord_7 {a0 a1 a2 t0 t1 : Int} {K : am_K} {M : am_M} {Q : Option am_V → am_M → Prop} (k1 : t1 ≤ t0 → am_AtN m5_addWord 25 [some (vr a0), some (vi a1), some (vi a2)] [] K M Q) (k2 : ¬ (t1 ≤ t0) → am_AtN m5_addWord 10 [some (vr a0), some (vi a1), some (vi a2)] [] K M Q) : am_AtN m5_addWord 7 [some (vr a0), some (vi a1), some (vi a2)] [vi t1, vi t0] K M Q := by
  exact s_icmp_ge (tgt := 25) (show decode (am_cc m5_addWord) 7 = .ok (.if_icmp .ge 18, 3) by decide +kernel) (by decide) k1 k2
theorem g5_addWord_10 {a0 a1 a2 : Int} {K : am_K} {M : am_M} {Q : Option am_V → am_M → Prop} (k : am_CallN m8_wordLetter [vi a1, vi a2] K M (fun r M' => am_AtN m5_addWord 16 [some (vr a0), some (vi a1), some (vi a2)] (r.toList ++ [vr a0]) K M' Q)) : am_AtN m5_addWord 10 [some (vr a0), some (vi a1), some (vi a2)] [] K M Q := by
  refine s_aload_n (show decode (am_cc m5_addWord) 10 = .ok (.aload_n 0, 1) by decide +kernel) rfl ?_
  refine s_iload_n (show decode (am_cc m5_addWord) 11 = .ok (.iload_n 1, 1) by decide +kernel) rfl ?_
  refine s_iload_n (show decode (am_cc m5_addWord) 12 = .ok (.iload_n 2, 1) by decide +kernel) rfl ?_
  exact n_callN (as := [vi a1, vi a2]) (stk := [vr a0]) (show decode (am_cc m5_addWord) 13 = .ok (.invokestatic 33, 3) by decide +kernel) lk_RX5_33 (by decide) (Nat.le_of_ble_eq_true rfl) ⟨rfl, rfl⟩ k
theorem g5_addWord_16 {a0 a1 a2 t0 t1 : Int} {K : am_K} {M : am_M} {Q : Option am_V → am_M → Prop} {r0 : List Int} (h1 : am_kd K t0 = some (5, 2, r0)) (k : am_CallN m5_add [vr t0, vi t1] K M (fun r M' => am_AtN m5_addWord 19 [some (vr a0), some (vi a1), some (vi a2)] (r.toList ++ []) K M' Q)) : am_AtN m5_addWord 16 [some (vr a0), some (vi a1), some (vi a2)] [vi t1, vr t0] K M Q := by
  exact n_callV (as := [vi t1]) (stk := []) (show decode (am_cc m5_addWord) 16 = .ok (.invokevirtual 36, 3) by decide +kernel) lk_RX5_36 h1 (by decide) rfl rfl (by decide) (Nat.le_of_ble_eq_true rfl) ⟨rfl, rfl⟩ k
theorem g5_addWord_19 {a0 a1 a2 : Int} {K : am_K} {M : am_M} {Q : Option am_V → am_M → Prop} (h1 : -2147483648 ≤ a2 + 1 ∧ a2 + 1 ≤ 2147483647) (k : am_AtN m5_addWord 2 [some (vr a0), some (vi a1), some (vi (a2 + 1))] [] K M Q) : am_AtN m5_addWord 19 [some (vr a0), some (vi a1), some (vi a2)] [] K M Q := by
  refine s_iinc (show decode (am_cc m5_addWord) 19 = .ok (.iinc 2 1, 3) by decide +kernel) rfl (by decide) h1 ?_
  refine s_goto (tgt := 2) (show decode (am_cc m5_addWord) 22 = .ok (.goto (-20), 3) by decide +kernel) (by decide) ?_
  exact k
theorem g5_addWord_25 {a0 a1 a2 : Int} {K : am_K} {M : am_M} {Q : Option am_V → am_M → Prop} (k : Q none M) : am_AtN m5_addWord 25 [some (vr a0), some (vi a1), some (vi a2)] [] K M Q := by
  exact s_return (show decode (am_cc m5_addWord) 25 = .ok (.return_, 1) by decide +kernel) rfl k
theorem g5_copy_0 {a0 a1 : Int} {K : am_K} {M : am_M} {Q : Option am_V → am_M → Prop} {r0 : List Int} (h1 : am_kd K a0 = some (5, 2, r0)) (k : am_CallN m5_empty [vr a0] K M (fun r M' => am_AtN m5_copy 4 [some (vr a0), some (vr a1), none] (r.toList ++ []) K M' Q)) : am_AtN m5_copy 0 [some (vr a0), some (vr a1), none] [] K M Q := by
  refine s_aload_n (show decode (am_cc m5_copy) 0 = .ok (.aload_n 0, 1) by decide +kernel) rfl ?_
  exact n_callV (as := []) (stk := []) (show decode (am_cc m5_copy) 1 = .ok (.invokevirtual 40, 3) by decide +kernel) lk_RX5_40 h1 (by decide) rfl rfl (by decide) (Nat.le_of_ble_eq_true rfl) ⟨rfl, rfl⟩ k
theorem g5_copy_4 {a0 a1 : Int} {K : am_K} {M : am_M} {Q : Option am_V → am_M → Prop} (k : am_AtN m5_copy 6 [some (vr a0), some (vr a1), some (vi 0)] [] K M Q) : am_AtN m5_copy 4 [some (vr a0), some (vr a1), none] [] K M Q := by
  refine s_iconst (show decode (am_cc m5_copy) 4 = .ok (.iconst 0, 1) by decide +kernel) ⟨by decide, by decide⟩ ?_
  refine s_istore_n (show decode (am_cc m5_copy) 5 = .ok (.istore_n 2, 1) by decide +kernel) (by decide) ?_
  exact k
theorem g5_copy_6 {a0 a1 a2 : Int} {K : am_K} {M : am_M} {Q : Option am_V → am_M → Prop} {r0_0 : Int} {r0_1 : Int} (h1 : am_kd K a1 = some (5, 2, [r0_0, r0_1])) (k1 : M a1 1 ≤ a2 → am_AtN m5_copy 29 [some (vr a0), some (vr a1), some (vi a2)] [] K M Q) (k2 : ¬ (M a1 1 ≤ a2) → am_AtN m5_copy 14 [some (vr a0), some (vr a1), some (vi a2)] [] K M Q) : am_AtN m5_copy 6 [some (vr a0), some (vr a1), some (vi a2)] [] K M Q := by
  refine s_iload_n (show decode (am_cc m5_copy) 6 = .ok (.iload_n 2, 1) by decide +kernel) rfl ?_
  refine s_aload_n (show decode (am_cc m5_copy) 7 = .ok (.aload_n 1, 1) by decide +kernel) rfl ?_
  refine s_getf (k := 1) (v := vi (M a1 1)) (show decode (am_cc m5_copy) 8 = .ok (.getfield 21, 3) by decide +kernel) h1 (by decide) rfl jnX5 (by decide) lf_RX5_21 rfl ?_
  exact s_icmp_ge (tgt := 29) (show decode (am_cc m5_copy) 11 = .ok (.if_icmp .ge 18, 3) by decide +kernel) (by decide) k1 k2
theorem g5_copy_14 {a0 a1 a2 : Int} {K : am_K} {M : am_M} {Q : Option am_V → am_M → Prop} {r0 : List Int} (h1 : am_kd K a1 = some (5, 2, r0)) (k : am_CallN m5_letterAt [vr a1, vi a2] K M (fun r M' => am_AtN m5_copy 20 [some (vr a0), some (vr a1), some (vi a2)] (r.toList ++ [vr a0]) K M' Q)) : am_AtN m5_copy 14 [some (vr a0), some (vr a1), some (vi a2)] [] K M Q := by
  refine s_aload_n (show decode (am_cc m5_copy) 14 = .ok (.aload_n 0, 1) by decide +kernel) rfl ?_
  refine s_aload_n (show decode (am_cc m5_copy) 15 = .ok (.aload_n 1, 1) by decide +kernel) rfl ?_
  refine s_iload_n (show decode (am_cc m5_copy) 16 = .ok (.iload_n 2, 1) by decide +kernel) rfl ?_
  exact n_callV (as := [vi a2]) (stk := [vr a0]) (show decode (am_cc m5_copy) 17 = .ok (.invokevirtual 43, 3) by decide +kernel) lk_RX5_43 h1 (by decide) rfl rfl (by decide) (Nat.le_of_ble_eq_true rfl) ⟨rfl, rfl⟩ k
theorem g5_copy_20 {a0 a1 a2 t0 t1 : Int} {K : am_K} {M : am_M} {Q : Option am_V → am_M → Prop} {r0 : List Int} (h1 : am_kd K t0 = some (5, 2, r0)) (k : am_CallN m5_add [vr t0, vi t1] K M (fun r M' => am_AtN m5_copy 23 [some (vr a0), some (vr a1), some (vi a2)] (r.toList ++ []) K M' Q)) : am_AtN m5_copy 20 [some (vr a0), some (vr a1), some (vi a2)] [vi t1, vr t0] K M Q := by
  exact n_callV (as := [vi t1]) (stk := []) (show decode (am_cc m5_copy) 20 = .ok (.invokevirtual 36, 3) by decide +kernel) lk_RX5_36 h1 (by decide) rfl rfl (by decide) (Nat.le_of_ble_eq_true rfl) ⟨rfl, rfl⟩ k
theorem g5_copy_23 {a0 a1 a2 : Int} {K : am_K} {M : am_M} {Q : Option am_V → am_M → Prop} (h1 : -2147483648 ≤ a2 + 1 ∧ a2 + 1 ≤ 2147483647) (k : am_AtN m5_copy 6 [some (vr a0), some (vr a1), some (vi (a2 + 1))] [] K M Q) : am_AtN m5_copy 23 [some (vr a0), some (vr a1), some (vi a2)] [] K M Q := by
  refine s_iinc (show decode (am_cc m5_copy) 23 = .ok (.iinc 2 1, 3) by decide +kernel) rfl (by decide) h1 ?_
  refine s_goto (tgt := 6) (show decode (am_cc m5_copy) 26 = .ok (.goto (-20), 3) by decide +kernel) (by decide) ?_
  exact k
theorem g5_copy_29 {a0 a1 a2 : Int} {K : am_K} {M : am_M} {Q : Option am_V → am_M → Prop} (k : Q none M) : am_AtN m5_copy 29 [some (vr a0), some (vr a1), some (vi a2)] [] K M Q := by
  exact s_return (show decode (am_cc m5_copy) 29 = .ok (.return_, 1) by decide +kernel) rfl k
theorem g5_isLike_0 {a0 a1 : Int} {K : am_K} {M : am_M} {Q : Option am_V → am_M → Prop} {r0_0 : Int} {r0_1 : Int} {r1_0 : Int} {r1_1 : Int} (h1 : am_kd K a0 = some (5, 2, [r0_0, r0_1])) (h2 : am_kd K a1 = some (5, 2, [r1_0, r1_1])) (k1 : ¬ M a0 1 = M a1 1 → am_AtN m5_isLike 23 [some (vr a0), some (vr a1)] [] K M Q) (k2 : M a0 1 = M a1 1 → am_AtN m5_isLike 11 [some (vr a0), some (vr a1)] [] K M Q) : am_AtN m5_isLike 0 [some (vr a0), some (vr a1)] [] K M Q := by
  refine s_aload_n (show decode (am_cc m5_isLike) 0 = .ok (.aload_n 0, 1) by decide +kernel) rfl ?_
  refine s_getf (k := 1) (v := vi (M a0 1)) (show decode (am_cc m5_isLike) 1 = .ok (.getfield 21, 3) by decide +kernel) h1 (by decide) rfl jnX5 (by decide) lf_RX5_21 rfl ?_
  refine s_aload_n (show decode (am_cc m5_isLike) 4 = .ok (.aload_n 1, 1) by decide +kernel) rfl ?_
  refine s_getf (k := 1) (v := vi (M a1 1)) (show decode (am_cc m5_isLike) 5 = .ok (.getfield 21, 3) by decide +kernel) h2 (by decide) rfl jnX5 (by decide) lf_RX5_21 rfl ?_
  exact s_icmp_ne (tgt := 23) (show decode (am_cc m5_isLike) 8 = .ok (.if_icmp .ne 15, 3) by decide +kernel) (by decide) k1 k2
theorem g5_isLike_11 {a0 a1 : Int} {K : am_K} {M : am_M} {Q : Option am_V → am_M → Prop} {r0 : List Int} (h1 : am_kd K a0 = some (5, 2, r0)) (k : am_CallN m5_isLikeSoFar [vr a0, vr a1] K M (fun r M' => am_AtN m5_isLike 16 [some (vr a0), some (vr a1)] (r.toList ++ []) K M' Q)) : am_AtN m5_isLike 11 [some (vr a0), some (vr a1)] [] K M Q := by
  refine s_aload_n (show decode (am_cc m5_isLike) 11 = .ok (.aload_n 0, 1) by decide +kernel) rfl ?_
  refine s_aload_n (show decode (am_cc m5_isLike) 12 = .ok (.aload_n 1, 1) by decide +kernel) rfl ?_
  exact n_callV (as := [vr a1]) (stk := []) (show decode (am_cc m5_isLike) 13 = .ok (.invokevirtual 46, 3) by decide +kernel) lk_RX5_46 h1 (by decide) rfl rfl (by decide) (Nat.le_of_ble_eq_true rfl) ⟨rfl, rfl⟩ k
theorem g5_isLike_16 {a0 a1 t0 : Int} {K : am_K} {M : am_M} {Q : Option am_V → am_M → Prop} (k1 : t0 = 0 → am_AtN m5_isLike 23 [some (vr a0), some (vr a1)] [] K M Q) (k2 : ¬ (t0 = 0) → am_AtN m5_isLike 19 [some (vr a0), some (vr a1)] [] K M Q) : am_AtN m5_isLike 16 [some (vr a0), some (vr a1)] [vi t0] K M Q := by
  exact s_if_eq (tgt := 23) (show decode (am_cc m5_isLike) 16 = .ok (.ifCond .eq 7, 3) by decide +kernel) (by decide) k1 k2
theorem g5_isLike_19 {a0 a1 : Int} {K : am_K} {M : am_M} {Q : Option am_V → am_M → Prop} (k : am_AtN m5_isLike 24 [some (vr a0), some (vr a1)] [vi 1] K M Q) : am_AtN m5_isLike 19 [some (vr a0), some (vr a1)] [] K M Q := by
  refine s_iconst (show decode (am_cc m5_isLike) 19 = .ok (.iconst 1, 1) by decide +kernel) ⟨by decide, by decide⟩ ?_
  refine s_goto (tgt := 24) (show decode (am_cc m5_isLike) 20 = .ok (.goto 4, 3) by decide +kernel) (by decide) ?_
  exact k
theorem g5_isLike_23 {a0 a1 : Int} {K : am_K} {M : am_M} {Q : Option am_V → am_M → Prop} (k : am_AtN m5_isLike 24 [some (vr a0), some (vr a1)] [vi 0] K M Q) : am_AtN m5_isLike 23 [some (vr a0), some (vr a1)] [] K M Q := by
  refine s_iconst (show decode (am_cc m5_isLike) 23 = .ok (.iconst 0, 1) by decide +kernel) ⟨by decide, by decide⟩ ?_
  exact k
theorem g5_isLike_24 {a0 a1 t0 : Int} {K : am_K} {M : am_M} {Q : Option am_V → am_M → Prop} (h1 : t0 = 0 ∨ t0 = 1) (k : Q (some (vi t0)) M) : am_AtN m5_isLike 24 [some (vr a0), some (vr a1)] [vi t0] K M Q := by
  exact s_zreturn (show decode (am_cc m5_isLike) 24 = .ok (.ireturn, 1) by decide +kernel) rfl h1 k
theorem g5_isLikeSoFar_0 {a0 a1 : Int} {K : am_K} {M : am_M} {Q : Option am_V → am_M → Prop} (k : am_AtN m5_isLikeSoFar 2 [some (vr a0), some (vr a1), some (vi 0)] [] K M Q) : am_AtN m5_isLikeSoFar 0 [some (vr a0), some (vr a1), none] [] K M Q := by
  refine s_iconst (show decode (am_cc m5_isLikeSoFar) 0 = .ok (.iconst 0, 1) by decide +kernel) ⟨by decide, by decide⟩ ?_
  refine s_istore_n (show decode (am_cc m5_isLikeSoFar) 1 = .ok (.istore_n 2, 1) by decide +kernel) (by decide) ?_
  exact k
theorem g5_isLikeSoFar_2 {a0 a1 a2 : Int} {K : am_K} {M : am_M} {Q : Option am_V → am_M → Prop} {r0_0 : Int} {r0_1 : Int} {r1_0 : Int} {r1_1 : Int} (h1 : am_kd K a0 = some (5, 2, [r0_0, r0_1])) (h2 : am_kd K a1 = some (5, 2, [r1_0, r1_1])) (k1 : (if (M a1 1) < (M a0 1) then (M a1 1) else (M a0 1)) ≤ a2 → am_AtN m5_isLikeSoFar 38 [some (vr a0), some (vr a1), some (vi a2)] [] K M Q) (k2 : ¬ ((if (M a1 1) < (M a0 1) then (M a1 1) else (M a0 1)) ≤ a2) → am_AtN m5_isLikeSoFar 17 [some (vr a0), some (vr a1), some (vi a2)] [] K M Q) : am_AtN m5_isLikeSoFar 2 [some (vr a0), some (vr a1), some (vi a2)] [] K M Q := by
  refine s_iload_n (show decode (am_cc m5_isLikeSoFar) 2 = .ok (.iload_n 2, 1) by decide +kernel) rfl ?_
  refine s_aload_n (show decode (am_cc m5_isLikeSoFar) 3 = .ok (.aload_n 0, 1) by decide +kernel) rfl ?_
  refine s_getf (k := 1) (v := vi (M a0 1)) (show decode (am_cc m5_isLikeSoFar) 4 = .ok (.getfield 21, 3) by decide +kernel) h1 (by decide) rfl jnX5 (by decide) lf_RX5_21 rfl ?_
  refine s_aload_n (show decode (am_cc m5_isLikeSoFar) 7 = .ok (.aload_n 1, 1) by decide +kernel) rfl ?_
  refine s_getf (k := 1) (v := vi (M a1 1)) (show decode (am_cc m5_isLikeSoFar) 8 = .ok (.getfield 21, 3) by decide +kernel) h2 (by decide) rfl jnX5 (by decide) lf_RX5_21 rfl ?_
  refine s_mmin (show decode (am_cc m5_isLikeSoFar) 11 = .ok (.invokestatic 50, 3) by decide +kernel) lk_RX5_50.2.1 (Nat.le_of_ble_eq_true rfl) (by decide) ?_
  exact s_icmp_ge (tgt := 38) (show decode (am_cc m5_isLikeSoFar) 14 = .ok (.if_icmp .ge 24, 3) by decide +kernel) (by decide) k1 k2
theorem g5_isLikeSoFar_17 {a0 a1 a2 : Int} {K : am_K} {M : am_M} {Q : Option am_V → am_M → Prop} {r0 : List Int} (h1 : am_kd K a0 = some (5, 2, r0)) (k : am_CallN m5_letterAt [vr a0, vi a2] K M (fun r M' => am_AtN m5_isLikeSoFar 22 [some (vr a0), some (vr a1), some (vi a2)] (r.toList ++ []) K M' Q)) : am_AtN m5_isLikeSoFar 17 [some (vr a0), some (vr a1), some (vi a2)] [] K M Q := by
  refine s_aload_n (show decode (am_cc m5_isLikeSoFar) 17 = .ok (.aload_n 0, 1) by decide +kernel) rfl ?_
  refine s_iload_n (show decode (am_cc m5_isLikeSoFar) 18 = .ok (.iload_n 2, 1) by decide +kernel) rfl ?_
  exact n_callV (as := [vi a2]) (stk := []) (show decode (am_cc m5_isLikeSoFar) 19 = .ok (.invokevirtual 43, 3) by decide +kernel) lk_RX5_43 h1 (by decide) rfl rfl (by decide) (Nat.le_of_ble_eq_true rfl) ⟨rfl, rfl⟩ k
theorem g5_isLikeSoFar_22 {a0 a1 a2 t0 : Int} {K : am_K} {M : am_M} {Q : Option am_V → am_M → Prop} {r0 : List Int} (h1 : am_kd K a1 = some (5, 2, r0)) (k : am_CallN m5_letterAt [vr a1, vi a2] K M (fun r M' => am_AtN m5_isLikeSoFar 27 [some (vr a0), some (vr a1), some (vi a2)] (r.toList ++ [vi t0]) K M' Q)) : am_AtN m5_isLikeSoFar 22 [some (vr a0), some (vr a1), some (vi a2)] [vi t0] K M Q := by
  refine s_aload_n (show decode (am_cc m5_isLikeSoFar) 22 = .ok (.aload_n 1, 1) by decide +kernel) rfl ?_
  refine s_iload_n (show decode (am_cc m5_isLikeSoFar) 23 = .ok (.iload_n 2, 1) by decide +kernel) rfl ?_
  exact n_callV (as := [vi a2]) (stk := [vi t0]) (show decode (am_cc m5_isLikeSoFar) 24 = .ok (.invokevirtual 43, 3) by decide +kernel) lk_RX5_43 h1 (by decide) rfl rfl (by decide) (Nat.le_of_ble_eq_true rfl) ⟨rfl, rfl⟩ k
theorem g5_isLikeSoFar_27 {a0 a1 a2 t0 t1 : Int} {K : am_K} {M : am_M} {Q : Option am_V → am_M → Prop} (k1 : t0 = t1 → am_AtN m5_isLikeSoFar 32 [some (vr a0), some (vr a1), some (vi a2)] [] K M Q) (k2 : ¬ (t0 = t1) → am_AtN m5_isLikeSoFar 30 [some (vr a0), some (vr a1), some (vi a2)] [] K M Q) : am_AtN m5_isLikeSoFar 27 [some (vr a0), some (vr a1), some (vi a2)] [vi t1, vi t0] K M Q := by
  exact s_icmp_eq (tgt := 32) (show decode (am_cc m5_isLikeSoFar) 27 = .ok (.if_icmp .eq 5, 3) by decide +kernel) (by decide) k1 k2
theorem g5_isLikeSoFar_30 {a0 a1 a2 : Int} {K : am_K} {M : am_M} {Q : Option am_V → am_M → Prop} (k : Q (some (vi 0)) M) : am_AtN m5_isLikeSoFar 30 [some (vr a0), some (vr a1), some (vi a2)] [] K M Q := by
  refine s_iconst (show decode (am_cc m5_isLikeSoFar) 30 = .ok (.iconst 0, 1) by decide +kernel) ⟨by decide, by decide⟩ ?_
  exact s_zreturn (show decode (am_cc m5_isLikeSoFar) 31 = .ok (.ireturn, 1) by decide +kernel) rfl (by decide) k
theorem g5_isLikeSoFar_32 {a0 a1 a2 : Int} {K : am_K} {M : am_M} {Q : Option am_V → am_M → Prop} (h1 : -2147483648 ≤ a2 + 1 ∧ a2 + 1 ≤ 2147483647) (k : am_AtN m5_isLikeSoFar 2 [some (vr a0), some (vr a1), some (vi (a2 + 1))] [] K M Q) : am_AtN m5_isLikeSoFar 32 [some (vr a0), some (vr a1), some (vi a2)] [] K M Q := by
  refine s_iinc (show decode (am_cc m5_isLikeSoFar) 32 = .ok (.iinc 2 1, 3) by decide +kernel) rfl (by decide) h1 ?_
  refine s_goto (tgt := 2) (show decode (am_cc m5_isLikeSoFar) 35 = .ok (.goto (-33), 3) by decide +kernel) (by decide) ?_
  exact k
theorem g5_isLikeSoFar_38 {a0 a1 a2 : Int} {K : am_K} {M : am_M} {Q : Option am_V → am_M → Prop} (k : Q (some (vi 1)) M) : am_AtN m5_isLikeSoFar 38 [some (vr a0), some (vr a1), some (vi a2)] [] K M Q := by
  refine s_iconst (show decode (am_cc m5_isLikeSoFar) 38 = .ok (.iconst 1, 1) by decide +kernel) ⟨by decide, by decide⟩ ?_
  exact s_zreturn (show decode (am_cc m5_isLikeSoFar) 39 = .ok (.ireturn, 1) by decide +kernel) rfl (by decide) k
theorem g5_walkedBy_0 {a0 a1 : Int} {K : am_K} {M : am_M} {Q : Option am_V → am_M → Prop} (k : am_AtN m5_walkedBy 4 [some (vr a0), some (vr a1), some (vi 0), some (vi 0)] [] K M Q) : am_AtN m5_walkedBy 0 [some (vr a0), some (vr a1), none, none] [] K M Q := by
  refine s_iconst (show decode (am_cc m5_walkedBy) 0 = .ok (.iconst 0, 1) by decide +kernel) ⟨by decide, by decide⟩ ?_
  refine s_istore_n (show decode (am_cc m5_walkedBy) 1 = .ok (.istore_n 2, 1) by decide +kernel) (by decide) ?_
  refine s_iconst (show decode (am_cc m5_walkedBy) 2 = .ok (.iconst 0, 1) by decide +kernel) ⟨by decide, by decide⟩ ?_
  refine s_istore_n (show decode (am_cc m5_walkedBy) 3 = .ok (.istore_n 3, 1) by decide +kernel) (by decide) ?_
  exact k
theorem g5_walkedBy_4 {a0 a1 a2 a3 : Int} {K : am_K} {M : am_M} {Q : Option am_V → am_M → Prop} {r0_0 : Int} {r0_1 : Int} (h1 : am_kd K a0 = some (5, 2, [r0_0, r0_1])) (k1 : M a0 1 ≤ a3 → am_AtN m5_walkedBy 29 [some (vr a0), some (vr a1), some (vi a2), some (vi a3)] [] K M Q) (k2 : ¬ (M a0 1 ≤ a3) → am_AtN m5_walkedBy 12 [some (vr a0), some (vr a1), some (vi a2), some (vi a3)] [] K M Q) : am_AtN m5_walkedBy 4 [some (vr a0), some (vr a1), some (vi a2), some (vi a3)] [] K M Q := by
  refine s_iload_n (show decode (am_cc m5_walkedBy) 4 = .ok (.iload_n 3, 1) by decide +kernel) rfl ?_
  refine s_aload_n (show decode (am_cc m5_walkedBy) 5 = .ok (.aload_n 0, 1) by decide +kernel) rfl ?_
  refine s_getf (k := 1) (v := vi (M a0 1)) (show decode (am_cc m5_walkedBy) 6 = .ok (.getfield 21, 3) by decide +kernel) h1 (by decide) rfl jnX5 (by decide) lf_RX5_21 rfl ?_
  exact s_icmp_ge (tgt := 29) (show decode (am_cc m5_walkedBy) 9 = .ok (.if_icmp .ge 20, 3) by decide +kernel) (by decide) k1 k2
theorem g5_walkedBy_12 {a0 a1 a2 a3 : Int} {K : am_K} {M : am_M} {Q : Option am_V → am_M → Prop} {r0 : List Int} (h1 : am_kd K a0 = some (5, 2, r0)) (k : am_CallN m5_letterAt [vr a0, vi a3] K M (fun r M' => am_AtN m5_walkedBy 19 [some (vr a0), some (vr a1), some (vi a2), some (vi a3)] (r.toList ++ [vi a2, vr a1]) K M' Q)) : am_AtN m5_walkedBy 12 [some (vr a0), some (vr a1), some (vi a2), some (vi a3)] [] K M Q := by
  refine s_aload_n (show decode (am_cc m5_walkedBy) 12 = .ok (.aload_n 1, 1) by decide +kernel) rfl ?_
  refine s_iload_n (show decode (am_cc m5_walkedBy) 13 = .ok (.iload_n 2, 1) by decide +kernel) rfl ?_
  refine s_aload_n (show decode (am_cc m5_walkedBy) 14 = .ok (.aload_n 0, 1) by decide +kernel) rfl ?_
  refine s_iload_n (show decode (am_cc m5_walkedBy) 15 = .ok (.iload_n 3, 1) by decide +kernel) rfl ?_
  exact n_callV (as := [vi a3]) (stk := [vi a2, vr a1]) (show decode (am_cc m5_walkedBy) 16 = .ok (.invokevirtual 43, 3) by decide +kernel) lk_RX5_43 h1 (by decide) rfl rfl (by decide) (Nat.le_of_ble_eq_true rfl) ⟨rfl, rfl⟩ k
theorem g5_walkedBy_19 {a0 a1 a2 a3 t0 t1 t2 : Int} {K : am_K} {M : am_M} {Q : Option am_V → am_M → Prop} {r0 : List Int} (h1 : am_kd K t0 = some (6, 2, r0)) (k : am_CallN m6_nextOf [vr t0, vi t1, vi t2] K M (fun r M' => am_AtN m5_walkedBy 22 [some (vr a0), some (vr a1), some (vi a2), some (vi a3)] (r.toList ++ []) K M' Q)) : am_AtN m5_walkedBy 19 [some (vr a0), some (vr a1), some (vi a2), some (vi a3)] [vi t2, vi t1, vr t0] K M Q := by
  exact n_callV (as := [vi t1, vi t2]) (stk := []) (show decode (am_cc m5_walkedBy) 19 = .ok (.invokevirtual 53, 3) by decide +kernel) lk_RX5_53 h1 (by decide) rfl rfl (by decide) (Nat.le_of_ble_eq_true rfl) ⟨rfl, rfl⟩ k
theorem g5_walkedBy_22 {a0 a1 a2 a3 t0 : Int} {K : am_K} {M : am_M} {Q : Option am_V → am_M → Prop} (h1 : -2147483648 ≤ a3 + 1 ∧ a3 + 1 ≤ 2147483647) (k : am_AtN m5_walkedBy 4 [some (vr a0), some (vr a1), some (vi t0), some (vi (a3 + 1))] [] K M Q) : am_AtN m5_walkedBy 22 [some (vr a0), some (vr a1), some (vi a2), some (vi a3)] [vi t0] K M Q := by
  refine s_istore_n (show decode (am_cc m5_walkedBy) 22 = .ok (.istore_n 2, 1) by decide +kernel) (by decide) ?_
  refine s_iinc (show decode (am_cc m5_walkedBy) 23 = .ok (.iinc 3 1, 3) by decide +kernel) rfl (by decide) h1 ?_
  refine s_goto (tgt := 4) (show decode (am_cc m5_walkedBy) 26 = .ok (.goto (-22), 3) by decide +kernel) (by decide) ?_
  exact k
theorem g5_walkedBy_29 {a0 a1 a2 a3 : Int} {K : am_K} {M : am_M} {Q : Option am_V → am_M → Prop} (k : Q (some (vi a2)) M) : am_AtN m5_walkedBy 29 [some (vr a0), some (vr a1), some (vi a2), some (vi a3)] [] K M Q := by
  refine s_iload_n (show decode (am_cc m5_walkedBy) 29 = .ok (.iload_n 2, 1) by decide +kernel) rfl ?_
  exact s_ireturn (show decode (am_cc m5_walkedBy) 30 = .ok (.ireturn, 1) by decide +kernel) rfl k
