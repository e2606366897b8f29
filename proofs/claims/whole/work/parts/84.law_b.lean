/-! ===== the law: its loop, its start (by wip/whole/gen_law2.py) ===== -/
theorem and31 (x : Int32) : 0 ≤ (x &&& Int32.ofInt 31).toInt ∧ (x &&& Int32.ofInt 31).toInt ≤ 31 := by
  have h : (x &&& Int32.ofInt 31).toBitVec.toNat ≤ 31 := by
    rw [Int32.toBitVec_and, BitVec.toNat_and]
    exact Nat.le_trans Nat.and_le_right (by decide)
  have e : (x &&& Int32.ofInt 31).toInt = (x &&& Int32.ofInt 31).toBitVec.toInt := rfl
  rw [e, BitVec.toInt_eq_toNat_cond]
  split <;> omega
theorem L_loop {S : Int → Int} {Q : am_Q} {len : Int} (hlen : 0 ≤ len ∧ len ≤ 3072) (kq : ∀ K M, Q (some (vi 1)) K M) : ∀ (d : Nat) (i : Int) (M : am_M), Inv S M → M (-2) (-1) = len → 0 ≤ i → i ≤ 6000 → len - i ≤ d → am_At mL 18 [some (vr (-2)), some (vr 0), some (vr 86), some (vi i)] [] (SH, 113, 141272) M Q := by
  intro d
  induction d with
  | zero =>
    intro i M hI hm h0 hi hd
    refine s_iload_n (k0 := 3) (x := i) (show decode (am_cc mL) 18 = .ok (.iload_n 3, 1) by decide +kernel) rfl ?_
    refine s_aload_n (k0 := 0) (x := -2) (show decode (am_cc mL) 19 = .ok (.aload_n 0, 1) by decide +kernel) rfl ?_
    refine s_slen rfl (show decode (am_cc mL) 20 = .ok (.arraylength, 1) by decide +kernel) ?_
    refine s_bipush (show decode (am_cc mL) 21 = .ok (.bipush 6, 2) by decide +kernel) (by unfold am_i32; omega) (by decide) ?_
    refine s_isub (show decode (am_cc mL) 23 = .ok (.isub, 1) by decide +kernel) (by unfold am_i32; omega) ?_
    refine s_icmp_gt (tgt := 1512) (show decode (am_cc mL) 24 = .ok (.if_icmp .gt 1488, 3) by decide +kernel) (by decide) (fun _ => ?_) (fun q => ?_)
    · refine s_iconst (show decode (am_cc mL) 1512 = .ok (.iconst 1, 1) by decide +kernel) (by unfold am_i32; omega) ?_
      exact s_zreturn (show decode (am_cc mL) 1513 = .ok (.ireturn, 1) by decide +kernel) rfl (Or.inr rfl) (kq _ _)
    · exfalso
      omega
  | succ d ih =>
    intro i M hI hm h0 hi hd
    refine s_iload_n (k0 := 3) (x := i) (show decode (am_cc mL) 18 = .ok (.iload_n 3, 1) by decide +kernel) rfl ?_
    refine s_aload_n (k0 := 0) (x := -2) (show decode (am_cc mL) 19 = .ok (.aload_n 0, 1) by decide +kernel) rfl ?_
    refine s_slen rfl (show decode (am_cc mL) 20 = .ok (.arraylength, 1) by decide +kernel) ?_
    refine s_bipush (show decode (am_cc mL) 21 = .ok (.bipush 6, 2) by decide +kernel) (by unfold am_i32; omega) (by decide) ?_
    refine s_isub (show decode (am_cc mL) 23 = .ok (.isub, 1) by decide +kernel) (by unfold am_i32; omega) ?_
    refine s_icmp_gt (tgt := 1512) (show decode (am_cc mL) 24 = .ok (.if_icmp .gt 1488, 3) by decide +kernel) (by decide) (fun _ => ?_) (fun q => ?_)
    · refine s_iconst (show decode (am_cc mL) 1512 = .ok (.iconst 1, 1) by decide +kernel) (by unfold am_i32; omega) ?_
      exact s_zreturn (show decode (am_cc mL) 1513 = .ok (.ireturn, 1) by decide +kernel) rfl (Or.inr rfl) (kq _ _)
    · have k : ∀ M2, Inv S M2 → M2 (-2) (-1) = M (-2) (-1) → am_At mL 1506 [some (vr (-2)), some (vr 0), some (vr 86), some (vi i)] [] (SH, 113, 141272) M2 Q := by
        intro M2 hI2 he
        refine s_iinc (x := i) (show decode (am_cc mL) 1506 = .ok (.iinc 3 6, 3) by decide +kernel) rfl (by decide) (by unfold am_i32; omega) ?_
        refine s_goto (tgt := 18) (show decode (am_cc mL) 1509 = .ok (.goto (-1491), 3) by decide +kernel) (by decide) ?_
        exact ih (i + 6) M2 hI2 (he.trans hm) (by omega) (by omega) (by omega)
      have h6 : i + 6 ≤ M (-2) (-1) := by omega
      have hL : M (-2) (-1) ≤ 3072 := by omega
      refine s_aload_n (k0 := 0) (x := -2) (show decode (am_cc mL) 27 = .ok (.aload_n 0, 1) by decide +kernel) rfl ?_
      refine s_iload_n (k0 := 3) (x := i) (show decode (am_cc mL) 28 = .ok (.iload_n 3, 1) by decide +kernel) rfl ?_
      refine s_sload rfl (show decode (am_cc mL) 29 = .ok (.iaload, 1) by decide +kernel) (by omega) (by omega) ?_
      refine s_bipush (show decode (am_cc mL) 30 = .ok (.bipush 31, 2) by decide +kernel) (by unfold am_i32; omega) (by decide) ?_
      refine s_iand (show decode (am_cc mL) 32 = .ok (.iand, 1) by decide +kernel) ?_
      have hr := and31 (Int32.ofInt (M (-2) i))
      generalize (Int32.ofInt (M (-2) i) &&& Int32.ofInt 31).toInt = v at hr ⊢
      have hv : v = 0 ∨ v = 1 ∨ v = 2 ∨ v = 3 ∨ v = 4 ∨ v = 5 ∨ v = 6 ∨ v = 7 ∨ v = 8 ∨ v = 9 ∨ v = 10 ∨ v = 11 ∨ v = 12 ∨ v = 13 ∨ v = 14 ∨ v = 15 ∨ v = 16 ∨ v = 17 ∨ v = 18 ∨ v = 19 ∨ v = 20 ∨ v = 21 ∨ v = 22 ∨ v = 23 ∨ v = 24 ∨ v = 25 ∨ v = 26 ∨ v = 27 ∨ v = 28 ∨ v = 29 ∨ v = 30 ∨ v = 31 := by omega
      rcases hv with rfl | rfl | rfl | rfl | rfl | rfl | rfl | rfl | rfl | rfl | rfl | rfl | rfl | rfl | rfl | rfl | rfl | rfl | rfl | rfl | rfl | rfl | rfl | rfl | rfl | rfl | rfl | rfl | rfl | rfl | rfl | rfl
      · exact s_tableIn (tgt := 176) (show decode (am_cc mL) 33 = .ok (.tableswitch 1473 0 31 #[143, 166, 219, 278, 321, 354, 397, 440, 503, 546, 599, 652, 715, 768, 831, 880, 933, 986, 1029, 1072, 1115, 1148, 1191, 1225, 1298, 1322, 1345, 1358, 1381, 1404, 1427, 1450], 143) by decide +kernel) 0 (by decide) (by decide) rfl (by decide) (L_0 hI h0 h6 hL k)
      · exact s_tableIn (tgt := 199) (show decode (am_cc mL) 33 = .ok (.tableswitch 1473 0 31 #[143, 166, 219, 278, 321, 354, 397, 440, 503, 546, 599, 652, 715, 768, 831, 880, 933, 986, 1029, 1072, 1115, 1148, 1191, 1225, 1298, 1322, 1345, 1358, 1381, 1404, 1427, 1450], 143) by decide +kernel) 1 (by decide) (by decide) rfl (by decide) (L_1 hI h0 h6 hL k)
      · exact s_tableIn (tgt := 252) (show decode (am_cc mL) 33 = .ok (.tableswitch 1473 0 31 #[143, 166, 219, 278, 321, 354, 397, 440, 503, 546, 599, 652, 715, 768, 831, 880, 933, 986, 1029, 1072, 1115, 1148, 1191, 1225, 1298, 1322, 1345, 1358, 1381, 1404, 1427, 1450], 143) by decide +kernel) 2 (by decide) (by decide) rfl (by decide) (L_2 hI h0 h6 hL k)
      · exact s_tableIn (tgt := 311) (show decode (am_cc mL) 33 = .ok (.tableswitch 1473 0 31 #[143, 166, 219, 278, 321, 354, 397, 440, 503, 546, 599, 652, 715, 768, 831, 880, 933, 986, 1029, 1072, 1115, 1148, 1191, 1225, 1298, 1322, 1345, 1358, 1381, 1404, 1427, 1450], 143) by decide +kernel) 3 (by decide) (by decide) rfl (by decide) (L_3 hI h0 h6 hL k)
      · exact s_tableIn (tgt := 354) (show decode (am_cc mL) 33 = .ok (.tableswitch 1473 0 31 #[143, 166, 219, 278, 321, 354, 397, 440, 503, 546, 599, 652, 715, 768, 831, 880, 933, 986, 1029, 1072, 1115, 1148, 1191, 1225, 1298, 1322, 1345, 1358, 1381, 1404, 1427, 1450], 143) by decide +kernel) 4 (by decide) (by decide) rfl (by decide) (L_4 hI h0 h6 hL k)
      · exact s_tableIn (tgt := 387) (show decode (am_cc mL) 33 = .ok (.tableswitch 1473 0 31 #[143, 166, 219, 278, 321, 354, 397, 440, 503, 546, 599, 652, 715, 768, 831, 880, 933, 986, 1029, 1072, 1115, 1148, 1191, 1225, 1298, 1322, 1345, 1358, 1381, 1404, 1427, 1450], 143) by decide +kernel) 5 (by decide) (by decide) rfl (by decide) (L_5 hI h0 h6 hL k)
      · exact s_tableIn (tgt := 430) (show decode (am_cc mL) 33 = .ok (.tableswitch 1473 0 31 #[143, 166, 219, 278, 321, 354, 397, 440, 503, 546, 599, 652, 715, 768, 831, 880, 933, 986, 1029, 1072, 1115, 1148, 1191, 1225, 1298, 1322, 1345, 1358, 1381, 1404, 1427, 1450], 143) by decide +kernel) 6 (by decide) (by decide) rfl (by decide) (L_6 hI h0 h6 hL k)
      · exact s_tableIn (tgt := 473) (show decode (am_cc mL) 33 = .ok (.tableswitch 1473 0 31 #[143, 166, 219, 278, 321, 354, 397, 440, 503, 546, 599, 652, 715, 768, 831, 880, 933, 986, 1029, 1072, 1115, 1148, 1191, 1225, 1298, 1322, 1345, 1358, 1381, 1404, 1427, 1450], 143) by decide +kernel) 7 (by decide) (by decide) rfl (by decide) (L_7 hI h0 h6 hL k)
      · exact s_tableIn (tgt := 536) (show decode (am_cc mL) 33 = .ok (.tableswitch 1473 0 31 #[143, 166, 219, 278, 321, 354, 397, 440, 503, 546, 599, 652, 715, 768, 831, 880, 933, 986, 1029, 1072, 1115, 1148, 1191, 1225, 1298, 1322, 1345, 1358, 1381, 1404, 1427, 1450], 143) by decide +kernel) 8 (by decide) (by decide) rfl (by decide) (L_8 hI h0 h6 hL k)
      · exact s_tableIn (tgt := 579) (show decode (am_cc mL) 33 = .ok (.tableswitch 1473 0 31 #[143, 166, 219, 278, 321, 354, 397, 440, 503, 546, 599, 652, 715, 768, 831, 880, 933, 986, 1029, 1072, 1115, 1148, 1191, 1225, 1298, 1322, 1345, 1358, 1381, 1404, 1427, 1450], 143) by decide +kernel) 9 (by decide) (by decide) rfl (by decide) (L_9 hI h0 h6 hL k)
      · exact s_tableIn (tgt := 632) (show decode (am_cc mL) 33 = .ok (.tableswitch 1473 0 31 #[143, 166, 219, 278, 321, 354, 397, 440, 503, 546, 599, 652, 715, 768, 831, 880, 933, 986, 1029, 1072, 1115, 1148, 1191, 1225, 1298, 1322, 1345, 1358, 1381, 1404, 1427, 1450], 143) by decide +kernel) 10 (by decide) (by decide) rfl (by decide) (L_10 hI h0 h6 hL k)
      · exact s_tableIn (tgt := 685) (show decode (am_cc mL) 33 = .ok (.tableswitch 1473 0 31 #[143, 166, 219, 278, 321, 354, 397, 440, 503, 546, 599, 652, 715, 768, 831, 880, 933, 986, 1029, 1072, 1115, 1148, 1191, 1225, 1298, 1322, 1345, 1358, 1381, 1404, 1427, 1450], 143) by decide +kernel) 11 (by decide) (by decide) rfl (by decide) (L_11 hI h0 h6 hL k)
      · exact s_tableIn (tgt := 748) (show decode (am_cc mL) 33 = .ok (.tableswitch 1473 0 31 #[143, 166, 219, 278, 321, 354, 397, 440, 503, 546, 599, 652, 715, 768, 831, 880, 933, 986, 1029, 1072, 1115, 1148, 1191, 1225, 1298, 1322, 1345, 1358, 1381, 1404, 1427, 1450], 143) by decide +kernel) 12 (by decide) (by decide) rfl (by decide) (L_12 hI h0 h6 hL k)
      · exact s_tableIn (tgt := 801) (show decode (am_cc mL) 33 = .ok (.tableswitch 1473 0 31 #[143, 166, 219, 278, 321, 354, 397, 440, 503, 546, 599, 652, 715, 768, 831, 880, 933, 986, 1029, 1072, 1115, 1148, 1191, 1225, 1298, 1322, 1345, 1358, 1381, 1404, 1427, 1450], 143) by decide +kernel) 13 (by decide) (by decide) rfl (by decide) (L_13 hI h0 h6 hL k)
      · exact s_tableIn (tgt := 864) (show decode (am_cc mL) 33 = .ok (.tableswitch 1473 0 31 #[143, 166, 219, 278, 321, 354, 397, 440, 503, 546, 599, 652, 715, 768, 831, 880, 933, 986, 1029, 1072, 1115, 1148, 1191, 1225, 1298, 1322, 1345, 1358, 1381, 1404, 1427, 1450], 143) by decide +kernel) 14 (by decide) (by decide) rfl (by decide) (L_14 hI h0 h6 hL k)
      · exact s_tableIn (tgt := 913) (show decode (am_cc mL) 33 = .ok (.tableswitch 1473 0 31 #[143, 166, 219, 278, 321, 354, 397, 440, 503, 546, 599, 652, 715, 768, 831, 880, 933, 986, 1029, 1072, 1115, 1148, 1191, 1225, 1298, 1322, 1345, 1358, 1381, 1404, 1427, 1450], 143) by decide +kernel) 15 (by decide) (by decide) rfl (by decide) (L_15 hI h0 h6 hL k)
      · exact s_tableIn (tgt := 966) (show decode (am_cc mL) 33 = .ok (.tableswitch 1473 0 31 #[143, 166, 219, 278, 321, 354, 397, 440, 503, 546, 599, 652, 715, 768, 831, 880, 933, 986, 1029, 1072, 1115, 1148, 1191, 1225, 1298, 1322, 1345, 1358, 1381, 1404, 1427, 1450], 143) by decide +kernel) 16 (by decide) (by decide) rfl (by decide) (L_16 hI h0 h6 hL k)
      · exact s_tableIn (tgt := 1019) (show decode (am_cc mL) 33 = .ok (.tableswitch 1473 0 31 #[143, 166, 219, 278, 321, 354, 397, 440, 503, 546, 599, 652, 715, 768, 831, 880, 933, 986, 1029, 1072, 1115, 1148, 1191, 1225, 1298, 1322, 1345, 1358, 1381, 1404, 1427, 1450], 143) by decide +kernel) 17 (by decide) (by decide) rfl (by decide) (L_17 hI h0 h6 hL k)
      · exact s_tableIn (tgt := 1062) (show decode (am_cc mL) 33 = .ok (.tableswitch 1473 0 31 #[143, 166, 219, 278, 321, 354, 397, 440, 503, 546, 599, 652, 715, 768, 831, 880, 933, 986, 1029, 1072, 1115, 1148, 1191, 1225, 1298, 1322, 1345, 1358, 1381, 1404, 1427, 1450], 143) by decide +kernel) 18 (by decide) (by decide) rfl (by decide) (L_18 hI h0 h6 hL k)
      · exact s_tableIn (tgt := 1105) (show decode (am_cc mL) 33 = .ok (.tableswitch 1473 0 31 #[143, 166, 219, 278, 321, 354, 397, 440, 503, 546, 599, 652, 715, 768, 831, 880, 933, 986, 1029, 1072, 1115, 1148, 1191, 1225, 1298, 1322, 1345, 1358, 1381, 1404, 1427, 1450], 143) by decide +kernel) 19 (by decide) (by decide) rfl (by decide) (L_19 hI h0 h6 hL k)
      · exact s_tableIn (tgt := 1148) (show decode (am_cc mL) 33 = .ok (.tableswitch 1473 0 31 #[143, 166, 219, 278, 321, 354, 397, 440, 503, 546, 599, 652, 715, 768, 831, 880, 933, 986, 1029, 1072, 1115, 1148, 1191, 1225, 1298, 1322, 1345, 1358, 1381, 1404, 1427, 1450], 143) by decide +kernel) 20 (by decide) (by decide) rfl (by decide) (L_20 hI h0 h6 hL k)
      · exact s_tableIn (tgt := 1181) (show decode (am_cc mL) 33 = .ok (.tableswitch 1473 0 31 #[143, 166, 219, 278, 321, 354, 397, 440, 503, 546, 599, 652, 715, 768, 831, 880, 933, 986, 1029, 1072, 1115, 1148, 1191, 1225, 1298, 1322, 1345, 1358, 1381, 1404, 1427, 1450], 143) by decide +kernel) 21 (by decide) (by decide) rfl (by decide) (L_21 hI h0 h6 hL k)
      · exact s_tableIn (tgt := 1224) (show decode (am_cc mL) 33 = .ok (.tableswitch 1473 0 31 #[143, 166, 219, 278, 321, 354, 397, 440, 503, 546, 599, 652, 715, 768, 831, 880, 933, 986, 1029, 1072, 1115, 1148, 1191, 1225, 1298, 1322, 1345, 1358, 1381, 1404, 1427, 1450], 143) by decide +kernel) 22 (by decide) (by decide) rfl (by decide) (L_22 hI h0 h6 hL k)
      · exact s_tableIn (tgt := 1258) (show decode (am_cc mL) 33 = .ok (.tableswitch 1473 0 31 #[143, 166, 219, 278, 321, 354, 397, 440, 503, 546, 599, 652, 715, 768, 831, 880, 933, 986, 1029, 1072, 1115, 1148, 1191, 1225, 1298, 1322, 1345, 1358, 1381, 1404, 1427, 1450], 143) by decide +kernel) 23 (by decide) (by decide) rfl (by decide) (L_23 hI h0 h6 hL k)
      · exact s_tableIn (tgt := 1331) (show decode (am_cc mL) 33 = .ok (.tableswitch 1473 0 31 #[143, 166, 219, 278, 321, 354, 397, 440, 503, 546, 599, 652, 715, 768, 831, 880, 933, 986, 1029, 1072, 1115, 1148, 1191, 1225, 1298, 1322, 1345, 1358, 1381, 1404, 1427, 1450], 143) by decide +kernel) 24 (by decide) (by decide) rfl (by decide) (L_24 hI h0 h6 hL k)
      · exact s_tableIn (tgt := 1355) (show decode (am_cc mL) 33 = .ok (.tableswitch 1473 0 31 #[143, 166, 219, 278, 321, 354, 397, 440, 503, 546, 599, 652, 715, 768, 831, 880, 933, 986, 1029, 1072, 1115, 1148, 1191, 1225, 1298, 1322, 1345, 1358, 1381, 1404, 1427, 1450], 143) by decide +kernel) 25 (by decide) (by decide) rfl (by decide) (L_25 hI h0 h6 hL k)
      · exact s_tableIn (tgt := 1378) (show decode (am_cc mL) 33 = .ok (.tableswitch 1473 0 31 #[143, 166, 219, 278, 321, 354, 397, 440, 503, 546, 599, 652, 715, 768, 831, 880, 933, 986, 1029, 1072, 1115, 1148, 1191, 1225, 1298, 1322, 1345, 1358, 1381, 1404, 1427, 1450], 143) by decide +kernel) 26 (by decide) (by decide) rfl (by decide) (L_26 hI h0 h6 hL k)
      · exact s_tableIn (tgt := 1391) (show decode (am_cc mL) 33 = .ok (.tableswitch 1473 0 31 #[143, 166, 219, 278, 321, 354, 397, 440, 503, 546, 599, 652, 715, 768, 831, 880, 933, 986, 1029, 1072, 1115, 1148, 1191, 1225, 1298, 1322, 1345, 1358, 1381, 1404, 1427, 1450], 143) by decide +kernel) 27 (by decide) (by decide) rfl (by decide) (L_27 hI h0 h6 hL k)
      · exact s_tableIn (tgt := 1414) (show decode (am_cc mL) 33 = .ok (.tableswitch 1473 0 31 #[143, 166, 219, 278, 321, 354, 397, 440, 503, 546, 599, 652, 715, 768, 831, 880, 933, 986, 1029, 1072, 1115, 1148, 1191, 1225, 1298, 1322, 1345, 1358, 1381, 1404, 1427, 1450], 143) by decide +kernel) 28 (by decide) (by decide) rfl (by decide) (L_28 hI h0 h6 hL k)
      · exact s_tableIn (tgt := 1437) (show decode (am_cc mL) 33 = .ok (.tableswitch 1473 0 31 #[143, 166, 219, 278, 321, 354, 397, 440, 503, 546, 599, 652, 715, 768, 831, 880, 933, 986, 1029, 1072, 1115, 1148, 1191, 1225, 1298, 1322, 1345, 1358, 1381, 1404, 1427, 1450], 143) by decide +kernel) 29 (by decide) (by decide) rfl (by decide) (L_29 hI h0 h6 hL k)
      · exact s_tableIn (tgt := 1460) (show decode (am_cc mL) 33 = .ok (.tableswitch 1473 0 31 #[143, 166, 219, 278, 321, 354, 397, 440, 503, 546, 599, 652, 715, 768, 831, 880, 933, 986, 1029, 1072, 1115, 1148, 1191, 1225, 1298, 1322, 1345, 1358, 1381, 1404, 1427, 1450], 143) by decide +kernel) 30 (by decide) (by decide) rfl (by decide) (L_30 hI h0 h6 hL k)
      · exact s_tableIn (tgt := 1483) (show decode (am_cc mL) 33 = .ok (.tableswitch 1473 0 31 #[143, 166, 219, 278, 321, 354, 397, 440, 503, 546, 599, 652, 715, 768, 831, 880, 933, 986, 1029, 1072, 1115, 1148, 1191, 1225, 1298, 1322, 1345, 1358, 1381, 1404, 1427, 1450], 143) by decide +kernel) 31 (by decide) (by decide) rfl (by decide) (L_31 hI h0 h6 hL k)
theorem bgo {M : am_M} {b j : Int} (h : b < 86) : bg M 2 b j = M b j := by
  unfold bg bg2 bg1
  rw [am_upn (Or.inl (by omega)), am_fl_out (by omega), am_fl_out (by omega), am_fl_out (by omega), am_fl_out (by omega), am_fl_out (by omega), am_fl_out (by omega), am_upn (Or.inl (by omega))]
theorem law_at {Q : am_Q} {M : am_M} {len : Int} (hm : M (-2) (-1) = len) (hlen : 0 ≤ len ∧ len ≤ 3072) (kq : ∀ K M, Q (some (vi 1)) K M) : am_At mL 0 (am_ent 4 [vr (-2)]) [] ([], 0, 0) M Q := by
  refine s_new (ci := 8) (N := 16) (ty0 := tyX8) (by decide) (show decode (am_cc mL) 0 = .ok (.new 7, 3) by decide +kernel) (by decide) rfl jnX8 tyX8_ok (by decide +kernel) lc_RL_7 lm_8.1 lm_8.2 ⟨Nat.le_of_ble_eq_true rfl, Nat.le_of_ble_eq_true rfl⟩ ?_
  show am_At mL 3 _ [vr 0] (K8z, 1, 16) _ Q
  refine s_dupr (show decode (am_cc mL) 3 = .ok (.dup, 1) by decide +kernel) ?_
  refine s_callI (a := 0) (as := []) (stk := [vr 0]) (show decode (am_cc mL) 4 = .ok (.invokespecial 9, 3) by decide +kernel) lk_RL_9 (by omega) (by decide) (Nat.le_of_ble_eq_true rfl) ⟨Nat.le_of_ble_eq_true rfl, Nat.le_of_ble_eq_true rfl⟩ (c8_init (fun M1 f1 f2 f3 f4 f5 f6 f7 f8 f9 f10 _ => ?_))
  show am_At mL 7 _ [vr 0] (SH.take 86, 86, 7178) M1 Q
  refine s_astore_n (show decode (am_cc mL) 7 = .ok (.astore_n 1, 1) by decide +kernel) (by decide) ?_
  refine s_new (ci := 9) (N := 36) (ty0 := tyX9) (by decide) (show decode (am_cc mL) 8 = .ok (.new 10, 3) by decide +kernel) (by decide) rfl jnX9 tyX9_ok (by decide +kernel) lc_RL_10 lm_9.1 lm_9.2 ⟨Nat.le_of_ble_eq_true rfl, Nat.le_of_ble_eq_true rfl⟩ ?_
  rw [show (((SH.take 86, 86, 7178) : am_K).1.length : Int) = 86 by decide +kernel]
  refine am_KX2 (X' := K9z) (c' := 87) (s' := 7214) (by decide +kernel) rfl rfl ?_
  refine s_dupr (show decode (am_cc mL) 11 = .ok (.dup, 1) by decide +kernel) ?_
  refine s_callI (a := 86) (as := []) (stk := [vr 86]) (show decode (am_cc mL) 12 = .ok (.invokespecial 12, 3) by decide +kernel) lk_RL_12 (by omega) (by decide) (Nat.le_of_ble_eq_true rfl) ⟨Nat.le_of_ble_eq_true rfl, Nat.le_of_ble_eq_true rfl⟩ (c9_init (fun M2 g _ => ?_))
  show am_At mL 15 _ [vr 86] (SH, 113, 141272) (bg M2 2) Q
  refine s_astore_n (show decode (am_cc mL) 15 = .ok (.astore_n 2, 1) by decide +kernel) (by decide) ?_
  refine s_iconst (show decode (am_cc mL) 16 = .ok (.iconst 0, 1) by decide +kernel) (by unfold am_i32; omega) ?_
  refine s_istore_n (show decode (am_cc mL) 17 = .ok (.istore_n 3, 1) by decide +kernel) (by decide) ?_
  have e : ∀ b j : Int, b < 86 → bg M2 2 b j = M1 b j := fun b j hb => by rw [bgo hb, g b j (by omega), am_nw_old (by omega)]
  have hI : Inv (fun j => M1 (-2) j) (bg M2 2) := by
    refine Inv_new (k := 2) (by omega) ((e 0 0 (by omega)).trans f2) ?_ (fun s hs => ⟨fun j hj => (e _ j (by omega)).trans ((f6 s hs).1 j hj), fun j hj => (e _ j (by omega)).trans ((f6 s hs).2 j hj)⟩) (fun p hp => ⟨fun j hj => ⟨(e _ j (by omega)).trans ((f7 p hp).1 j hj).1, (e _ j (by omega)).trans ((f7 p hp).1 j hj).2⟩, fun j hj => (e _ j (by omega)).trans ((f7 p hp).2 j hj)⟩) (fun j hj => ?_) (fun j hj => ?_) (fun j hj => ⟨?_, ?_⟩) (fun j hj => ?_) (fun j hj => ⟨(e 1 j (by omega)).trans (f4 j), ?_⟩) ((e 0 1 (by omega)).trans f3) ((e 54 1 (by omega)).trans f5) am_up_hit ?_ ?_ (fun j => e (-2) j (by omega))
    · unfold bg bg2 bg1
      rw [am_upn (Or.inr (by omega)), am_fl_out (by omega), am_fl_out (by omega), am_fl_out (by omega), am_fl_out (by omega), am_fl_out (by omega), am_fl_out (by omega), am_up_hit]
    · unfold bg bg2 bg1
      rw [am_upn (Or.inl (by omega)), am_fl_out (by omega), am_fl_out (by omega), am_fl_out (by omega), am_fl_out (by omega), am_fl_out (by omega), am_fl_in hj]
    · unfold bg bg2 bg1
      rw [am_upn (Or.inl (by omega)), am_fl_out (by omega), am_fl_out (by omega), am_fl_out (by omega), am_fl_out (by omega), am_fl_in hj]
    · unfold bg bg2
      rw [am_upn (Or.inl (by omega)), am_fl_out (by omega), am_fl_out (by omega), am_fl_out (by omega), am_fl_in hj]
    · unfold bg bg2
      rw [am_upn (Or.inl (by omega)), am_fl_out (by omega), am_fl_out (by omega), am_fl_in hj]
    · unfold bg
      rw [am_upn (Or.inl (by omega)), am_fl_out (by omega), am_fl_in hj]
    · unfold bg
      rw [am_upn (Or.inl (by omega)), am_fl_in hj]
    · refine ⟨fun j hj => ?_, fun j hj => ?_⟩
      · rw [e 45 j (by omega), e 48 j (by omega), e 49 j (by omega)]
        exact f8 j hj
      · rw [e 46 j (by omega), e 50 j (by omega)]
        exact f9 j hj
    · intro j hj
      rw [e 52 j (by omega), f10 j hj]
      omega
  exact L_loop hlen kq 3072 0 (bg M2 2) hI (by rw [e (-2) (-1) (by omega), f1, am_nw_old (by decide)]; exact hm) (by omega) (by omega) (by omega)
