/-! ===== the calls, two by two: the sheet; letters that stay; programs that agree ===== -/
section
variable {S : Int → Int} {M : am_M} {Q : Option am_V → am_M → Prop}
theorem am_sm_pt {f g : Int → Int} {p : Int} {N : Nat} (hp : 0 ≤ p ∧ p < N) (h : ∀ j : Int, j ≠ p → g j = f j) : am_sm g N = am_sm f N + (g p - f p) := by
  have key : ∀ n : Nat, am_sm g n = am_sm f n + if p < n then g p - f p else 0 := by
    intro n
    induction n with
    | zero =>
      show (0 : Int) = 0 + _
      rw [if_neg (by omega)]
      rfl
    | succ n ih =>
      show am_sm g n + g n = am_sm f n + f n + _
      rw [ih]
      by_cases e : p = (n : Int)
      · rw [if_neg (by omega), if_pos (by omega), e]
        omega
      · rw [h n (fun he => e he.symm)]
        by_cases e2 : p < (n : Int)
        · rw [if_pos e2, if_pos (by omega)]
          omega
        · rw [if_neg e2, if_neg (by omega)]
          omega
  rw [key N, if_pos hp.2]
theorem sheet_sum (hI : Inv S M) : 0 ≤ am_sm (M 99) 1296 ∧ am_sm (M 99) 1296 ≤ 1296 := by
  have := am_sm_bnd (f := M 99) (c := 1) 1296 (fun j h0 h1 => by have := (hI.2.2.1.1 j ⟨h0, by omega⟩).2; omega)
  omega
theorem e_sheet (hI : Inv S M) {x v : Int} (hv : v = 0 ∨ v = 1) : am_CallN m8_sheet [vr 0, vi x, vi v] KS M (fun r M1 => EQ m9_sheet [vr 86, vi x, vi v] S r M1 ∧ am_sh m8_sheet r) := by
  have hS99 : ∀ x : Int, 0 ≤ x ∧ x < 1296 → M 99 x = 0 ∨ M 99 x = 1 := fun x hx => (hI.2.2.1.1 x hx).2
  have hss := sheet_sum hI
  refine am_callN_sh (by decide +kernel) rfl rfl (Nat.le_of_ble_eq_true rfl) ?_
  refine g8_sheet_0 ?_
  by_cases hx : 0 ≤ x ∧ x < 1296
  · have e1 := (hI.2.2.1.1 x hx).1
    have h01 := hS99 x hx
    have e0 := hI.2.2.1.2
    refine c8_in hx ?_
    refine g8_sheet_7 (fun _ => ?_) (fun c => by exfalso; omega)
    refine g8_sheet_13 hx.1 hx.2 ?_
    refine c8_oneIf hv ?_
    have f1 : am_up M 1 x v 1 x = v := am_up_hit
    have f2 : am_up M 1 x v 0 1 = M 0 1 := am_upn (Or.inl (by omega))
    refine g8_sheet_29 kd1 hx.1 hx.2 hx.1 hx.2 (by rw [f1]; omega) (by rw [f1, f2]; omega) ?_
    rw [f1, f2, e1]
    have ez : ∀ b j : Int, b ≠ 1 → (b ≠ 0 ∨ j ≠ 1) → am_up (am_up M 1 x v) 0 1 (M 0 1 + (v - M 99 x)) b j = M b j := fun b j h1 h2 => by rw [am_upn h2, am_upn (Or.inl h1)]
    refine c9_sheet hv (fun y hy => by rw [ez 99 y (by omega) (by omega)]; exact hS99 y hy) (fun _ => ⟨?_, ?_⟩) (fun h => absurd hx h)
    · rw [ez 99 x (by omega) (by omega)]
    · obtain ⟨L, hL⟩ := hI.2.2.2.1
      have g0 : ∀ b j : Int, b ≠ 99 → b ≠ 86 → b ≠ 1 → b ≠ 0 → am_up (am_up (am_up (am_up M 1 x v) 0 1 (M 0 1 + (v - M 99 x))) 86 0 0) 99 x v b j = M b j := fun b j h1 h2 h3 h4 => by rw [am_upn (Or.inl h1), am_upn (Or.inl h2), ez b j h3 (Or.inl h4)]
      have g1 : ∀ j : Int, j ≠ 0 → am_up (am_up (am_up (am_up M 1 x v) 0 1 (M 0 1 + (v - M 99 x))) 86 0 0) 99 x v 86 j = M 86 j := fun j h1 => by rw [am_upn (Or.inl (by omega)), am_upn (Or.inr h1), ez 86 j (by omega) (by omega)]
      have g99 : ∀ j : Int, am_up (am_up (am_up (am_up M 1 x v) 0 1 (M 0 1 + (v - M 99 x))) 86 0 0) 99 x v 99 j = if j = x then v else M 99 j := by
        intro j
        by_cases e : j = x
        · rw [if_pos e, e, am_up_hit]
        · rw [if_neg e, am_upn (Or.inr e), am_upn (Or.inl (by omega)), ez 99 j (by omega) (by omega)]
      refine Inv_rest (L := L) hI ⟨fun j hj => ?_, ?_⟩ ⟨⟨?_, fun i hi => ?_⟩, ⟨?_, fun i hi => ?_⟩, fun y hy => ?_, hL.2.2.2⟩ (fun b j hq h1 h2 h3 h4 h5 h6 h7 => ?_)
      · rw [g99 j]
        by_cases e : j = x
        · rw [if_pos e, e, am_upn (Or.inl (by omega)), am_upn (Or.inl (by omega)), am_upn (Or.inl (by omega)), am_up_hit]
          exact ⟨rfl, hv⟩
        · rw [if_neg e, am_upn (Or.inl (by omega)), am_upn (Or.inl (by omega)), am_upn (Or.inl (by omega)), am_upn (Or.inr e)]
          exact hI.2.2.1.1 j hj
      · rw [am_upn (Or.inl (by omega)), am_upn (Or.inl (by omega)), am_up_hit, am_sm_pt (f := M 99) (p := x) (N := 1296) hx (fun j hj => by rw [g99, if_neg hj]), g99, if_pos rfl, e0]
      · rw [g0 54 1 (by omega) (by omega) (by omega) (by omega)]
        exact hL.1.1
      · rw [g0 55 i (by omega) (by omega) (by omega) (by omega)]
        exact hL.1.2 i hi
      · rw [g1 31 (by omega)]
        exact hL.2.1.1
      · rw [g0 109 i (by omega) (by omega) (by omega) (by omega)]
        exact hL.2.1.2 i hi
      · rw [g1 1 (by omega)]
        exact hL.2.2.1 y hy
      · rw [am_upn (Or.inl h2), am_upn (by unfold kq kp at hq; omega), ez b j h1 h3]
  · refine c8_out (by omega) ?_
    refine g8_sheet_7 (fun c => by exfalso; omega) (fun _ => ?_)
    exact g8_sheet_10 (c9_sheet hv hS99 (fun h => absurd h hx) (fun _ => ⟨rfl, hI.of (fr9.up (by unfold kp; omega)).x⟩))
theorem e_write (hI : Inv S M) {a p q b : Int} : am_CallN m8_write [vr 0, vi a, vi p, vi q, vi b] KS M (fun r M1 => EQ m9_write [vr 86, vi a, vi p, vi q, vi b] S r M1 ∧ am_sh m8_write r) := by
  refine am_callN_sh (by decide +kernel) rfl rfl (Nat.le_of_ble_eq_true rfl) ?_
  refine g8_write_0 ?_
  refine c8_claimOf hI (fun hv M1 hc hf1 => ?_) (fun hv => ?_)
  · have hok := cval.ok hI hv
    have hB := Lq_ok hok
    refine g8_write_9 (fun _ => ?_) (fun c => by exfalso; omega)
    refine g8_write_18 kd66 ?_
    refine c2_explore hc hok (fun M2 hR hf2 => ?_)
    change RC M2 (Lq (cm M a p q b) (M 86 1)) at hR
    have hf := hf1.tr hf2.f6
    have hB' := hB
    generalize hqq : Lq (cm M a p q b) (M 86 1) = qq at hR hB
    refine g8_write_23 ?_
    refine am_forR (fun i ls M3 => ls = [some (vr 0), some (vi a), some (vi p), some (vi q), some (vi b), some (vr 66), some (vi i)] ∧ (∀ j : Int, 0 ≤ j ∧ j < i → M3 1 j = mt qq j) ∧ ∀ d j : Int, d ≠ 1 → M3 d j = M2 d j) 0 1296 (by omega) ⟨rfl, fun j hj => by exfalso; omega, fun _ _ _ => rfl⟩ ?_ ?_
    · rintro ls M3 ⟨rfl, h1, h2⟩
      have hR3 : RC M3 qq := ⟨by rw [h2 66 2 (by omega)]; exact hR.1, fun j hj => by rw [h2 68 j (by omega)]; exact hR.2.1 j hj, fun x hx => by rw [h2 67 x (by omega)]; exact hR.2.2 x hx⟩
      refine g8_write_26 (fun _ => ?_) (fun c => by exfalso; omega)
      refine g8_write_57 kd66 ?_
      refine c2_metPlaces hR3 ?_
      refine g8_write_63 kd0 ?_
      rw [am_up_hit]
      have ez : ∀ d j : Int, d ≠ 1 → d ≠ 0 → d ≠ 66 → d ≠ 67 → d ≠ 68 → am_up M3 0 1 qq.length d j = M d j := fun d j q1 q2 q3 q4 q5 => by rw [am_upn (Or.inl q2), h2 d j q1, hf d j q3 q4 q5]
      have hz : fz M (am_up M3 0 1 qq.length) := fun d j hd => ez d j (by omega) (by omega) (by omega) (by omega) (by omega)
      refine c9_write (hI.1.ofz hz) (fun _ M4 g1 g2 => ⟨?_, ?_⟩) (fun h => absurd hv h)
      · rw [hz.gcm, hz 86 1 (by omega), hqq]
      · rw [hz.gcm, hz 86 1 (by omega), hqq] at g2
        obtain ⟨L, hL⟩ := hI.2.2.2.1
        have g3 : ∀ d j : Int, kp d j → d ≠ 99 → d ≠ 1 → d ≠ 0 → d ≠ 66 → d ≠ 67 → d ≠ 68 → M4 d j = M d j := fun d j q0 q1 q2 q3 q4 q5 q6 => by rw [g1 d j q0 q1, ez d j q2 q3 q4 q5 q6]
        refine Inv_rest (L := L) hI ⟨fun j hj => ?_, ?_⟩ ⟨⟨?_, fun i hi => ?_⟩, ⟨?_, fun i hi => ?_⟩, fun y hy => ?_, hL.2.2.2⟩ (fun d j hq q1 q2 q3 q4 q5 q6 q7 => ?_)
        · rw [g1 1 j (by unfold kp; omega) (by omega), am_upn (Or.inl (by omega)), h1 j hj, g2 j hj]
          refine ⟨rfl, ?_⟩
          split
          · exact Or.inl rfl
          · exact Or.inr rfl
        · rw [g1 0 1 (by unfold kp; omega) (by omega), am_up_hit, ← hB.sum]
          exact am_sm_congr 1296 (fun j q0 q1 => (g2 j ⟨q0, by omega⟩).symm)
        · rw [g3 54 1 (by unfold kp; omega) (by omega) (by omega) (by omega) (by omega) (by omega) (by omega)]
          exact hL.1.1
        · rw [g3 55 i (by unfold kp; omega) (by omega) (by omega) (by omega) (by omega) (by omega) (by omega)]
          exact hL.1.2 i hi
        · rw [g3 86 31 (by unfold kp; omega) (by omega) (by omega) (by omega) (by omega) (by omega) (by omega)]
          exact hL.2.1.1
        · rw [g3 109 i (by unfold kp; omega) (by omega) (by omega) (by omega) (by omega) (by omega) (by omega)]
          exact hL.2.1.2 i hi
        · rw [g3 86 1 (by unfold kp; omega) (by omega) (by omega) (by omega) (by omega) (by omega) (by omega)]
          exact hL.2.2.1 y hy
        · rw [g1 d j hq.2.2 q2, am_upn q3, h2 d j q1]
          exact hf d j (by unfold kq at hq; omega) (by unfold kq at hq; omega) (by unfold kq at hq; omega)
    · rintro i ls M3 hi0 hi1 ⟨rfl, h1, h2⟩ ih
      have hR3 : RC M3 qq := ⟨by rw [h2 66 2 (by omega)]; exact hR.1, fun j hj => by rw [h2 68 j (by omega)]; exact hR.2.1 j hj, fun x hx => by rw [h2 67 x (by omega)]; exact hR.2.2 x hx⟩
      refine g8_write_26 (fun c => by exfalso; omega) (fun _ => ?_)
      refine g8_write_34 kd66 ?_
      refine c2_isMet hR3 ⟨hi0, hi1⟩ ?_
      refine g8_write_47 ?_
      refine c8_oneIf (by split <;> omega) ?_
      refine g8_write_50 kd1 hi0 hi1 (by omega) ?_
      refine ih _ _ ⟨rfl, fun j hj => ?_, fun d j hd => ?_⟩
      · by_cases e : j = i
        · rw [e, am_up_hit]
          rfl
        · rw [am_upn (Or.inr e)]
          exact h1 j (by omega)
      · rw [am_upn (Or.inl hd)]
        exact h2 d j hd
  · refine g8_write_9 (fun c => absurd rfl c) (fun _ => ?_)
    exact g8_write_16 (c9_write hI.1 (fun h => absurd h hv) (fun _ M3 hf3 => ⟨rfl, hI.of hf3.x⟩))
theorem fB.x {M M' : am_M} (h : fB M M') : fx M M' := fun b j hq => h b j (by unfold kq at hq; omega) (by unfold kq at hq; omega) (by unfold kq at hq; omega) (by unfold kq at hq; omega) (by unfold kq at hq; omega) (Or.inl (by unfold kq at hq; omega))
theorem fB.z {M M' : am_M} (h : fB M M') : fz M M' := fun b j hb => h b j (by omega) (by omega) (by omega) (by omega) (by omega) (Or.inl (by omega))
theorem fG.x {M M' : am_M} (h : fG M M') : fx M M' := fun b j hq => h b j (by unfold kq at hq; omega)
theorem fG.z {M M' : am_M} (h : fG M M') : fz M M' := fun b j hb => h b j (by omega)
/-- stays and witness share their way to the shortest one -/
theorem e_stays (hI : Inv S M) {s p l : Int} : am_CallN m8_stays [vr 0, vi s, vi p, vi l] KS M (fun r M1 => EQ m9_stays [vr 86, vi s, vi p, vi l] S r M1 ∧ am_sh m8_stays r) := by
  have hk := hI.1.1
  have hk0 : M 0 0 = M 86 1 := hI.2.1.1
  have bad : ¬ ((0 ≤ s ∧ s ≤ 7) ∧ (0 ≤ p ∧ p ≤ 3) ∧ (0 ≤ l ∧ l < M 86 1)) → EQ m9_stays [vr 86, vi s, vi p, vi l] S (some (vi (-1))) M := fun h => c9_stays hI.1 (fun h' => absurd h' h) (fun _ M' hf => ⟨rfl, hI.of hf.x⟩)
  refine am_callN_sh (by decide +kernel) rfl rfl (Nat.le_of_ble_eq_true rfl) ?_
  refine g8_stays_0 ?_
  have r1 : ∀ x : Int, (x = -1 ∧ ¬ (0 ≤ s ∧ s ≤ 7)) ∨ (x = 3 + 3 * s ∧ 0 ≤ s ∧ s ≤ 7) → am_AtN m8_stays 5 [some (vr 0), some (vi s), some (vi p), some (vi l), none, none] [vr x] KS M (EQ m9_stays [vr 86, vi s, vi p, vi l] S) := by
    intro x hx
    refine g8_stays_5 ?_
    have r2 : ∀ y : Int, (y = -1 ∧ ¬ (0 ≤ p ∧ p ≤ 3)) ∨ (y = 28 + 4 * p ∧ 0 ≤ p ∧ p ≤ 3) → am_AtN m8_stays 12 [some (vr 0), some (vi s), some (vi p), some (vi l), some (vr x), none] [vr y] KS M (EQ m9_stays [vr 86, vi s, vi p, vi l] S) := by
      intro y hy
      refine g8_stays_12 (fun c => g8_stays_35 (bad (by omega))) (fun c1 => ?_)
      refine g8_stays_19 (fun c => g8_stays_35 (bad (by omega))) (fun c2 => ?_)
      refine g8_stays_24 ?_
      by_cases hl : 0 ≤ l ∧ l < M 0 0
      · have hs : 0 ≤ s ∧ s ≤ 7 := by omega
        have hp : 0 ≤ p ∧ p ≤ 3 := by omega
        obtain rfl : x = 3 + 3 * s := by omega
        obtain rfl : y = 28 + 4 * p := by omega
        refine c8_in hl ?_
        refine g8_stays_32 (fun _ => ?_) (fun c => by exfalso; omega)
        refine g8_stays_37 ?_
        rw [hk0]
        refine c1_shortestUneven (hI.s hs).s (hI.p hp) (hI.1.sok hs) (hI.1.pok hp) hk (fun r M1 hr hf1 => ?_)
        have fin : ∀ v : Int, v = (if r = -9 then 1 else 0) → EQ m9_stays [vr 86, vi s, vi p, vi l] S (some (vi v)) M1 := by
          intro v hv
          refine c9_stays (hI.1.ofz hf1.z) (fun _ r' hr' M2 hf2 => ⟨?_, (hI.of hf1.x).of hf2.x⟩) (fun h => absurd ⟨hs, hp, by rw [hf1.z 86 1 (by omega)]; omega⟩ h)
          rw [hf1.z.gsm, hf1.z.gpm, hf1.z 86 1 (by omega)] at hr'
          rw [← SU_SV hr hr', hv]
        refine g8_stays_53 (fun c => ?_) (fun c => ?_)
        · refine g8_stays_62 (g8_stays_63 (c8_oneIf (Or.inl rfl) (g8_stays_66 (fin 0 ?_))))
          rw [if_neg c]
        · refine g8_stays_58 (g8_stays_63 (c8_oneIf (Or.inr rfl) (g8_stays_66 (fin 1 ?_))))
          rw [if_pos c]
      · refine c8_out hl ?_
        refine g8_stays_32 (fun c => by exfalso; omega) (fun _ => ?_)
        exact g8_stays_35 (bad (by omega))
    exact c8_programOf (fun h => r2 _ (Or.inr ⟨rfl, h⟩)) (fun h => r2 _ (Or.inl ⟨rfl, h⟩))
  exact c8_sentenceOf (fun h => r1 _ (Or.inr ⟨rfl, h⟩)) (fun h => r1 _ (Or.inl ⟨rfl, h⟩))
theorem e_witness (hI : Inv S M) {s p l : Int} : am_CallN m8_witness [vr 0, vi s, vi p, vi l] KS M (fun r M1 => EQ m9_witness [vr 86, vi s, vi p, vi l] S r M1 ∧ am_sh m8_witness r) := by
  have hk := hI.1.1
  have hk0 : M 0 0 = M 86 1 := hI.2.1.1
  have bad : ¬ ((0 ≤ s ∧ s ≤ 7) ∧ (0 ≤ p ∧ p ≤ 3) ∧ (0 ≤ l ∧ l < M 86 1)) → EQ m9_witness [vr 86, vi s, vi p, vi l] S (some (vi (-1))) M := fun h => c9_witness hI.1 (fun h' => absurd h' h) (fun _ M' hf => ⟨rfl, hI.of hf.x⟩)
  refine am_callN_sh (by decide +kernel) rfl rfl (Nat.le_of_ble_eq_true rfl) ?_
  refine g8_witness_0 ?_
  have r1 : ∀ x : Int, (x = -1 ∧ ¬ (0 ≤ s ∧ s ≤ 7)) ∨ (x = 3 + 3 * s ∧ 0 ≤ s ∧ s ≤ 7) → am_AtN m8_witness 5 [some (vr 0), some (vi s), some (vi p), some (vi l), none, none] [vr x] KS M (EQ m9_witness [vr 86, vi s, vi p, vi l] S) := by
    intro x hx
    refine g8_witness_5 ?_
    have r2 : ∀ y : Int, (y = -1 ∧ ¬ (0 ≤ p ∧ p ≤ 3)) ∨ (y = 28 + 4 * p ∧ 0 ≤ p ∧ p ≤ 3) → am_AtN m8_witness 12 [some (vr 0), some (vi s), some (vi p), some (vi l), some (vr x), none] [vr y] KS M (EQ m9_witness [vr 86, vi s, vi p, vi l] S) := by
      intro y hy
      refine g8_witness_12 (fun c => g8_witness_35 (bad (by omega))) (fun c1 => ?_)
      refine g8_witness_19 (fun c => g8_witness_35 (bad (by omega))) (fun c2 => ?_)
      refine g8_witness_24 ?_
      by_cases hl : 0 ≤ l ∧ l < M 0 0
      · have hs : 0 ≤ s ∧ s ≤ 7 := by omega
        have hp : 0 ≤ p ∧ p ≤ 3 := by omega
        obtain rfl : x = 3 + 3 * s := by omega
        obtain rfl : y = 28 + 4 * p := by omega
        refine c8_in hl ?_
        refine g8_witness_32 (fun _ => ?_) (fun c => by exfalso; omega)
        refine g8_witness_37 ?_
        rw [hk0]
        refine c1_shortestUneven (hI.s hs).s (hI.p hp) (hI.1.sok hs) (hI.1.pok hp) hk (fun r M1 hr hf1 => ?_)
        refine g8_witness_53 ?_
        refine c9_witness (hI.1.ofz hf1.z) (fun _ r' hr' M2 hf2 => ⟨?_, (hI.of hf1.x).of hf2.x⟩) (fun h => absurd ⟨hs, hp, by rw [hf1.z 86 1 (by omega)]; omega⟩ h)
        rw [hf1.z.gsm, hf1.z.gpm, hf1.z 86 1 (by omega)] at hr'
        rw [← SU_SV hr hr']
      · refine c8_out hl ?_
        refine g8_witness_32 (fun c => by exfalso; omega) (fun _ => ?_)
        exact g8_witness_35 (bad (by omega))
    exact c8_programOf (fun h => r2 _ (Or.inr ⟨rfl, h⟩)) (fun h => r2 _ (Or.inl ⟨rfl, h⟩))
  exact c8_sentenceOf (fun h => r1 _ (Or.inr ⟨rfl, h⟩)) (fun h => r1 _ (Or.inl ⟨rfl, h⟩))
theorem e_agree (hI : Inv S M) {s p q : Int} : am_CallN m8_agree [vr 0, vi s, vi p, vi q] KS M (fun r M1 => EQ m9_agree [vr 86, vi s, vi p, vi q] S r M1 ∧ am_sh m8_agree r) := by
  have hk := hI.1.1
  have hk0 : M 0 0 = M 86 1 := hI.2.1.1
  have bad : ¬ ((0 ≤ s ∧ s ≤ 7) ∧ (0 ≤ p ∧ p ≤ 3) ∧ (0 ≤ q ∧ q ≤ 3)) → EQ m9_agree [vr 86, vi s, vi p, vi q] S (some (vi (-1))) M := fun h => c9_agree hI.1 (fun h' => absurd h' h) (fun h' => absurd h' h) (fun _ M' hf => ⟨rfl, hI.of hf.x⟩)
  refine am_callN_sh (by decide +kernel) rfl rfl (Nat.le_of_ble_eq_true rfl) ?_
  refine g8_agree_0 ?_
  have r1 : ∀ x : Int, (x = -1 ∧ ¬ (0 ≤ s ∧ s ≤ 7)) ∨ (x = 3 + 3 * s ∧ 0 ≤ s ∧ s ≤ 7) → am_AtN m8_agree 5 [some (vr 0), some (vi s), some (vi p), some (vi q), none, none, none] [vr x] KS M (EQ m9_agree [vr 86, vi s, vi p, vi q] S) := by
    intro x hx
    refine g8_agree_5 ?_
    have r2 : ∀ y : Int, (y = -1 ∧ ¬ (0 ≤ p ∧ p ≤ 3)) ∨ (y = 28 + 4 * p ∧ 0 ≤ p ∧ p ≤ 3) → am_AtN m8_agree 12 [some (vr 0), some (vi s), some (vi p), some (vi q), some (vr x), none, none] [vr y] KS M (EQ m9_agree [vr 86, vi s, vi p, vi q] S) := by
      intro y hy
      refine g8_agree_12 ?_
      have r3 : ∀ z : Int, (z = -1 ∧ ¬ (0 ≤ q ∧ q ≤ 3)) ∨ (z = 28 + 4 * q ∧ 0 ≤ q ∧ q ≤ 3) → am_AtN m8_agree 19 [some (vr 0), some (vi s), some (vi p), some (vi q), some (vr x), some (vr y), none] [vr z] KS M (EQ m9_agree [vr 86, vi s, vi p, vi q] S) := by
        intro z hz
        refine g8_agree_19 (fun c => g8_agree_36 (bad (by omega))) (fun c1 => ?_)
        refine g8_agree_26 (fun c => g8_agree_36 (bad (by omega))) (fun c2 => ?_)
        refine g8_agree_31 (fun c3 => ?_) (fun c => g8_agree_36 (bad (by omega)))
        have hs : 0 ≤ s ∧ s ≤ 7 := by omega
        have hp : 0 ≤ p ∧ p ≤ 3 := by omega
        have hq : 0 ≤ q ∧ q ≤ 3 := by omega
        obtain rfl : x = 3 + 3 * s := by omega
        obtain rfl : y = 28 + 4 * p := by omega
        obtain rfl : z = 28 + 4 * q := by omega
        refine g8_agree_38 ?_
        rw [hk0]
        have hgm : ∀ M1, fz M M1 → gm M1 s p q = (sm M s, pm M p, pm M q, M 86 1) := fun M1 hz1 => by
          unfold gm
          rw [hz1.gsm, hz1.gpm, hz1 86 1 (by omega)]
        refine c0_isSo (hI.s hs).s (hI.p hp) (hI.p hq) (gm_ok hI.1 hs hp hq) (fun hA M1 hf1 => ?_) (fun hA M1 hf1 => ?_)
        · refine g8_agree_55 ?_
          refine c8_oneIf (Or.inr rfl) ?_
          refine g8_agree_58 ?_
          refine c9_agree (hI.1.ofz hf1.z) (fun _ _ M2 hf2 => ⟨rfl, (hI.of hf1.x).of hf2.x⟩) (fun _ h => absurd hA (by rw [hgm M1 hf1.z] at h; exact h)) (fun h => absurd ⟨hs, hp, hq⟩ h)
        · refine g8_agree_55 ?_
          refine c8_oneIf (Or.inl rfl) ?_
          refine g8_agree_58 ?_
          refine c9_agree (hI.1.ofz hf1.z) (fun _ h => absurd (by rw [hgm M1 hf1.z] at h; exact h) hA) (fun _ _ M2 hf2 => ⟨rfl, (hI.of hf1.x).of hf2.x⟩) (fun h => absurd ⟨hs, hp, hq⟩ h)
      exact c8_programOf (fun h => r3 _ (Or.inr ⟨rfl, h⟩)) (fun h => r3 _ (Or.inl ⟨rfl, h⟩))
    exact c8_programOf (fun h => r2 _ (Or.inr ⟨rfl, h⟩)) (fun h => r2 _ (Or.inl ⟨rfl, h⟩))
  exact c8_sentenceOf (fun h => r1 _ (Or.inr ⟨rfl, h⟩)) (fun h => r1 _ (Or.inl ⟨rfl, h⟩))
end
