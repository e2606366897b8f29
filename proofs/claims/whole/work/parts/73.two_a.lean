/-! ===== the calls, two by two: not, both, make ===== -/
section
variable {S : Int → Int} {M : am_M}
theorem e_not (hI : Inv S M) {s o : Int} : am_CallN m8_not [vr 0, vi s, vi o] KS M (fun r M1 => EQ m9_not [vr 86, vi s, vi o] S r M1 ∧ am_sh m8_not r) := by
  have hH := hI.1.2.2.1
  have bad : ¬ ((0 ≤ s ∧ s ≤ 7) ∧ (0 ≤ o ∧ o ≤ 7)) → EQ m9_not [vr 86, vi s, vi o] S (some (vi (-1))) M := fun h => c9_not hH (fun h' => absurd h' h) (fun _ => ⟨rfl, hI.of (fr9.up (by unfold kp; omega)).x⟩)
  refine am_callN_sh (by decide +kernel) rfl rfl (Nat.le_of_ble_eq_true rfl) ?_
  refine g8_not_0 ?_
  refine c8_sentenceOf (fun hs => ?_) (fun hs => ?_)
  · obtain ⟨k1, k2, k3, -⟩ := kdS hs
    refine g8_not_5 ?_
    refine c8_sentenceOf (fun ho => ?_) (fun ho => ?_)
    · obtain ⟨q1, q2, q3, -⟩ := kdS ho
      refine g8_not_11 (fun c => by exfalso; omega) (fun _ => ?_)
      refine g8_not_17 (fun _ => ?_) (fun c => by exfalso; omega)
      refine g8_not_24 k1 ?_
      refine c6_copy k1 k2 k3 q1 q2 q3 ?_
      refine g8_not_30 k1 ?_
      have ec : ∀ j : Int, 0 ≤ j ∧ j < 6 → am_cp (am_cp M (4 + 3 * s) (4 + 3 * o) 24) (5 + 3 * s) (5 + 3 * o) 6 (5 + 3 * s) j = M 88 (6 * o + j) := by
        intro j hj
        unfold am_cp
        rw [if_pos (by omega), if_neg (by omega)]
        exact hI.2.1.2.2.1 o j ho hj
      have en : ∀ p x : Int, 0 ≤ p ∧ p < 6 → 0 ≤ x ∧ x < 4 → am_cp (am_cp M (4 + 3 * s) (4 + 3 * o) 24) (5 + 3 * s) (5 + 3 * o) 6 (4 + 3 * s) (p * 4 + x) = M 87 (24 * o + 4 * p + x) := by
        intro p x hp hx
        unfold am_cp
        rw [if_neg (by omega), if_pos (by omega)]
        exact hI.2.1.2.1 o p x ho hp hx
      have ez : ∀ b j : Int, b ≠ 4 + 3 * s → b ≠ 5 + 3 * s → am_cp (am_cp M (4 + 3 * s) (4 + 3 * o) 24) (5 + 3 * s) (5 + 3 * o) 6 b j = M b j := by
        intro b j h1 h2
        unfold am_cp
        rw [if_neg (by omega), if_neg (by omega)]
      generalize am_cp (am_cp M (4 + 3 * s) (4 + 3 * o) 24) (5 + 3 * s) (5 + 3 * o) 6 = Mc at ec en ez
      refine c6_turnRound k1 k2 k3 (fun j h0 h1 => by rw [ec j ⟨h0, h1⟩]; exact hH _ (by omega)) ?_
      refine g8_not_34 ?_
      have e1 : ∀ b j : Int, b ≠ 4 + 3 * s → b ≠ 5 + 3 * s → am_fl Mc (5 + 3 * s) 0 6 (fun j => 1 - Mc (5 + 3 * s) j) b j = M b j := fun b j h1 h2 => by rw [am_fl_out (by omega), ez b j h1 h2]
      have e88 : ∀ j : Int, am_fl Mc (5 + 3 * s) 0 6 (fun j => 1 - Mc (5 + 3 * s) j) 88 j = M 88 j := fun j => e1 88 j (by omega) (by omega)
      have e87 : ∀ j : Int, am_fl Mc (5 + 3 * s) 0 6 (fun j => 1 - Mc (5 + 3 * s) j) 87 j = M 87 j := fun j => e1 87 j (by omega) (by omega)
      have e4 : ∀ p x : Int, 0 ≤ p ∧ p < 6 → 0 ≤ x ∧ x < 4 → am_fl Mc (5 + 3 * s) 0 6 (fun j => 1 - Mc (5 + 3 * s) j) (4 + 3 * s) (p * 4 + x) = M 87 (24 * o + 4 * p + x) := fun p x hp hx => by rw [am_fl_out (by omega), en p x hp hx]
      have e5 : ∀ p : Int, 0 ≤ p ∧ p < 6 → am_fl Mc (5 + 3 * s) 0 6 (fun j => 1 - Mc (5 + 3 * s) j) (5 + 3 * s) p = 1 - M 88 (6 * o + p) := fun p hp => by rw [am_fl_in hp, ec p hp]
      have ev : am_sm (fun j => 1 - Mc (5 + 3 * s) j) 6 = am_sm (fun j => 1 - M 88 (6 * o + j)) 6 := am_sm_congr 6 (fun j h0 h1 => by show 1 - Mc (5 + 3 * s) j = 1 - M 88 (6 * o + j); rw [ec j ⟨h0, by omega⟩])
      rw [ev]
      generalize am_fl Mc (5 + 3 * s) 0 6 (fun j => 1 - Mc (5 + 3 * s) j) = M1 at e1 e88 e87 e4 e5
      refine c9_not (fun j hj => by rw [e88]; exact hH j hj) (fun _ => ⟨?_, ?_⟩) (fun h => absurd ⟨hs, ho⟩ h)
      · have : am_sm (fun j => 1 - M1 88 (6 * o + j)) 6 = am_sm (fun j => 1 - M 88 (6 * o + j)) 6 := am_sm_congr 6 (fun j _ _ => by show 1 - M1 88 (6 * o + j) = 1 - M 88 (6 * o + j); rw [e88])
        rw [this]
      · have e0 : ∀ b j : Int, b ≠ 86 → am_up M1 86 0 0 b j = M1 b j := fun b j hb => am_upn (Or.inl hb)
        refine Inv_sent (s := s) (N := fun p x => M 87 (24 * o + 4 * p + x)) (H := fun p => 1 - M 88 (6 * o + p)) hI hs (fun p x hp hx => hI.1.2.1 _ (by omega)) (fun p hp => ?_) (fun p x hp hx => ?_) (fun p hp => ?_) (fun p x hp hx => ?_) (fun p hp => ?_) (fun j hj => ?_) (fun b j hq h1 h2 h3 h4 h5 => ?_)
        · have := hH (6 * o + p) (by omega)
          show 1 - M 88 (6 * o + p) = 0 ∨ 1 - M 88 (6 * o + p) = 1
          omega
        · unfold nt2 nt1
          rw [am_fl_out (by omega), am_fl_out (by omega), e0 _ _ (by omega)]
          exact e4 p x hp hx
        · unfold nt2 nt1
          rw [am_fl_out (by omega), am_fl_out (by omega), e0 _ _ (by omega)]
          exact e5 p hp
        · unfold nt2 nt1
          rw [am_fl_out (by omega), am_fl_in (by omega), e0 _ _ (by omega), e87]
          show M 87 (24 * o + (24 * s + 4 * p + x - 24 * s)) = M 87 (24 * o + 4 * p + x)
          rw [show 24 * o + (24 * s + 4 * p + x - 24 * s) = 24 * o + 4 * p + x by omega]
        · unfold nt2
          rw [am_fl_in (by omega), e0 _ _ (by omega), e88]
          show 1 - M 88 (6 * o + (6 * s + p - 6 * s)) = 1 - M 88 (6 * o + p)
          rw [show 6 * o + (6 * s + p - 6 * s) = 6 * o + p by omega]
        · unfold nt2 nt1
          rw [am_fl_out (by omega), am_fl_out (by omega), e0 _ _ (by omega), e1 52 j (by omega) (by omega)]
          exact hI.2.2.2.2.2.1 j hj
        · unfold nt2 nt1
          rw [am_fl_out (by omega), am_fl_out (by omega), am_upn (by unfold kq kp at hq; omega), e1 b j h2 h3]
    · refine g8_not_11 (fun c => by exfalso; omega) (fun _ => ?_)
      refine g8_not_17 (fun c => absurd rfl c) (fun _ => ?_)
      exact g8_not_22 (bad (fun h => ho h.2))
  · refine g8_not_5 ?_
    have fin : ∀ r : Int, am_AtN m8_not 11 [some (vr 0), some (vi s), some (vi o), some (vr (-1)), none] [vr r] KS M (EQ m9_not [vr 86, vi s, vi o] S) := fun r => g8_not_11 (fun _ => g8_not_22 (bad (fun h => hs h.1))) (fun c => absurd rfl c)
    exact c8_sentenceOf (fun _ => fin _) (fun _ => fin _)
theorem e_both (hI : Inv S M) {s a b : Int} : am_CallN m8_both [vr 0, vi s, vi a, vi b] KS M (fun r M1 => EQ m9_both [vr 86, vi s, vi a, vi b] S r M1 ∧ am_sh m8_both r) := by
  have hk := hI.1.1
  have hk0 : M 0 0 = M 86 1 := hI.2.1.1
  have bad : ¬ bval s a b → EQ m9_both [vr 86, vi s, vi a, vi b] S (some (vi (-1))) M := fun h => c9_both hI.1 (fun h' => absurd h' h) (fun h' => absurd h' h) (fun _ M' hf => ⟨rfl, hI.of hf.x⟩)
  have bad36 : ¬ bval s a b → ∀ x y z : Int, am_AtN m8_both 36 [some (vr 0), some (vi s), some (vi a), some (vi b), some (vr x), some (vr y), some (vr z)] [] KS M (EQ m9_both [vr 86, vi s, vi a, vi b] S) := fun h x y z => g8_both_36 (bad h)
  refine am_callN_sh (by decide +kernel) rfl rfl (Nat.le_of_ble_eq_true rfl) ?_
  refine g8_both_0 ?_
  have rest : ∀ x : Int, (x = -1 ∧ ¬ (0 ≤ s ∧ s ≤ 7)) ∨ (x = 3 + 3 * s ∧ 0 ≤ s ∧ s ≤ 7) → am_AtN m8_both 5 [some (vr 0), some (vi s), some (vi a), some (vi b), none, none, none] [vr x] KS M (EQ m9_both [vr 86, vi s, vi a, vi b] S) := by
    intro x hx
    refine g8_both_5 ?_
    have rest2 : ∀ y : Int, (y = -1 ∧ ¬ (0 ≤ a ∧ a ≤ 7)) ∨ (y = 3 + 3 * a ∧ 0 ≤ a ∧ a ≤ 7) → am_AtN m8_both 12 [some (vr 0), some (vi s), some (vi a), some (vi b), some (vr x), none, none] [vr y] KS M (EQ m9_both [vr 86, vi s, vi a, vi b] S) := by
      intro y hy
      refine g8_both_12 ?_
      have rest3 : ∀ z : Int, (z = -1 ∧ ¬ (0 ≤ b ∧ b ≤ 7)) ∨ (z = 3 + 3 * b ∧ 0 ≤ b ∧ b ≤ 7) → am_AtN m8_both 19 [some (vr 0), some (vi s), some (vi a), some (vi b), some (vr x), some (vr y), none] [vr z] KS M (EQ m9_both [vr 86, vi s, vi a, vi b] S) := by
        intro z hz
        refine g8_both_19 (fun c => bad36 (fun h => by unfold bval at h; omega) _ _ _) (fun c => ?_)
        refine g8_both_26 (fun c => bad36 (fun h => by unfold bval at h; omega) _ _ _) (fun c => ?_)
        refine g8_both_31 (fun c => ?_) (fun c => bad36 (fun h => by unfold bval at h; omega) _ _ _)
        have hs : 0 ≤ s ∧ s ≤ 7 := by omega
        have ha : 0 ≤ a ∧ a ≤ 7 := by omega
        have hb : 0 ≤ b ∧ b ≤ 7 := by omega
        obtain rfl : x = 3 + 3 * s := by omega
        obtain rfl : y = 3 + 3 * a := by omega
        obtain rfl : z = 3 + 3 * b := by omega
        obtain ⟨k1, k2, k3, -⟩ := kdS hs
        have oA := hI.1.sok ha
        have oB := hI.1.sok hb
        refine g8_both_38 ?_
        rw [hk0]
        refine c3_into hk k1 k2 k3 (by omega) (by omega) (hI.s ha) (hI.s hb) oA oB (fun hl M1 hf1 => ?_) (fun hl M1 h1 h2 hf1 => ?_)
        · refine g8_both_55 ?_
          have hz1 : fz M M1 := fun b j hb => hf1 b j (by omega) (by omega) (by omega) (by omega) (Or.inl (by omega))
          have hx1 : fx M M1 := fun b j hq => hf1 b j (by unfold kq at hq; omega) (by unfold kq at hq; omega) (by unfold kq at hq; omega) (by unfold kq at hq; omega) (Or.inl (by unfold kq at hq; omega))
          refine c9_both (hI.1.ofz hz1) (fun _ h => ?_) (fun _ _ M2 hf2 => ⟨rfl, (hI.of hx1).of hf2.x⟩) (fun h => absurd ⟨hs, ha, hb⟩ h)
          exfalso
          rw [hz1.gsm, hz1 86 1 (by omega)] at h
          omega
        · refine g8_both_55 ?_
          have hz1 : fz M M1 := fun b j hb => hf1 b j (by omega) (by omega) (by omega) (by omega) (Or.inl (by omega)) (by omega) (by omega)
          have hbo := bo_ok hk oA oB hl
          refine c9_both (hI.1.ofz hz1) (fun _ _ M2 q1 q2 q3 => ?_) (fun _ h => ?_) (fun h => absurd ⟨hs, ha, hb⟩ h)
          · rw [hz1.gsm, hz1 86 1 (by omega)] at q1 q2
            rw [hz1.gsm, hz1 86 1 (by omega)]
            refine ⟨rfl, Inv_sent (s := s) (N := (bo (M 86 1) (sm M a) (sm M b)).1) (H := (bo (M 86 1) (sm M a) (sm M b)).2) hI hs hbo.1 hbo.2 (fun p x hp hx => ?_) (fun p hp => ?_) q1 q2 (fun j hj => ?_) (fun c j hq h3 h4 h5 h6 h7 => ?_)⟩
            · rw [q3 _ _ (by unfold kp; omega) (by omega) (by omega)]
              exact h1 p x hp hx
            · rw [q3 _ _ (by unfold kp; omega) (by omega) (by omega)]
              exact h2 p hp
            · rw [q3 _ _ (by unfold kp; omega) (by omega) (by omega), hf1 52 j (by omega) (by omega) (by omega) (by omega) (Or.inl (by omega)) (by omega) (by omega)]
              exact hI.2.2.2.2.2.1 j hj
            · rw [q3 c j hq.2.2 h6 h7]
              exact hf1 c j (by unfold kq at hq; omega) (by unfold kq at hq; omega) (by unfold kq at hq; omega) (by unfold kq at hq; omega) (Or.inl (by unfold kq at hq; omega)) h4 h5
          · exfalso
            rw [hz1.gsm, hz1 86 1 (by omega)] at h
            omega
      exact c8_sentenceOf (fun h => rest3 _ (Or.inr ⟨rfl, h⟩)) (fun h => rest3 _ (Or.inl ⟨rfl, h⟩))
    exact c8_sentenceOf (fun h => rest2 _ (Or.inr ⟨rfl, h⟩)) (fun h => rest2 _ (Or.inl ⟨rfl, h⟩))
  exact c8_sentenceOf (fun h => rest _ (Or.inr ⟨rfl, h⟩)) (fun h => rest _ (Or.inl ⟨rfl, h⟩))
theorem e_make (hI : Inv S M) {s kind a : Int} : am_CallN m8_make [vr 0, vi s, vi kind, vi a] KS M (fun r M1 => EQ m9_make [vr 86, vi s, vi kind, vi a] S r M1 ∧ am_sh m8_make r) := by
  have hk := hI.1.1
  have hk0 : M 0 0 = M 86 1 := hI.2.1.1
  have bad1 : ¬ (0 ≤ s ∧ s ≤ 7) ∨ (lt_ kind ∧ ¬ (0 ≤ a ∧ a < M 86 1)) → EQ m9_make [vr 86, vi s, vi kind, vi a] S (some (vi (-1))) M := fun h => c9_make hI.1 (fun h1 h2 => by
      exfalso
      rcases h with h | h
      · exact h h1
      · exact h.2 (h2.2.1 h.1)) (fun _ M' hf => ⟨rfl, hI.of hf.x⟩) (fun h1 h2 _ => by
      exfalso
      rcases h with h | h
      · exact h h1
      · exact h2 h)
  have bad2 : (0 ≤ s ∧ s ≤ 7) → ¬ (lt_ kind ∧ ¬ (0 ≤ a ∧ a < M 86 1)) → (¬ (0 ≤ kind ∧ kind ≤ 7) ∨ (kind = 3 ∧ ¬ (1 ≤ a ∧ a ≤ 6))) → EQ m9_make [vr 86, vi s, vi kind, vi a] S (some (vi (-2))) M := fun h1 h2 h3 => c9_make hI.1 (fun _ h => by
      exfalso
      rcases h3 with h3 | h3
      · exact h3 h.1
      · exact h3.2 (h.2.2 h3.1)) (fun h => by
      exfalso
      rcases h with h | h
      · exact h h1
      · exact h2 h) (fun _ _ _ M' hf => ⟨rfl, hI.of hf.x⟩)
  refine am_callN_sh (by decide +kernel) rfl rfl (Nat.le_of_ble_eq_true rfl) ?_
  refine g8_make_0 ?_
  refine c8_sentenceOf (fun hs => ?_) (fun hs => ?_)
  · obtain ⟨k1, k2, k3, -⟩ := kdS hs
    refine g8_make_5 (fun _ => ?_) (fun c => by exfalso; omega)
    have body : kval kind a (M 86 1) → ∀ z : Int, am_AtN m8_make 91 [some (vr 0), some (vi s), some (vi kind), some (vi a), some (vr (3 + 3 * s)), some (vi z)] [] KS M (EQ m9_make [vr 86, vi s, vi kind, vi a] S) := by
      intro hv z
      refine g8_make_91 ?_
      rw [hk0]
      refine c6_draw kd51 kd52 kd53 (by omega) ?_
      have r1 : ∀ p x : Int, 0 ≤ p ∧ p < 6 → 0 ≤ x ∧ x < 4 → am_dr M 52 53 kind a (M 86 1) 6 (-1) 52 (p * 4 + x) = if x < M 86 1 then kn kind a p x (M 86 1) else M 52 (p * 4 + x) := by
        intro p x hp hx
        unfold am_dr
        rw [if_neg (by omega)]
        by_cases e : x < M 86 1
        · rw [if_pos (by omega), if_pos e, show (p * 4 + x) / 4 = p by omega, show (p * 4 + x) % 4 = x by omega]
        · rw [if_neg (by omega), if_neg e]
      have r2 : ∀ p : Int, 0 ≤ p ∧ p < 6 → am_dr M 52 53 kind a (M 86 1) 6 (-1) 53 p = kh kind p (M 86 1) := by
        intro p hp
        unfold am_dr
        rw [if_pos (by omega)]
      have r3 : ∀ b j : Int, b ≠ 52 → b ≠ 53 → am_dr M 52 53 kind a (M 86 1) 6 (-1) b j = M b j := by
        intro b j h1 h2
        unfold am_dr
        rw [if_neg (by omega), if_neg (by omega)]
      generalize am_dr M 52 53 kind a (M 86 1) 6 (-1) = M1 at r1 r2 r3
      have hD : isT M1 51 (fun p x => if x < M 86 1 then kn kind a p x (M 86 1) else M 52 (p * 4 + x), fun p => kh kind p (M 86 1)) := ⟨52, 53, by omega, by omega, kd51, kd52, kd53, r1, r2⟩
      have hZ : isT M1 44 (fun _ _ => 0, fun _ => 1) := ⟨45, 46, by omega, by omega, kd44, kd45, kd46, fun p x hp hx => by rw [r3 45 _ (by omega) (by omega)]; exact (hI.2.2.2.2.1.1 _ (by omega)).1, fun p hp => by rw [r3 46 _ (by omega) (by omega)]; exact (hI.2.2.2.2.1.2 p hp).1⟩
      have rD : ∀ p x : Int, 0 ≤ p ∧ p < 6 → 0 ≤ x ∧ x < 4 → 0 ≤ (if x < M 86 1 then kn kind a p x (M 86 1) else M 52 (p * 4 + x)) ∧ (if x < M 86 1 then kn kind a p x (M 86 1) else M 52 (p * 4 + x)) < 6 := by
        intro p x hp hx
        split
        · exact kn_rng hk hv hp (by omega)
        · exact hI.2.2.2.2.2.1 _ (by omega)
      have oD : okS (fun p x => if x < M 86 1 then kn kind a p x (M 86 1) else M 52 (p * 4 + x), fun p => kh kind p (M 86 1)) := rD
      have oZ : okS (fun _ _ => 0, fun _ => 1) := fun p x _ _ => by show 0 ≤ (0 : Int) ∧ (0 : Int) < 6; omega
      obtain ⟨t1, t2, t3⟩ := mk_bo (kind := kind) (a := a) (k := M 86 1) (D := (fun p x => if x < M 86 1 then kn kind a p x (M 86 1) else M 52 (p * 4 + x), fun p => kh kind p (M 86 1))) (Z := (fun _ _ => 0, fun _ => 1)) hk hv (fun p x hp hx => if_pos hx.2) (fun p hp => rfl) (fun x hx => rfl) rfl
      have hmq := (mn_ok hk hv 36).2.1
      have hmq2 : (mq kind a (M 86 1)).length ≤ 6 := hmq
      refine g8_make_104 ?_
      rw [show M1 0 0 = M 86 1 by rw [r3 0 0 (by omega) (by omega)]; exact hk0]
      refine c3_into hk k1 k2 k3 (by omega) (by omega) hD hZ oD oZ (fun hl M2 hf2 => ?_) (fun hl M2 h1 h2 hf2 => ?_)
      · exfalso
        rw [t1] at hl
        omega
      · refine g8_make_125 ?_
        have hbo := bo_ok hk oD oZ hl
        have hz : fz M M2 := fun b j hb => by
          rw [hf2 b j (by omega) (by omega) (by omega) (by omega) (Or.inl (by omega)) (by omega) (by omega)]
          exact r3 b j (by omega) (by omega)
        rw [t1]
        refine c9_make (hI.1.ofz hz) (fun _ _ M3 q1 q2 q3 => ?_) (fun h => ?_) (fun h4 h5 h6 => ?_)
        · rw [hz 86 1 (by omega)] at q1 q2
          rw [hz 86 1 (by omega)]
          refine ⟨rfl, Inv_sent (s := s) (N := (mk_ kind a (M 86 1)).1) (H := (mk_ kind a (M 86 1)).2) hI hs (fun p x hp hx => ?_) (fun p hp => ?_) (fun p x hp hx => ?_) (fun p hp => ?_) q1 q2 (fun j hj => ?_) (fun c j hq h3 h4 h5 h6 h7 => ?_)⟩
          · rw [← t2 p x hp hx]
            exact hbo.1 p x hp hx
          · rw [← t3 p hp]
            exact hbo.2 p hp
          · rw [q3 _ _ (by unfold kp; omega) (by omega) (by omega), h1 p x hp hx]
            exact t2 p x hp hx
          · rw [q3 _ _ (by unfold kp; omega) (by omega) (by omega), h2 p hp]
            exact t3 p hp
          · rw [q3 _ _ (by unfold kp; omega) (by omega) (by omega), hf2 52 j (by omega) (by omega) (by omega) (by omega) (Or.inl (by omega)) (by omega) (by omega)]
            have := r1 (j / 4) (j % 4) (by omega) (by omega)
            rw [show j / 4 * 4 + j % 4 = j by omega] at this
            rw [this]
            have := rD (j / 4) (j % 4) (by omega) (by omega)
            rw [show j / 4 * 4 + j % 4 = j by omega] at this
            exact this
          · rw [q3 c j hq.2.2 h6 h7, hf2 c j (by unfold kq at hq; omega) (by unfold kq at hq; omega) (by unfold kq at hq; omega) (by unfold kq at hq; omega) (Or.inl (by unfold kq at hq; omega)) h4 h5]
            exact r3 c j h3 (by unfold kq at hq; omega)
        · exfalso
          rw [hz 86 1 (by omega)] at h
          rcases h with h | h
          · exact h hs
          · exact h.2 (hv.2.1 h.1)
        · exfalso
          rcases h6 with h6 | h6
          · exact h6 hv.1
          · exact h6.2 (hv.2.2 h6.1)
    have mid : ¬ (lt_ kind ∧ ¬ (0 ≤ a ∧ a < M 86 1)) → ∀ z : Int, am_AtN m8_make 60 [some (vr 0), some (vi s), some (vi kind), some (vi a), some (vr (3 + 3 * s)), some (vi z)] [] KS M (EQ m9_make [vr 86, vi s, vi kind, vi a] S) := by
      intro hla z
      have hla2 : lt_ kind → 0 ≤ a ∧ a < M 86 1 := fun h => by
        by_cases h2 : 0 ≤ a ∧ a < M 86 1
        · exact h2
        · exact absurd ⟨h, h2⟩ hla
      refine g8_make_60 ?_
      by_cases hK : 0 ≤ kind ∧ kind ≤ 7
      · refine c8_in (by omega) ?_
        refine g8_make_66 (fun _ => ?_) (fun c => by exfalso; omega)
        refine g8_make_72 (fun c => ?_) (fun c => ?_)
        · exact body ⟨hK, hla2, fun h => absurd h c⟩ z
        · refine g8_make_77 (fun c2 => ?_) (fun c2 => ?_)
          · exact g8_make_88 (bad2 hs hla (Or.inr ⟨c, by omega⟩))
          · refine g8_make_82 (fun c3 => ?_) (fun c3 => ?_)
            · exact body ⟨hK, hla2, fun _ => by omega⟩ z
            · exact g8_make_88 (bad2 hs hla (Or.inr ⟨c, by omega⟩))
      · refine c8_out (by omega) ?_
        refine g8_make_66 (fun c => by exfalso; omega) (fun _ => ?_)
        exact g8_make_69 (bad2 hs hla (Or.inl hK))
    by_cases hl : lt_ kind
    · have t35 : am_AtN m8_make 35 [some (vr 0), some (vi s), some (vi kind), some (vi a), some (vr (3 + 3 * s)), none] [] KS M (EQ m9_make [vr 86, vi s, vi kind, vi a] S) := by
        refine g8_make_35 ?_
        refine g8_make_40 (fun c => by exfalso; omega) (fun _ => ?_)
        refine g8_make_47 ?_
        by_cases ha : 0 ≤ a ∧ a < M 86 1
        · refine c8_in (by omega) ?_
          refine g8_make_55 (fun _ => ?_) (fun c => by exfalso; omega)
          exact mid (fun h => h.2 ha) 1
        · refine c8_out (by omega) ?_
          refine g8_make_55 (fun c => by exfalso; omega) (fun _ => ?_)
          exact g8_make_58 (bad1 (Or.inr ⟨hl, ha⟩))
      refine g8_make_14 (fun _ => t35) (fun c2 => ?_)
      refine g8_make_19 (fun _ => t35) (fun c4 => ?_)
      refine g8_make_24 (fun _ => t35) (fun c5 => ?_)
      exact g8_make_29 (fun c6 => by exfalso; unfold lt_ at hl; omega) (fun _ => t35)
    · have hl2 := hl
      unfold lt_ at hl2
      refine g8_make_14 (fun c => by exfalso; omega) (fun _ => ?_)
      refine g8_make_19 (fun c => by exfalso; omega) (fun _ => ?_)
      refine g8_make_24 (fun c => by exfalso; omega) (fun _ => ?_)
      refine g8_make_29 (fun _ => ?_) (fun c => by exfalso; omega)
      refine g8_make_39 ?_
      refine g8_make_40 (fun _ => ?_) (fun c => by exfalso; omega)
      exact mid (fun h => hl h.1) 0
  · refine g8_make_5 (fun c => absurd rfl c) (fun _ => ?_)
    exact g8_make_12 (bad1 (Or.inl hs))
end
