/-! ===== the reference: the row, and what a program writes ===== -/
def ro (M : am_M) (L : List Int) : Prop := M 86 33 = L.length ∧ ∀ i : Nat, i < L.length → M 110 i = L.getD i 0
def fw (M M' : am_M) : Prop := ∀ b j : Int, b ≠ 110 → (b ≠ 86 ∨ j ≠ 33) → M' b j = M b j
theorem fw.rf {M : am_M} : fw M M := fun _ _ _ _ => rfl
theorem fw.tr {M M' M'' : am_M} (h : fw M M') (h' : fw M' M'') : fw M M'' := fun b j h1 h2 => (h' b j h1 h2).trans (h b j h1 h2)
def fo (M M' : am_M) : Prop := ∀ b j : Int, b ≠ 110 → (b ≠ 86 ∨ (j ≠ 33 ∧ j ≠ 18)) → M' b j = M b j
theorem fo.rf {M : am_M} : fo M M := fun _ _ _ _ => rfl
theorem fo.tr {M M' M'' : am_M} (h : fo M M') (h' : fo M' M'') : fo M M'' := fun b j h1 h2 => (h' b j h1 h2).trans (h b j h1 h2)
theorem fw.o {M M' : am_M} (h : fw M M') : fo M M' := fun b j h1 h2 => h b j h1 (by omega)
theorem fo.r9 {M M' : am_M} (h : fo M M') : fr9 M M' := fun b j hk => h b j (by unfold kp at hk; omega) (by unfold kp at hk; omega)
theorem c9_letter {M : am_M} {Q : Option am_V → am_M → Prop} {x : Int} {L : List Int} (hk : 2 ≤ M 86 1 ∧ M 86 1 ≤ 4) (hR : rm M L) (hl : L.length ≤ 24) (k0 : ¬ (0 ≤ x ∧ x < M 86 1) → ∀ M', fr9 M M' → Q (some (vi (-1))) M') (k4 : (0 ≤ x ∧ x < M 86 1) → (L.length : Int) = 24 → ∀ M', fr9 M M' → Q (some (vi (-4))) M') (k1 : (0 ≤ x ∧ x < M 86 1) → (L.length : Int) < 24 → ∀ M', rm M' (L ++ [x]) → (∀ b j : Int, kp b j → b ≠ 109 → (b ≠ 86 ∨ j ≠ 31) → M' b j = M b j) → Q (some (vi (L.length + 1))) M') : am_CallN m9_letter [vr 86, vi x] KS M Q := by
  have ek : am_up M 86 0 0 86 1 = M 86 1 := am_upn (Or.inr (by omega))
  have hf0 : fr9 M (am_up M 86 0 0) := fr9.up (by unfold kp; omega)
  have hR0 := hR.of hf0
  have e31 := hR0.1
  refine am_callN_of (by decide +kernel) rfl rfl (Nat.le_of_ble_eq_true rfl) ?_
  refine g9_letter_0 ?_
  refine c9_noLetter (by omega) ?_
  rw [ek]
  by_cases h : 0 ≤ x ∧ x < M 86 1
  · rw [if_pos h]
    refine g9_letter_10 (fun _ => ?_) (fun c => by exfalso; omega)
    refine g9_letter_15 (fun c => ?_) (fun c => ?_)
    · rw [e31] at c
      have e2 : am_up (am_up M 86 0 0) 109 (am_up M 86 0 0 86 31) x 86 31 = L.length := by rw [am_upn (Or.inl (by omega)), e31]
      refine g9_letter_27 (by omega) (by omega) (by rw [e2]; omega) ?_
      rw [am_up_hit, e2, e31]
      refine k1 h (by omega) _ ⟨by rw [am_up_hit]; simp, fun i hi => ?_⟩ (fun b j h1 h2 h3 => ?_)
      · rw [am_upn (Or.inl (by omega))]
        by_cases e : i = L.length
        · subst e
          rw [am_up_hit]
          simp [List.getD]
        · have hi' : i < L.length := by simp at hi; omega
          rw [am_upn (Or.inr (by omega)), hR0.2 i hi']
          simp [List.getD, List.getElem?_append_left hi']
      · rw [am_upn h3, am_upn (Or.inl h2)]
        exact hf0 b j h1
    · rw [e31] at c
      exact g9_letter_24 (k4 h c _ hf0)
  · rw [if_neg h]
    refine g9_letter_10 (fun c => by exfalso; omega) (fun _ => ?_)
    exact g9_letter_13 (k0 h _ hf0)
theorem c9_clear {M : am_M} {Q : Option am_V → am_M → Prop} {L : List Int} (hR : rm M L) (k : ∀ M', rm M' [] → (∀ b j : Int, kp b j → (b ≠ 86 ∨ j ≠ 31) → M' b j = M b j) → Q (some (vi L.length)) M') : am_CallN m9_clear [vr 86] KS M Q := by
  have hf0 : fr9 M (am_up M 86 0 0) := fr9.up (by unfold kp; omega)
  have e31 := (hR.of hf0).1
  refine am_callN_of (by decide +kernel) rfl rfl (Nat.le_of_ble_eq_true rfl) ?_
  refine g9_clear_0 ?_
  rw [e31]
  refine k _ ⟨by rw [am_up_hit]; rfl, fun i hi => by simp at hi⟩ (fun b j h1 h2 => ?_)
  rw [am_upn h2]
  exact hf0 b j h1
theorem c9_at {M : am_M} {Q : Option am_V → am_M → Prop} {i : Int} {L : List Int} (hR : rm M L) (hl : L.length ≤ 64) (k : ∀ M', fr9 M M' → Q (some (vi (if 0 ≤ i ∧ i < L.length then L.getD i.toNat 0 else -9))) M') : am_CallN m9_at [vr 86, vi i] KS M Q := by
  have hf0 : fr9 M (am_up M 86 0 0) := fr9.up (by unfold kp; omega)
  have hR0 := hR.of hf0
  have e31 := hR0.1
  have k := k _ hf0
  refine am_callN_of (by decide +kernel) rfl rfl (Nat.le_of_ble_eq_true rfl) ?_
  refine g9_at_0 (by omega) ?_
  refine c9_in ?_
  rw [e31]
  by_cases h : 0 ≤ i ∧ i < L.length
  · rw [if_pos h] at k
    rw [if_pos (by omega)]
    refine g9_at_18 (fun c => by exfalso; omega) (fun _ => ?_)
    refine g9_at_21 (by omega) (by omega) ?_
    refine g9_at_32 ?_
    have := hR0.2 i.toNat (by omega)
    rw [show ((i.toNat : Nat) : Int) = i by omega] at this
    rw [this]
    exact k
  · rw [if_neg h] at k
    rw [if_neg (by omega)]
    refine g9_at_18 (fun _ => ?_) (fun c => by exfalso; omega)
    refine g9_at_30 ?_
    exact g9_at_32 k
theorem c9_is {M : am_M} {Q : Option am_V → am_M → Prop} {s : Int} {L : List Int} (hd : mdat M) (hR : rm M L) (hL : ∀ x ∈ L, 0 ≤ x ∧ x < 4) (hl : L.length ≤ 64) (k0 : ¬ (0 ≤ s ∧ s ≤ 7) → ∀ M', fr9 M M' → Q (some (vi (-1))) M') (k1 : (0 ≤ s ∧ s ≤ 7) → ∀ M', fr9 M M' → Q (some (vi ((sm M s).2 (wk (sm M s).1 0 L)))) M') : am_CallN m9_is [vr 86, vi s] KS M Q := by
  have hf0 : fr9 M (am_up M 86 0 0) := fr9.up (by unfold kp; omega)
  refine am_callN_of (by decide +kernel) rfl rfl (Nat.le_of_ble_eq_true rfl) ?_
  refine g9_is_0 ?_
  refine c9_noSentence ?_
  by_cases hs : 0 ≤ s ∧ s ≤ 7
  · rw [if_pos hs]
    have k1 := k1 hs _ hf0
    have oA := hd.sok hs
    have hwk := wk_rng oA L 0 hL (by omega)
    have h01 : (sm M s).2 (wk (sm M s).1 0 L) = 0 ∨ (sm M s).2 (wk (sm M s).1 0 L) = 1 := hd.2.2.1 _ (by omega)
    refine g9_is_9 (fun _ => ?_) (fun c => by exfalso; omega)
    refine g9_is_16 ?_
    refine c9_isSo (hd.of hf0) hs (hR.of hf0) hL hl ?_
    rw [hf0.ksm]
    refine g9_is_21 (fun c => ?_) (fun c => ?_)
    · refine g9_is_28 ?_
      rw [c] at k1
      exact g9_is_29 k1
    · refine g9_is_24 ?_
      rw [show (sm M s).2 (wk (sm M s).1 0 L) = 1 by omega] at k1
      exact g9_is_29 k1
  · rw [if_neg hs]
    refine g9_is_9 (fun c => by exfalso; omega) (fun _ => ?_)
    refine g9_is_12 ?_
    exact g9_is_29 (k0 hs _ hf0)
theorem n9_add {M : am_M} {Q : Option am_V → am_M → Prop} {w i : Int} {L : List Int} (hw : 0 ≤ w ∧ w ≤ 20) (hi : 0 ≤ i ∧ i < wlen w) (hi2 : i < 3) (hR : ro M L) (hl : L.length < 64) (k : ∀ M', ro M' (L ++ [wlet w i]) → fw M M' → am_AtN m9_add 2 [some (vr 86), some (vi w), some (vi (i + 1))] [] KS M' Q) : am_AtN m9_add 2 [some (vr 86), some (vi w), some (vi i)] [] KS M Q := by
  have e33 := hR.1
  refine g9_add_2 ?_
  refine c9_longOf hw.1 ?_
  refine g9_add_7 (fun c => by exfalso; omega) (fun _ => ?_)
  refine g9_add_10 ?_
  refine c9_letterOf hw ?_
  rw [e33]
  have e2 : am_up M 110 (L.length : Int) (wlet w i) 86 33 = L.length := by rw [am_upn (Or.inl (by omega)), e33]
  refine g9_add_23 kd110 (by omega) (by omega) (by rw [e2]; omega) (by omega) ?_
  rw [e2]
  refine k _ ⟨by rw [am_up_hit]; simp, fun j hj => ?_⟩ (fun b j h1 h2 => ?_)
  · rw [am_upn (Or.inl (by omega))]
    by_cases e : j = L.length
    · subst e
      rw [am_up_hit]
      simp [List.getD]
    · have hj' : j < L.length := by simp at hj; omega
      rw [am_upn (Or.inr (by omega)), hR.2 j hj']
      simp [List.getD, List.getElem?_append_left hj']
  · rw [am_upn (by omega), am_upn (Or.inl h1)]
theorem z9_add {M : am_M} {Q : Option am_V → am_M → Prop} {w i : Int} (hw : 0 ≤ w ∧ w ≤ 20) (hi : wlen w ≤ i) (k : Q none M) : am_AtN m9_add 2 [some (vr 86), some (vi w), some (vi i)] [] KS M Q := by
  refine g9_add_2 ?_
  refine c9_longOf hw.1 ?_
  refine g9_add_7 (fun _ => ?_) (fun c => by exfalso; omega)
  exact g9_add_40 k
theorem c9_add {M : am_M} {Q : Option am_V → am_M → Prop} {w : Int} {L : List Int} (hw : 0 ≤ w ∧ w ≤ 20) (hR : ro M L) (hl : L.length ≤ 62) (k : ∀ M', ro M' (L ++ wl w) → fw M M' → Q none M') : am_CallN m9_add [vr 86, vi w] KS M Q := by
  refine am_callN_of (by decide +kernel) rfl rfl (Nat.le_of_ble_eq_true rfl) ?_
  refine g9_add_0 ?_
  by_cases h1 : w < 1
  · refine z9_add hw (by unfold wlen; (repeat' split) <;> omega) (k M ?_ fw.rf)
    rw [show wl w = [] by unfold wl; rw [if_pos h1], List.append_nil]
    exact hR
  · by_cases h5 : w < 5
    · have e : wlen w = 1 := by unfold wlen; (repeat' split) <;> omega
      refine n9_add hw (by omega) (by omega) hR (by omega) (fun M1 hR1 hf1 => ?_)
      refine z9_add hw (by omega) (k M1 ?_ hf1)
      rw [show wl w = [wlet w 0] by unfold wl wlet; rw [if_neg h1, if_pos h5]; (repeat' split) <;> first | rfl | (exfalso; omega)]
      exact hR1
    · have e : wlen w = 2 := by unfold wlen; (repeat' split) <;> omega
      refine n9_add hw (by omega) (by omega) hR (by omega) (fun M1 hR1 hf1 => ?_)
      refine n9_add hw (by omega) (by omega) hR1 (by simp; omega) (fun M2 hR2 hf2 => ?_)
      refine z9_add hw (by omega) (k M2 ?_ (hf1.tr hf2))
      rw [show wl w = [wlet w 0, wlet w (0 + 1)] by unfold wl wlet; rw [if_neg h1, if_neg h5]; (repeat' split) <;> first | rfl | (exfalso; omega)]
      rw [List.append_assoc] at hR2
      exact hR2
