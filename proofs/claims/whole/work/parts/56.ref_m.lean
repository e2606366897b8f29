/-! ===== the reference: letters that stay ===== -/
theorem c9_stays {M : am_M} {Q : Option am_V → am_M → Prop} {s p l : Int} (hd : mdat M) (k1 : (0 ≤ s ∧ s ≤ 7) ∧ (0 ≤ p ∧ p ≤ 3) ∧ (0 ≤ l ∧ l < M 86 1) → ∀ r, SV (sm M s, pm M p, l, M 86 1) r → ∀ M', fr9 M M' → Q (some (vi (if r = -9 then 1 else 0))) M') (k0 : ¬ ((0 ≤ s ∧ s ≤ 7) ∧ (0 ≤ p ∧ p ≤ 3) ∧ (0 ≤ l ∧ l < M 86 1)) → ∀ M', fr9 M M' → Q (some (vi (-1))) M') : am_CallN m9_stays [vr 86, vi s, vi p, vi l] KS M Q := by
  have hf0 : fr9 M (am_up M 86 0 0) := fr9.up (by unfold kp; omega)
  have e1 : am_up M 86 0 0 86 1 = M 86 1 := am_upn (Or.inr (by omega))
  have hd0 := hd.of hf0
  refine am_callN_of (by decide +kernel) rfl rfl (Nat.le_of_ble_eq_true rfl) ?_
  refine g9_stays_0 ?_
  refine c9_noSentence ?_
  by_cases hg0 : 0 ≤ s ∧ s ≤ 7
  · rw [if_pos (by first | exact hg0 | omega)]
    refine g9_stays_9 (fun c => by exfalso; omega) (fun _ => ?_)
    refine g9_stays_12 ?_
    refine c9_noProgram ?_
    by_cases hg1 : 0 ≤ p ∧ p ≤ 3
    · rw [if_pos (by first | exact hg1 | omega)]
      refine g9_stays_16 (fun c => by exfalso; omega) (fun _ => ?_)
      refine g9_stays_19 ?_
      refine c9_noLetter (by have := hd.1; omega) ?_
      by_cases hg2 : 0 ≤ l ∧ l < M 86 1
      · rw [e1, if_pos hg2]
        refine g9_stays_24 (fun _ => ?_) (fun c => by exfalso; omega)
        refine g9_stays_29 ?_
        refine c9_unlike hd0 hg0 hg1 (fun r M1 hr hf => ?_)
        rw [hf0.ksm, hf0.kpm, e1] at hr
        refine g9_stays_36 (fun c => ?_) (fun c => ?_)
        · refine g9_stays_45 (g9_stays_46 ?_)
          have := k1 ⟨hg0, hg1, hg2⟩ r hr M1 (hf0.tr hf)
          rw [if_neg c] at this
          exact this
        · refine g9_stays_41 (g9_stays_46 ?_)
          have := k1 ⟨hg0, hg1, hg2⟩ r hr M1 (hf0.tr hf)
          rw [if_pos c] at this
          exact this
      · rw [e1, if_neg hg2]
        refine g9_stays_24 (fun c => by exfalso; omega) (fun _ => ?_)
        exact g9_stays_27 (k0 (fun h => hg2 h.2.2) _ hf0)
    · rw [if_neg (by first | exact hg1 | omega)]
      refine g9_stays_16 (fun _ => ?_) (fun c => by exfalso; omega)
      exact g9_stays_27 (k0 (fun h => hg1 h.2.1) _ hf0)
  · rw [if_neg (by first | exact hg0 | omega)]
    refine g9_stays_9 (fun _ => ?_) (fun c => by exfalso; omega)
    exact g9_stays_27 (k0 (fun h => hg0 h.1) _ hf0)
theorem c9_witness {M : am_M} {Q : Option am_V → am_M → Prop} {s p l : Int} (hd : mdat M) (k1 : (0 ≤ s ∧ s ≤ 7) ∧ (0 ≤ p ∧ p ≤ 3) ∧ (0 ≤ l ∧ l < M 86 1) → ∀ r, SV (sm M s, pm M p, l, M 86 1) r → ∀ M', fr9 M M' → Q (some (vi r)) M') (k0 : ¬ ((0 ≤ s ∧ s ≤ 7) ∧ (0 ≤ p ∧ p ≤ 3) ∧ (0 ≤ l ∧ l < M 86 1)) → ∀ M', fr9 M M' → Q (some (vi (-1))) M') : am_CallN m9_witness [vr 86, vi s, vi p, vi l] KS M Q := by
  have hf0 : fr9 M (am_up M 86 0 0) := fr9.up (by unfold kp; omega)
  have e1 : am_up M 86 0 0 86 1 = M 86 1 := am_upn (Or.inr (by omega))
  have hd0 := hd.of hf0
  refine am_callN_of (by decide +kernel) rfl rfl (Nat.le_of_ble_eq_true rfl) ?_
  refine g9_witness_0 ?_
  refine c9_noSentence ?_
  by_cases hg0 : 0 ≤ s ∧ s ≤ 7
  · rw [if_pos (by first | exact hg0 | omega)]
    refine g9_witness_9 (fun c => by exfalso; omega) (fun _ => ?_)
    refine g9_witness_12 ?_
    refine c9_noProgram ?_
    by_cases hg1 : 0 ≤ p ∧ p ≤ 3
    · rw [if_pos (by first | exact hg1 | omega)]
      refine g9_witness_16 (fun c => by exfalso; omega) (fun _ => ?_)
      refine g9_witness_19 ?_
      refine c9_noLetter (by have := hd.1; omega) ?_
      by_cases hg2 : 0 ≤ l ∧ l < M 86 1
      · rw [e1, if_pos hg2]
        refine g9_witness_24 (fun _ => ?_) (fun c => by exfalso; omega)
        refine g9_witness_31 ?_
        refine c9_unlike hd0 hg0 hg1 (fun r M1 hr hf => ?_)
        rw [hf0.ksm, hf0.kpm, e1] at hr
        exact g9_witness_38 (k1 ⟨hg0, hg1, hg2⟩ r hr M1 (hf0.tr hf))
      · rw [e1, if_neg hg2]
        refine g9_witness_24 (fun c => by exfalso; omega) (fun _ => ?_)
        exact g9_witness_27 (g9_witness_38 (k0 (fun h => hg2 h.2.2) _ hf0))
    · rw [if_neg (by first | exact hg1 | omega)]
      refine g9_witness_16 (fun _ => ?_) (fun c => by exfalso; omega)
      exact g9_witness_27 (g9_witness_38 (k0 (fun h => hg1 h.2.1) _ hf0))
  · rw [if_neg (by first | exact hg0 | omega)]
    refine g9_witness_9 (fun _ => ?_) (fun c => by exfalso; omega)
    exact g9_witness_27 (g9_witness_38 (k0 (fun h => hg0 h.1) _ hf0))

theorem part_ok {M : am_M} {a b : Int} (hd : mdat M) (ha : 0 ≤ a ∧ a ≤ 7) (hb : 0 ≤ b ∧ b ≤ 7) (i : Nat) : bok ((36 : Nat) : Int) (bf (ap (sm M a) (sm M b)) (M 86 1).toNat i) := by
  have hk := hd.1
  exact bok_bf (NS := ((36 : Nat) : Int)) (sc := ap (sm M a) (sm M b)) (k := (M 86 1).toNat) (by omega) (by omega) (fun p x h0 h1 h2 h3 => ap_rng (hd.sok ha) (hd.sok hb) ⟨h0, h1⟩ ⟨h2, by omega⟩) i
theorem part_rng {M : am_M} {a b : Int} (hd : mdat M) (ha : 0 ≤ a ∧ a ≤ 7) (hb : 0 ≤ b ∧ b ≤ 7) (i : Nat) (e : Int × Int) (he : (bf (ap (sm M a) (sm M b)) (M 86 1).toNat i)[i]? = some e) : 0 ≤ e.1 ∧ e.1 < 36 := (part_ok hd ha hb i).2.2.1 e (List.mem_of_getElem? he)
theorem bok.wide {NS NS' : Int} {q : List (Int × Int)} (h : bok NS q) (hl : NS ≤ NS') : bok NS' q := ⟨h.1, h.2.1, fun e he => by have := h.2.2.1 e he; omega, h.2.2.2.1, h.2.2.2.2⟩
theorem hw_pre {p : Int} {t : List (Int × Int)} : ∀ {q : List (Int × Int)}, hw q p ≠ -2 → hw (q ++ t) p = hw q p
  | [], h => by simp [hw] at h
  | e :: l, h => by
    show (if e.1 = p then e.2 else hw (l ++ t) p) = if e.1 = p then e.2 else hw l p
    by_cases h1 : e.1 = p
    · rw [if_pos h1, if_pos h1]
    · rw [if_neg h1, if_neg h1]
      refine hw_pre ?_
      have h2 : hw (e :: l) p = hw l p := by
        conv => lhs; unfold hw
        rw [if_neg h1]
      rw [h2] at h
      exact h
theorem hw_in {NS : Int} {q : List (Int × Int)} (h : bok NS q) {i : Nat} {e : Int × Int} (he : q[i]? = some e) : hw q e.1 ≠ -2 := by
  rw [hw_at h he]
  have := h.1 e (List.mem_of_getElem? he)
  omega
theorem ln_pre {NS : Int} {q t : List (Int × Int)} (h : bok NS q) : ∀ (n i : Nat) (e : Int × Int), q[i]? = some e → ln (q ++ t) n e.1 = ln q n e.1
  | 0, _, _, _ => rfl
  | n + 1, i, e, he => by
    have h1 := hw_pre (t := t) (hw_in h he)
    unfold ln
    rw [h1]
    split
    · rfl
    · rename_i h2
      rw [hw_at h he] at h2 ⊢
      obtain ⟨j, e', -, hj, h3⟩ := par_ok h he (by omega)
      rw [h3, ln_pre h n j e' hj]
theorem pa_pre {NS : Int} {q t : List (Int × Int)} (h : bok NS q) {i N : Nat} {e : Int × Int} (he : q[i]? = some e) (hN : i < N) : ∀ m : Nat, m ≤ ln q N e.1 → pa (q ++ t) m e.1 = pa q m e.1
  | 0, _ => rfl
  | m + 1, hm => by
    obtain ⟨-, ⟨j, e', hj, h1⟩, -⟩ := ln_pa h i e he N hN m (by omega)
    rw [pa_s, pa_s, pa_pre h he hN m (by omega)]
    rw [← h1, hw_pre (hw_in h hj)]
theorem pic_pre {NS : Int} {q t : List (Int × Int)} (h : bok NS q) {i : Nat} {e : Int × Int} (he : q[i]? = some e) (hi : i < 1296) {j : Int} (hj : -1 ≤ j) : pic (q ++ t) e.1 j = pic q e.1 j := by
  unfold pic
  rw [ln_pre h 1296 i e he]
  by_cases h1 : j = -1
  · rw [if_pos h1, if_pos h1]
  · rw [if_neg h1, if_neg h1]
    by_cases h2 : 0 ≤ j ∧ j < ln q 1296 e.1
    · rw [if_pos h2, if_pos h2]
      obtain ⟨-, ⟨j', e', hj', h3⟩, -⟩ := ln_pa h i e he 1296 hi (ln q 1296 e.1 - 1 - j.toNat) (by omega)
      rw [pa_pre h he hi _ (by omega), ← h3, hw_pre (hw_in h hj')]
    · rw [if_neg h2, if_neg h2]
theorem c9_follows {M : am_M} {Q : Option am_V → am_M → Prop} {a b : Int} (hd : mdat M) (k1 : (0 ≤ a ∧ a ≤ 7) ∧ (0 ≤ b ∧ b ≤ 7) → ∀ M', fr9 M M' → Q (some (vi (if fb (bb (sm M a) (sm M b)) (bf (ap (sm M a) (sm M b)) (M 86 1).toNat 36) = -9 then 1 else 0))) M') (k0 : ¬ ((0 ≤ a ∧ a ≤ 7) ∧ (0 ≤ b ∧ b ≤ 7)) → ∀ M', fr9 M M' → Q (some (vi (-1))) M') : am_CallN m9_follows [vr 86, vi a, vi b] KS M Q := by
  have hf0 : fr9 M (am_up M 86 0 0) := fr9.up (by unfold kp; omega)
  have e1 : am_up M 86 0 0 86 1 = M 86 1 := am_upn (Or.inr (by omega))
  have hd0 := hd.of hf0
  refine am_callN_of (by decide +kernel) rfl rfl (Nat.le_of_ble_eq_true rfl) ?_
  refine g9_follows_0 ?_
  refine c9_noSentence ?_
  by_cases hg0 : 0 ≤ a ∧ a ≤ 7
  · rw [if_pos (by first | exact hg0 | omega)]
    refine g9_follows_9 (fun c => by exfalso; omega) (fun _ => ?_)
    refine g9_follows_12 ?_
    refine c9_noSentence ?_
    by_cases hg1 : 0 ≤ b ∧ b ≤ 7
    · rw [if_pos (by first | exact hg1 | omega)]
      refine g9_follows_16 (fun _ => ?_) (fun c => by exfalso; omega)
      refine g9_follows_23 ?_
      refine c9_part hd0 hg0 hg1 (fun hn M1 hf => ?_) (fun i e M1 hi he hfb hR hf => ?_)
      · rw [hf0.ksm, e1] at hn
        refine g9_follows_29 (fun c => by exfalso; omega) (fun _ => ?_)
        refine g9_follows_34 (g9_follows_39 ?_)
        have := k1 ⟨hg0, hg1⟩ M1 (hf0.tr hf)
        rw [if_pos hn] at this
        exact this
      · rw [hf0.ksm, e1] at he hfb hR
        have hb := part_rng hd hg0 hg1 i e he
        refine g9_follows_29 (fun _ => ?_) (fun c => by exfalso; omega)
        refine g9_follows_38 (g9_follows_39 ?_)
        have := k1 ⟨hg0, hg1⟩ M1 (hf0.tr hf)
        rw [if_neg (by rw [hfb]; omega)] at this
        exact this
    · rw [if_neg (by first | exact hg1 | omega)]
      refine g9_follows_16 (fun c => by exfalso; omega) (fun _ => ?_)
      exact g9_follows_19 (g9_follows_39 (k0 (fun h => hg1 h.2) _ hf0))
  · rw [if_neg (by first | exact hg0 | omega)]
    refine g9_follows_9 (fun _ => ?_) (fun c => by exfalso; omega)
    exact g9_follows_19 (g9_follows_39 (k0 (fun h => hg0 h.1) _ hf0))
theorem c9_unless {M : am_M} {Q : Option am_V → am_M → Prop} {a b j : Int} (hd : mdat M) (k1 : (0 ≤ a ∧ a ≤ 7) ∧ (0 ≤ b ∧ b ≤ 7) → -1 ≤ j → ∀ M', fr9 M M' → Q (some (vi (if fb (bb (sm M a) (sm M b)) (bf (ap (sm M a) (sm M b)) (M 86 1).toNat 36) = -9 then -9 else pic (bf (ap (sm M a) (sm M b)) (M 86 1).toNat 36) (fb (bb (sm M a) (sm M b)) (bf (ap (sm M a) (sm M b)) (M 86 1).toNat 36)) j))) M') (k2 : (0 ≤ a ∧ a ≤ 7) ∧ (0 ≤ b ∧ b ≤ 7) → ¬ -1 ≤ j → ∀ M', fr9 M M' → Q (some (vi (-2))) M') (k0 : ¬ ((0 ≤ a ∧ a ≤ 7) ∧ (0 ≤ b ∧ b ≤ 7)) → ∀ M', fr9 M M' → Q (some (vi (-1))) M') : am_CallN m9_unless [vr 86, vi a, vi b, vi j] KS M Q := by
  have hf0 : fr9 M (am_up M 86 0 0) := fr9.up (by unfold kp; omega)
  have e1 : am_up M 86 0 0 86 1 = M 86 1 := am_upn (Or.inr (by omega))
  have hd0 := hd.of hf0
  refine am_callN_of (by decide +kernel) rfl rfl (Nat.le_of_ble_eq_true rfl) ?_
  refine g9_unless_0 ?_
  refine c9_noSentence ?_
  by_cases hg0 : 0 ≤ a ∧ a ≤ 7
  · rw [if_pos (by first | exact hg0 | omega)]
    refine g9_unless_9 (fun c => by exfalso; omega) (fun _ => ?_)
    refine g9_unless_12 ?_
    refine c9_noSentence ?_
    by_cases hg1 : 0 ≤ b ∧ b ≤ 7
    · rw [if_pos (by first | exact hg1 | omega)]
      refine g9_unless_16 (fun _ => ?_) (fun c => by exfalso; omega)
      refine g9_unless_21 (fun ci => ?_) (fun ci => ?_)
      · refine g9_unless_29 ?_
        refine c9_part hd0 hg0 hg1 (fun hn M1 hf => ?_) (fun i e M1 hi he hfb hR hf => ?_)
        · rw [hf0.ksm, e1] at hn
          refine g9_unless_35 (fun c => by exfalso; omega) (fun _ => ?_)
          refine g9_unless_44 (g9_unless_56 ?_)
          have := k1 ⟨hg0, hg1⟩ ci M1 (hf0.tr hf)
          rw [if_pos hn] at this
          exact this
        · rw [hf0.ksm, e1] at he hfb hR
          have hb := part_rng hd hg0 hg1 i e he
          refine g9_unless_35 (fun _ => ?_) (fun c => by exfalso; omega)
          refine g9_unless_49 ?_
          refine c9_told hR ((part_ok hd hg0 hg1 i).wide (by omega)) he ci (fun M2 hf2 => ?_)
          refine g9_unless_56 ?_
          have := k1 ⟨hg0, hg1⟩ ci M2 ((hf0.tr hf).tr hf2)
          rw [if_neg (by rw [hfb]; omega), hfb] at this
          obtain ⟨t, ht⟩ := bf_pren (ap (sm M a) (sm M b)) (M 86 1).toNat i (36 - i)
          rw [show i + (36 - i) = 36 by omega] at ht
          rw [ht, pic_pre (part_ok hd hg0 hg1 i) he (by omega) ci] at this
          exact this
      · exact g9_unless_26 (k2 ⟨hg0, hg1⟩ ci _ hf0)
    · rw [if_neg (by first | exact hg1 | omega)]
      refine g9_unless_16 (fun c => by exfalso; omega) (fun _ => ?_)
      exact g9_unless_19 (k0 (fun h => hg1 h.2) _ hf0)
  · rw [if_neg (by first | exact hg0 | omega)]
    refine g9_unless_9 (fun _ => ?_) (fun c => by exfalso; omega)
    exact g9_unless_19 (k0 (fun h => hg0 h.1) _ hf0)
