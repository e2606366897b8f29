/-! ===== the calls, two by two: spot, end, of, letters ===== -/
section
variable {S : Int → Int} {M : am_M}
theorem Inv_prog {M2 : am_M} {p : Int} {N W : Int → Int → Int} {E : Int → Int} (hI : Inv S M) (hp : 0 ≤ p ∧ p ≤ 3) (hN : ∀ s x : Int, 0 ≤ s ∧ s < 6 → 0 ≤ x ∧ x < 4 → 0 ≤ N s x ∧ N s x < 6) (hW : ∀ s x : Int, 0 ≤ s ∧ s < 6 → 0 ≤ x ∧ x < M 86 1 → wv (M 86 1) (W s x)) (hE : ∀ s : Int, 0 ≤ s ∧ s < 6 → E s = -1 ∨ wv (M 86 1) (E s))
    (h1 : ∀ s x : Int, 0 ≤ s ∧ s < 6 → 0 ≤ x ∧ x < 4 → M2 (29 + 4 * p) (s * 4 + x) = N s x ∧ M2 (30 + 4 * p) (s * 4 + x) = W s x) (h2 : ∀ s : Int, 0 ≤ s ∧ s < 6 → M2 (31 + 4 * p) s = E s) (h3 : ∀ s x : Int, 0 ≤ s ∧ s < 6 → 0 ≤ x ∧ x < 4 → M2 92 (24 * p + 4 * s + x) = N s x ∧ M2 93 (24 * p + 4 * s + x) = W s x) (h4 : ∀ s : Int, 0 ≤ s ∧ s < 6 → M2 94 (6 * p + s) = E s)
    (hf : ∀ b j : Int, kq b j → b ≠ 29 + 4 * p → b ≠ 30 + 4 * p → b ≠ 31 + 4 * p → ¬ (b = 92 ∧ 24 * p ≤ j ∧ j < 24 * p + 24) → ¬ (b = 93 ∧ 24 * p ≤ j ∧ j < 24 * p + 24) → ¬ (b = 94 ∧ 6 * p ≤ j ∧ j < 6 * p + 6) → M2 b j = M b j) : Inv S M2 := by
  obtain ⟨d1, d2, d3, ⟨L, d4⟩, d5, d7, d6⟩ := hI
  have e1 : M2 86 1 = M 86 1 := hf 86 1 (by unfold kq kp; omega) (by omega) (by omega) (by omega) (by omega) (by omega) (by omega)
  refine ⟨⟨by rw [e1]; exact d1.1, fun j hj => ?_, fun j hj => ?_, fun j hj => ?_, fun r s x hr hs hx => ?_, fun j hj => ?_⟩, ⟨?_, fun t q x ht hq hx => ?_, fun t q ht hq => ?_, fun r s x hr hs hx => ?_, fun r s hr hs => ?_⟩, ⟨fun j hj => ?_, ?_⟩, ⟨L, ⟨?_, fun i hi => ?_⟩, ⟨?_, fun i hi => ?_⟩, fun x hx => ?_, d4.2.2.2⟩, ⟨fun j hj => ?_, fun j hj => ?_⟩, fun j hj => ?_, fun j => ?_⟩
  · rw [hf 87 j (by unfold kq kp; omega) (by omega) (by omega) (by omega) (by omega) (by omega) (by omega)]
    exact d1.2.1 j hj
  · rw [hf 88 j (by unfold kq kp; omega) (by omega) (by omega) (by omega) (by omega) (by omega) (by omega)]
    exact d1.2.2.1 j hj
  · by_cases e : 24 * p ≤ j ∧ j < 24 * p + 24
    · have := (h3 ((j - 24 * p) / 4) ((j - 24 * p) % 4) (by omega) (by omega)).1
      rw [show 24 * p + 4 * ((j - 24 * p) / 4) + (j - 24 * p) % 4 = j by omega] at this
      rw [this]
      exact hN _ _ (by omega) (by omega)
    · rw [hf 92 j (by unfold kq kp; omega) (by omega) (by omega) (by omega) (by omega) (by omega) (by omega)]
      exact d1.2.2.2.1 j hj
  · rw [e1] at hx ⊢
    by_cases e : r = p
    · subst e
      have hk := d1.1
      rw [(h3 s x hs (by omega)).2]
      exact hW s x hs hx
    · rw [hf 93 _ (by unfold kq kp; omega) (by omega) (by omega) (by omega) (by omega) (by have := d1.1; omega) (by omega)]
      exact d1.2.2.2.2.1 r s x hr hs hx
  · rw [e1]
    by_cases e : 6 * p ≤ j ∧ j < 6 * p + 6
    · have := h4 (j - 6 * p) (by omega)
      rw [show 6 * p + (j - 6 * p) = j by omega] at this
      rw [this]
      exact hE _ (by omega)
    · rw [hf 94 j (by unfold kq kp; omega) (by omega) (by omega) (by omega) (by omega) (by omega) (by omega)]
      exact d1.2.2.2.2.2 j hj
  · rw [e1, hf 0 0 (by unfold kq kp; omega) (by omega) (by omega) (by omega) (by omega) (by omega) (by omega)]
    exact d2.1
  · rw [hf _ _ (by unfold kq kp; omega) (by omega) (by omega) (by omega) (by omega) (by omega) (by omega), hf 87 _ (by unfold kq kp; omega) (by omega) (by omega) (by omega) (by omega) (by omega) (by omega)]
    exact d2.2.1 t q x ht hq hx
  · rw [hf _ _ (by unfold kq kp; omega) (by omega) (by omega) (by omega) (by omega) (by omega) (by omega), hf 88 _ (by unfold kq kp; omega) (by omega) (by omega) (by omega) (by omega) (by omega) (by omega)]
    exact d2.2.2.1 t q ht hq
  · by_cases e : r = p
    · subst e
      rw [(h1 s x hs hx).1, (h1 s x hs hx).2, (h3 s x hs hx).1, (h3 s x hs hx).2]
      exact ⟨rfl, rfl⟩
    · rw [hf (29 + 4 * r) _ (by unfold kq kp; omega) (by omega) (by omega) (by omega) (by omega) (by omega) (by omega), hf 92 _ (by unfold kq kp; omega) (by omega) (by omega) (by omega) (by omega) (by omega) (by omega), hf (30 + 4 * r) _ (by unfold kq kp; omega) (by omega) (by omega) (by omega) (by omega) (by omega) (by omega), hf 93 _ (by unfold kq kp; omega) (by omega) (by omega) (by omega) (by omega) (by omega) (by omega)]
      exact d2.2.2.2.1 r s x hr hs hx
  · by_cases e : r = p
    · subst e
      rw [h2 s hs, h4 s hs]
    · rw [hf _ _ (by unfold kq kp; omega) (by omega) (by omega) (by omega) (by omega) (by omega) (by omega), hf 94 _ (by unfold kq kp; omega) (by omega) (by omega) (by omega) (by omega) (by omega) (by omega)]
      exact d2.2.2.2.2 r s hr hs
  · rw [hf 1 _ (by unfold kq kp; omega) (by omega) (by omega) (by omega) (by omega) (by omega) (by omega), hf 99 _ (by unfold kq kp; omega) (by omega) (by omega) (by omega) (by omega) (by omega) (by omega)]
    exact d3.1 j hj
  · rw [hf 0 1 (by unfold kq kp; omega) (by omega) (by omega) (by omega) (by omega) (by omega) (by omega), d3.2]
    exact am_sm_congr 1296 (fun j _ _ => (hf 99 j (by unfold kq kp; omega) (by omega) (by omega) (by omega) (by omega) (by omega) (by omega)).symm)
  · rw [hf 54 1 (by unfold kq kp; omega) (by omega) (by omega) (by omega) (by omega) (by omega) (by omega)]
    exact d4.1.1
  · rw [hf 55 _ (by unfold kq kp; omega) (by omega) (by omega) (by omega) (by omega) (by omega) (by omega)]
    exact d4.1.2 i hi
  · rw [hf 86 31 (by unfold kq kp; omega) (by omega) (by omega) (by omega) (by omega) (by omega) (by omega)]
    exact d4.2.1.1
  · rw [hf 109 _ (by unfold kq kp; omega) (by omega) (by omega) (by omega) (by omega) (by omega) (by omega)]
    exact d4.2.1.2 i hi
  · rw [e1]
    exact d4.2.2.1 x hx
  · rw [hf 45 _ (by unfold kq kp; omega) (by omega) (by omega) (by omega) (by omega) (by omega) (by omega), hf 48 _ (by unfold kq kp; omega) (by omega) (by omega) (by omega) (by omega) (by omega) (by omega), hf 49 _ (by unfold kq kp; omega) (by omega) (by omega) (by omega) (by omega) (by omega) (by omega)]
    exact d5.1 j hj
  · rw [hf 46 _ (by unfold kq kp; omega) (by omega) (by omega) (by omega) (by omega) (by omega) (by omega), hf 50 _ (by unfold kq kp; omega) (by omega) (by omega) (by omega) (by omega) (by omega) (by omega)]
    exact d5.2 j hj
  · rw [hf 52 j (by unfold kq kp; omega) (by omega) (by omega) (by omega) (by omega) (by omega) (by omega)]
    exact d7 j hj
  · rw [hf (-2) j (by unfold kq kp; omega) (by omega) (by omega) (by omega) (by omega) (by omega) (by omega)]
    exact d6 j
theorem e_spot (hI : Inv S M) {p s x t w : Int} : am_CallN m8_spot [vr 0, vi p, vi s, vi x, vi t, vi w] KS M (fun r M1 => EQ m9_spot [vr 86, vi p, vi s, vi x, vi t, vi w] S r M1 ∧ am_sh m8_spot r) := by
  have hk := hI.1.1
  have hk0 : M 0 0 = M 86 1 := hI.2.1.1
  have hI2 : Inv S (am_up M 86 0 0) := hI.of (fr9.up (by unfold kp; omega)).x
  have bad : ¬ ((0 ≤ p ∧ p ≤ 3) ∧ (0 ≤ s ∧ s ≤ 5) ∧ (0 ≤ x ∧ x < M 86 1) ∧ (0 ≤ t ∧ t ≤ 5)) → EQ m9_spot [vr 86, vi p, vi s, vi x, vi t, vi w] S (some (vi (-1))) M := fun h => c9_spot hk (fun h' => absurd h' h) (fun h' => absurd h' h) (fun _ => ⟨rfl, hI2⟩)
  refine am_callN_sh (by decide +kernel) rfl rfl (Nat.le_of_ble_eq_true rfl) ?_
  refine g8_spot_0 ?_
  refine c8_programOf (fun hp => ?_) (fun hp => ?_)
  · obtain ⟨k1, k2, k3, k4, -⟩ := kdP hp
    refine g8_spot_5 (fun c => by exfalso; omega) (fun _ => ?_)
    refine g8_spot_12 ?_
    by_cases hs : 0 ≤ s ∧ s < 6
    · refine c8_in hs ?_
      refine g8_spot_18 (fun c => by exfalso; omega) (fun _ => ?_)
      refine g8_spot_21 ?_
      by_cases hx : 0 ≤ x ∧ x < M 0 0
      · refine c8_in hx ?_
        refine g8_spot_29 (fun _ => ?_) (fun c => by exfalso; omega)
        refine g8_spot_34 ?_
        by_cases ht : 0 ≤ t ∧ t < 6
        · refine c8_in ht ?_
          refine g8_spot_41 (fun _ => ?_) (fun c => by exfalso; omega)
          refine g8_spot_46 ?_
          rw [hk0]
          refine c8_isWord hk (fun hw => ?_) (fun hw => ?_)
          · refine g8_spot_55 (fun _ => ?_) (fun c => by exfalso; omega)
            refine g8_spot_61 k1 ?_
            refine q4_wordOf (hI.p hp) hs (by omega) ?_
            refine g8_spot_68 k1 ?_
            refine c4_lead k1 k2 k3 k4 hs (by omega) ?_
            refine g8_spot_81 ?_
            have ez : ∀ b j : Int, b ≠ 29 + 4 * p → b ≠ 30 + 4 * p → am_up (am_up M (29 + 4 * p) (s * 4 + x) t) (30 + 4 * p) (s * 4 + x) w b j = M b j := fun b j h1 h2 => by rw [am_upn (Or.inl h2), am_upn (Or.inl h1)]
            have en : ∀ s' x' : Int, 0 ≤ s' ∧ s' < 6 → 0 ≤ x' ∧ x' < 4 → am_up (am_up M (29 + 4 * p) (s * 4 + x) t) (30 + 4 * p) (s * 4 + x) w (29 + 4 * p) (s' * 4 + x') = (if s' = s ∧ x' = x then t else M 92 (24 * p + 4 * s' + x')) ∧ am_up (am_up M (29 + 4 * p) (s * 4 + x) t) (30 + 4 * p) (s * 4 + x) w (30 + 4 * p) (s' * 4 + x') = (if s' = s ∧ x' = x then w else M 93 (24 * p + 4 * s' + x')) := by
              intro s' x' hs' hx'
              have hh := hI.2.1.2.2.2.1 p s' x' hp hs' hx'
              by_cases e : s' = s ∧ x' = x
              · rw [if_pos e, if_pos e, e.1, e.2, am_upn (Or.inl (by omega)), am_up_hit, am_up_hit]
                exact ⟨rfl, rfl⟩
              · rw [if_neg e, if_neg e, am_upn (Or.inl (by omega)), am_upn (Or.inr (by omega)), am_upn (Or.inr (by omega)), am_upn (Or.inl (by omega))]
                exact hh
            generalize am_up (am_up M (29 + 4 * p) (s * 4 + x) t) (30 + 4 * p) (s * 4 + x) w = M1 at ez en
            have f1 : M1 86 1 = M 86 1 := ez 86 1 (by omega) (by omega)
            refine c9_spot (by rw [f1]; exact hk) (fun _ _ => ⟨?_, ?_⟩) (fun _ h => absurd (by rw [f1]; exact hw) h) (fun h => absurd ⟨hp, by omega, by rw [f1]; omega, by omega⟩ h)
            · rw [ez 93 _ (by omega) (by omega)]
              rfl
            · refine Inv_prog (p := p) (N := fun s' x' => if s' = s ∧ x' = x then t else M 92 (24 * p + 4 * s' + x')) (W := fun s' x' => if s' = s ∧ x' = x then w else M 93 (24 * p + 4 * s' + x')) (E := fun s' => M 94 (6 * p + s')) hI hp (fun s' x' hs' hx' => ?_) (fun s' x' hs' hx' => ?_) (fun s' hs' => hI.1.2.2.2.2.2 _ (by omega)) (fun s' x' hs' hx' => ?_) (fun s' hs' => ?_) (fun s' x' hs' hx' => ?_) (fun s' hs' => ?_) (fun b j hq h1 h2 h3 h4 h5 h6 => ?_)
              · show 0 ≤ (if s' = s ∧ x' = x then t else M 92 (24 * p + 4 * s' + x')) ∧ (if s' = s ∧ x' = x then t else M 92 (24 * p + 4 * s' + x')) < 6
                split
                · omega
                · exact hI.1.2.2.2.1 _ (by omega)
              · show wv (M 86 1) (if s' = s ∧ x' = x then w else M 93 (24 * p + 4 * s' + x'))
                split
                · exact isw_wv hk hw
                · exact hI.1.2.2.2.2.1 p s' x' (by omega) hs' hx'
              · rw [am_upn (Or.inl (by omega)), am_upn (Or.inl (by omega)), am_upn (Or.inl (by omega)), am_upn (Or.inl (by omega)), am_upn (Or.inl (by omega)), am_upn (Or.inl (by omega))]
                exact en s' x' hs' hx'
              · rw [am_upn (Or.inl (by omega)), am_upn (Or.inl (by omega)), am_upn (Or.inl (by omega)), ez _ _ (by omega) (by omega)]
                exact hI.2.1.2.2.2.2 p s' hp hs'
              · show _ = (if s' = s ∧ x' = x then t else M 92 (24 * p + 4 * s' + x')) ∧ _ = (if s' = s ∧ x' = x then w else M 93 (24 * p + 4 * s' + x'))
                by_cases e : s' = s ∧ x' = x
                · rw [if_pos e, if_pos e, e.1, e.2, am_up_hit, am_upn (Or.inl (by omega)), am_up_hit]
                  exact ⟨rfl, rfl⟩
                · rw [if_neg e, if_neg e, am_upn (Or.inr (by omega)), am_upn (Or.inl (by omega)), am_upn (Or.inl (by omega)), am_upn (Or.inl (by omega)), am_upn (Or.inr (by omega)), am_upn (Or.inl (by omega)), ez _ _ (by omega) (by omega), ez _ _ (by omega) (by omega)]
                  exact ⟨rfl, rfl⟩
              · rw [am_upn (Or.inl (by omega)), am_upn (Or.inl (by omega)), am_upn (Or.inl (by omega)), ez _ _ (by omega) (by omega)]
              · rw [am_upn (by omega), am_upn (by omega), am_upn (by unfold kq kp at hq; omega), ez b j h1 h2]
          · refine g8_spot_55 (fun c => by exfalso; omega) (fun _ => ?_)
            refine g8_spot_58 ?_
            exact c9_spot hk (fun _ h => absurd h hw) (fun _ _ => ⟨rfl, hI2⟩) (fun h => absurd ⟨hp, by omega, by omega, by omega⟩ h)
        · refine c8_out (by omega) ?_
          refine g8_spot_41 (fun c => by exfalso; omega) (fun _ => ?_)
          exact g8_spot_44 (bad (fun h => by omega))
      · refine c8_out (by omega) ?_
        refine g8_spot_29 (fun c => by exfalso; omega) (fun _ => ?_)
        exact g8_spot_32 (bad (fun h => by omega))
    · refine c8_out (by omega) ?_
      refine g8_spot_18 (fun _ => ?_) (fun c => by exfalso; omega)
      exact g8_spot_32 (bad (fun h => by omega))
  · refine g8_spot_5 (fun _ => ?_) (fun c => absurd rfl c)
    exact g8_spot_32 (bad (fun h => hp h.1))
theorem e_end (hI : Inv S M) {p s w : Int} : am_CallN m8_end [vr 0, vi p, vi s, vi w] KS M (fun r M1 => EQ m9_end [vr 86, vi p, vi s, vi w] S r M1 ∧ am_sh m8_end r) := by
  have hk := hI.1.1
  have hk0 : M 0 0 = M 86 1 := hI.2.1.1
  have hI2 : Inv S (am_up M 86 0 0) := hI.of (fr9.up (by unfold kp; omega)).x
  have bad : ¬ ((0 ≤ p ∧ p ≤ 3) ∧ (0 ≤ s ∧ s ≤ 5)) → EQ m9_end [vr 86, vi p, vi s, vi w] S (some (vi (-1))) M := fun h => c9_end hk (fun h' => absurd h' h) (fun h' => absurd h' h) (fun _ => ⟨rfl, hI2⟩)
  refine am_callN_sh (by decide +kernel) rfl rfl (Nat.le_of_ble_eq_true rfl) ?_
  refine g8_end_0 ?_
  refine c8_programOf (fun hp => ?_) (fun hp => ?_)
  · obtain ⟨k1, k2, k3, k4, -⟩ := kdP hp
    refine g8_end_5 (fun c => by exfalso; omega) (fun _ => ?_)
    refine g8_end_12 ?_
    by_cases hs : 0 ≤ s ∧ s < 6
    · have good : (w = -1 ∨ isw (M 86 1) w) → am_AtN m8_end 42 [some (vr 0), some (vi p), some (vi s), some (vi w), some (vr (28 + 4 * p)), none] [] KS M (EQ m9_end [vr 86, vi p, vi s, vi w] S) := by
        intro hw
        refine g8_end_42 k1 ?_
        refine q4_endOf (hI.p hp) hs ?_
        refine g8_end_48 k1 ?_
        refine c4_finish k1 k2 k3 k4 hs ?_
        refine g8_end_57 ?_
        have ez : ∀ b j : Int, b ≠ 31 + 4 * p → am_up M (31 + 4 * p) s w b j = M b j := fun b j h => am_upn (Or.inl h)
        have ee : ∀ s' : Int, 0 ≤ s' ∧ s' < 6 → am_up M (31 + 4 * p) s w (31 + 4 * p) s' = if s' = s then w else M 94 (6 * p + s') := by
          intro s' hs'
          by_cases e : s' = s
          · rw [if_pos e, e, am_up_hit]
          · rw [if_neg e, am_upn (Or.inr e)]
            exact hI.2.1.2.2.2.2 p s' hp hs'
        generalize am_up M (31 + 4 * p) s w = M1 at ez ee
        have f1 : M1 86 1 = M 86 1 := ez 86 1 (by omega)
        refine c9_end (by rw [f1]; exact hk) (fun _ _ => ⟨?_, ?_⟩) (fun _ h => absurd (by rw [f1]; exact hw) h) (fun h => absurd ⟨hp, by omega⟩ h)
        · rw [ez 94 _ (by omega)]
          rfl
        · refine Inv_prog (p := p) (N := fun s' x' => M 92 (24 * p + 4 * s' + x')) (W := fun s' x' => M 93 (24 * p + 4 * s' + x')) (E := fun s' => if s' = s then w else M 94 (6 * p + s')) hI hp (fun s' x' hs' hx' => hI.1.2.2.2.1 _ (by omega)) (fun s' x' hs' hx' => hI.1.2.2.2.2.1 p s' x' (by omega) hs' hx') (fun s' hs' => ?_) (fun s' x' hs' hx' => ?_) (fun s' hs' => ?_) (fun s' x' hs' hx' => ?_) (fun s' hs' => ?_) (fun b j hq h1 h2 h3 h4 h5 h6 => ?_)
          · show (if s' = s then w else M 94 (6 * p + s')) = -1 ∨ wv (M 86 1) (if s' = s then w else M 94 (6 * p + s'))
            split
            · rcases hw with h | h
              · exact Or.inl h
              · exact Or.inr (isw_wv hk h)
            · exact hI.1.2.2.2.2.2 _ (by omega)
          · rw [am_upn (Or.inl (by omega)), am_upn (Or.inl (by omega)), am_upn (Or.inl (by omega)), am_upn (Or.inl (by omega)), ez _ _ (by omega), ez _ _ (by omega)]
            exact hI.2.1.2.2.2.1 p s' x' hp hs' hx'
          · rw [am_upn (Or.inl (by omega)), am_upn (Or.inl (by omega))]
            exact ee s' hs'
          · rw [am_upn (Or.inl (by omega)), am_upn (Or.inl (by omega)), am_upn (Or.inl (by omega)), am_upn (Or.inl (by omega)), ez _ _ (by omega), ez _ _ (by omega)]
            exact ⟨rfl, rfl⟩
          · show _ = if s' = s then w else M 94 (6 * p + s')
            by_cases e : s' = s
            · rw [if_pos e, e, am_up_hit]
            · rw [if_neg e, am_upn (Or.inr (by omega)), am_upn (Or.inl (by omega)), ez _ _ (by omega)]
          · rw [am_upn (by omega), am_upn (by unfold kq kp at hq; omega), ez b j h3]
      refine c8_in hs ?_
      refine g8_end_18 (fun _ => ?_) (fun c => by exfalso; omega)
      refine g8_end_23 (fun c => good (Or.inl c)) (fun c => ?_)
      refine g8_end_28 ?_
      rw [hk0]
      refine c8_isWord hk (fun hw => ?_) (fun hw => ?_)
      · exact g8_end_36 (fun _ => good (Or.inr hw)) (fun c => by exfalso; omega)
      · refine g8_end_36 (fun c => by exfalso; omega) (fun _ => ?_)
        refine g8_end_39 ?_
        exact c9_end hk (fun _ h => by exfalso; rcases h with h | h; exact c h; exact hw h) (fun _ _ => ⟨rfl, hI2⟩) (fun h => absurd ⟨hp, by omega⟩ h)
    · refine c8_out (by omega) ?_
      refine g8_end_18 (fun c => by exfalso; omega) (fun _ => ?_)
      exact g8_end_21 (bad (fun h => by omega))
  · refine g8_end_5 (fun _ => ?_) (fun c => absurd rfl c)
    exact g8_end_21 (bad (fun h => hp h.1))
theorem e_of (hI : Inv S M) {p s x w : Int} : am_CallN m8_of [vr 0, vi p, vi s, vi x, vi w] KS M (fun r M1 => EQ m9_of [vr 86, vi p, vi s, vi x, vi w] S r M1 ∧ am_sh m8_of r) := by
  have hk := hI.1.1
  have hk0 : M 0 0 = M 86 1 := hI.2.1.1
  have hI2 : Inv S (am_up M 86 0 0) := hI.of (fr9.up (by unfold kp; omega)).x
  have bad : ¬ ((0 ≤ p ∧ p ≤ 3) ∧ (0 ≤ s ∧ s ≤ 5) ∧ (0 ≤ x ∧ x ≤ M 86 1)) → EQ m9_of [vr 86, vi p, vi s, vi x, vi w] S (some (vi (-1))) M := fun h => c9_of hk (fun h' => absurd h' h) (fun h' => absurd h' h) (fun _ => ⟨rfl, hI2⟩)
  refine am_callN_sh (by decide +kernel) rfl rfl (Nat.le_of_ble_eq_true rfl) ?_
  refine g8_of_0 ?_
  refine c8_programOf (fun hp => ?_) (fun hp => ?_)
  · obtain ⟨k1, k2, k3, k4, -⟩ := kdP hp
    refine g8_of_5 (fun c => by exfalso; omega) (fun _ => ?_)
    refine g8_of_12 ?_
    by_cases hs : 0 ≤ s ∧ s < 6
    · refine c8_in hs ?_
      refine g8_of_18 (fun c => by exfalso; omega) (fun _ => ?_)
      refine g8_of_21 (by omega) ?_
      by_cases hx : 0 ≤ x ∧ x < M 0 0 + 1
      · have good : ∀ r : Int, ¬ (¬ (0 ≤ w ∧ w ≤ 1) ∨ (x = M 86 1 ∧ w = 0)) → r = (if x = M 86 1 then M 94 (6 * p + s) else if w = 0 then M 92 (24 * p + 4 * s + x) else M 93 (24 * p + 4 * s + x)) → EQ m9_of [vr 86, vi p, vi s, vi x, vi w] S (some (vi r)) M := fun r h hr => c9_of hk (fun _ _ => ⟨by rw [hr], hI2⟩) (fun _ h' => absurd h' h) (fun h' => absurd ⟨hp, by omega, by omega⟩ h')
        have badw : (¬ (0 ≤ w ∧ w ≤ 1) ∨ (x = M 86 1 ∧ w = 0)) → EQ m9_of [vr 86, vi p, vi s, vi x, vi w] S (some (vi (-2))) M := fun h => c9_of hk (fun _ h' => absurd h h') (fun _ _ => ⟨rfl, hI2⟩) (fun h' => absurd ⟨hp, by omega, by omega⟩ h')
        refine c8_in hx ?_
        refine g8_of_31 (fun _ => ?_) (fun c => by exfalso; omega)
        have rest : ∀ z : Int, (z = 1 ∧ x = M 86 1) ∨ (z = 0 ∧ x ≠ M 86 1) → am_AtN m8_of 49 [some (vr 0), some (vi p), some (vi s), some (vi x), some (vi w), some (vr (28 + 4 * p)), none] [vi z] KS M (EQ m9_of [vr 86, vi p, vi s, vi x, vi w] S) := by
          intro z hz
          have t69 : ¬ (w = 0 ∧ z = 0) → am_AtN m8_of 69 [some (vr 0), some (vi p), some (vi s), some (vi x), some (vi w), some (vr (28 + 4 * p)), some (vi z)] [] KS M (EQ m9_of [vr 86, vi p, vi s, vi x, vi w] S) := by
            intro hn
            refine g8_of_69 (fun c => ?_) (fun c => ?_)
            · exact g8_of_97 (badw (by omega))
            · refine g8_of_75 (fun c2 => ?_) (fun c2 => ?_)
              · refine g8_of_89 k1 ?_
                refine q4_wordOf (hI.p hp) hs (by omega) ?_
                refine g8_of_96 (good _ (by omega) ?_)
                rw [if_neg (by omega), if_neg (by omega)]
                rfl
              · refine g8_of_80 k1 ?_
                refine q4_endOf (hI.p hp) hs ?_
                refine g8_of_86 (g8_of_96 (good _ (by omega) ?_))
                rw [if_pos (by omega)]
                rfl
          refine g8_of_49 (fun c => t69 (by omega)) (fun c => ?_)
          refine g8_of_56 (fun c2 => t69 (by omega)) (fun c2 => ?_)
          refine g8_of_61 k1 ?_
          refine q4_nextOf (hI.p hp) hs (by omega) ?_
          refine g8_of_68 (good _ (by omega) ?_)
          rw [if_neg (by omega), if_pos c]
          rfl
        refine g8_of_36 (fun c => ?_) (fun c => ?_)
        · exact g8_of_48 (rest 0 (Or.inr ⟨rfl, by omega⟩))
        · exact g8_of_44 (rest 1 (Or.inl ⟨rfl, by omega⟩))
      · refine c8_out hx ?_
        refine g8_of_31 (fun c => by exfalso; omega) (fun _ => ?_)
        exact g8_of_34 (bad (fun h => by omega))
    · refine c8_out (by omega) ?_
      refine g8_of_18 (fun _ => ?_) (fun c => by exfalso; omega)
      exact g8_of_34 (bad (fun h => by omega))
  · refine g8_of_5 (fun _ => ?_) (fun c => absurd rfl c)
    exact g8_of_34 (bad (fun h => hp h.1))
theorem wv1 {k x : Int} (hk : 2 ≤ k ∧ k ≤ 4) (hx : 0 ≤ x ∧ x < k) : wv k (1 + x) := by
  refine ⟨by omega, by omega, fun y hy => ?_⟩
  unfold wl at hy
  rw [if_neg (by omega), if_pos (by omega)] at hy
  rw [List.mem_singleton.mp hy]
  omega
theorem wv0 {k : Int} : wv k 0 := by
  refine ⟨by omega, by omega, fun y hy => ?_⟩
  unfold wl at hy
  rw [if_pos (by omega)] at hy
  cases hy
/-- all as at first, with k letters -/
theorem Inv_new {M2 : am_M} {k : Int} (hk : 2 ≤ k ∧ k ≤ 4) (h0 : M2 0 0 = k) (h1 : M2 86 1 = k)
    (hS : ∀ s : Int, 0 ≤ s ∧ s ≤ 7 → (∀ j : Int, 0 ≤ j ∧ j < 24 → M2 (4 + 3 * s) j = 0) ∧ ∀ j : Int, 0 ≤ j ∧ j < 6 → M2 (5 + 3 * s) j = 1)
    (hP : ∀ p : Int, 0 ≤ p ∧ p ≤ 3 → (∀ j : Int, 0 ≤ j ∧ j < 24 → M2 (29 + 4 * p) j = 0 ∧ M2 (30 + 4 * p) j = 1 + j % 4) ∧ ∀ j : Int, 0 ≤ j ∧ j < 6 → M2 (31 + 4 * p) j = 0)
    (h87 : ∀ j : Int, 0 ≤ j ∧ j < 192 → M2 87 j = 0) (h88 : ∀ j : Int, 0 ≤ j ∧ j < 48 → M2 88 j = 1) (h92 : ∀ j : Int, 0 ≤ j ∧ j < 96 → M2 92 j = 0 ∧ M2 93 j = 1 + j % 4) (h94 : ∀ j : Int, 0 ≤ j ∧ j < 24 → M2 94 j = 0)
    (h99 : ∀ j : Int, 0 ≤ j ∧ j < 1296 → M2 1 j = 0 ∧ M2 99 j = 0) (h01 : M2 0 1 = 0) (h54 : M2 54 1 = 0) (h31 : M2 86 31 = 0) (h4 : Iv4 M2) (h5 : Iv5 M2) (h6 : ∀ j : Int, M2 (-2) j = S j) : Inv S M2 := by
  refine ⟨⟨by rw [h1]; exact hk, fun j hj => by rw [h87 j hj]; omega, fun j hj => Or.inr (h88 j hj), fun j hj => by rw [(h92 j hj).1]; omega, fun p s x hp hs hx => ?_, fun j hj => Or.inr ?_⟩, ⟨by rw [h0, h1], fun s p x hs hp hx => ?_, fun s p hs hp => ?_, fun p s x hp hs hx => ?_, fun p s hp hs => ?_⟩, ⟨fun j hj => ?_, ?_⟩, ⟨[], ⟨h54, fun i hi => absurd hi (by simp)⟩, ⟨h31, fun i hi => absurd hi (by simp)⟩, fun x hx => (by cases hx), by simp⟩, h4, h5, h6⟩
  · rw [h1] at hx ⊢
    rw [(h92 _ (by omega)).2, show (24 * p + 4 * s + x) % 4 = x by omega]
    exact wv1 hk hx
  · rw [h94 j hj]
    exact wv0
  · rw [(hS s hs).1 _ (by omega), h87 _ (by omega)]
  · rw [(hS s hs).2 _ hp, h88 _ (by omega)]
  · rw [((hP p hp).1 _ (by omega)).1, ((hP p hp).1 _ (by omega)).2, (h92 _ (by omega)).1, (h92 _ (by omega)).2, show (s * 4 + x) % 4 = x by omega, show (24 * p + 4 * s + x) % 4 = x by omega]
    exact ⟨rfl, rfl⟩
  · rw [(hP p hp).2 s hs, h94 _ (by omega)]
  · rw [(h99 j hj).1, (h99 j hj).2]
    exact ⟨rfl, Or.inl rfl⟩
  · rw [h01, am_sm_congr (g := fun _ => 0) 1296 (fun j h0 h1 => (h99 j ⟨h0, by omega⟩).2), am_sm_zero]
theorem e_letters (hI : Inv S M) {k : Int} : am_CallN m8_letters [vr 0, vi k] KS M (fun r M1 => EQ m9_letters [vr 86, vi k] S r M1 ∧ am_sh m8_letters r) := by
  have hk0 : M 0 0 = M 86 1 := hI.2.1.1
  have hI2 : Inv S (am_up M 86 0 0) := hI.of (fr9.up (by unfold kp; omega)).x
  have bad : ¬ (2 ≤ k ∧ k ≤ 4) → EQ m9_letters [vr 86, vi k] S (some (vi (-2))) M := fun h => c9_letters (fun h' => absurd h' h) (fun _ => ⟨rfl, hI2⟩)
  refine am_callN_sh (by decide +kernel) rfl rfl (Nat.le_of_ble_eq_true rfl) ?_
  refine g8_letters_0 (fun c => g8_letters_10 (bad (by omega))) (fun c => ?_)
  refine g8_letters_5 (fun c2 => ?_) (fun c2 => g8_letters_10 (bad (by omega)))
  have hk : 2 ≤ k ∧ k ≤ 4 := by omega
  refine g8_letters_13 ?_
  refine am_forR (fun i ls M1 => ls = [some (vr 0), some (vi k), some (vi (M 0 0)), some (vi i)] ∧ (∀ s : Int, 0 ≤ s ∧ s < i → (∀ j : Int, 0 ≤ j ∧ j < 24 → M1 (4 + 3 * s) j = 0) ∧ ∀ j : Int, 0 ≤ j ∧ j < 6 → M1 (5 + 3 * s) j = 1) ∧ ∀ b j : Int, ¬ (3 ≤ b ∧ b ≤ 26) → M1 b j = am_up M 0 0 k b j) 0 8 (by omega) ⟨rfl, fun s hs => by exfalso; omega, fun _ _ _ => rfl⟩ ?_ ?_
  · rintro ls M1 ⟨rfl, hS1, hf1⟩
    refine g8_letters_25 (fun _ => ?_) (fun c => by exfalso; omega)
    refine g8_letters_46 ?_
    refine am_forR (fun i ls M2 => ls = [some (vr 0), some (vi k), some (vi (M 0 0)), some (vi i)] ∧ (∀ p : Int, 0 ≤ p ∧ p < i → (∀ j : Int, 0 ≤ j ∧ j < 24 → M2 (29 + 4 * p) j = 0 ∧ M2 (30 + 4 * p) j = 1 + j % 4) ∧ ∀ j : Int, 0 ≤ j ∧ j < 6 → M2 (31 + 4 * p) j = 0) ∧ ∀ b j : Int, ¬ (28 ≤ b ∧ b ≤ 43) → M2 b j = M1 b j) 0 4 (by omega) ⟨rfl, fun s hs => by exfalso; omega, fun _ _ _ => rfl⟩ ?_ ?_
    · rintro ls M2 ⟨rfl, hP2, hf2⟩
      refine g8_letters_48 (fun _ => ?_) (fun c => by exfalso; omega)
      refine g8_letters_68 ?_
      refine cJ_fill kd1 (by omega) ?_
      refine g8_letters_76 ?_
      refine c5_empty kd54 ?_
      refine g8_letters_88 ?_
      have e3 : ∀ b j : Int, b ≠ 1 → (b ≠ 0 ∨ j ≠ 1) → (b ≠ 54 ∨ j ≠ 1) → am_up (am_up (am_fl M2 1 0 1296 (fun _ => 0)) 0 1 0) 54 1 0 b j = M2 b j := fun b j h1 h2 h3 => by rw [am_upn h3, am_upn h2, am_fl_out (by omega)]
      have e4 : ∀ j : Int, 0 ≤ j ∧ j < 1296 → am_up (am_up (am_fl M2 1 0 1296 (fun _ => 0)) 0 1 0) 54 1 0 1 j = 0 := fun j hj => by rw [am_upn (Or.inl (by omega)), am_upn (Or.inl (by omega)), am_fl_in (by omega)]
      have e5 : am_up (am_up (am_fl M2 1 0 1296 (fun _ => 0)) 0 1 0) 54 1 0 0 1 = 0 := by rw [am_upn (Or.inl (by omega)), am_up_hit]
      have e6 : am_up (am_up (am_fl M2 1 0 1296 (fun _ => 0)) 0 1 0) 54 1 0 54 1 = 0 := am_up_hit
      generalize am_up (am_up (am_fl M2 1 0 1296 (fun _ => 0)) 0 1 0) 54 1 0 = M3 at e3 e4 e5 e6
      have e7 : ∀ b j : Int, b ≠ 1 → b ≠ 0 → b ≠ 54 → ¬ (28 ≤ b ∧ b ≤ 43) → ¬ (3 ≤ b ∧ b ≤ 26) → M3 b j = M b j := fun b j h1 h2 h3 h4 h5 => by rw [e3 b j h1 (Or.inl h2) (Or.inl h3), hf2 b j h4, hf1 b j h5, am_upn (Or.inl h2)]
      refine c9_letters (fun _ => ⟨?_, ?_⟩) (fun h => absurd hk h)
      · rw [e7 86 1 (by omega) (by omega) (by omega) (by omega) (by omega), hk0]
      · have b0 : ∀ b j : Int, ¬ (86 ≤ b ∧ b ≤ 88) → ¬ (92 ≤ b ∧ b ≤ 94) → b ≠ 99 → bg (am_up M3 86 0 0) k b j = M3 b j := by
          intro b j h1 h2 h3
          unfold bg bg2 bg1
          rw [am_upn (Or.inl (by omega)), am_fl_out (by omega), am_fl_out (by omega), am_fl_out (by omega), am_fl_out (by omega), am_fl_out (by omega), am_fl_out (by omega), am_upn (Or.inl (by omega)), am_upn (Or.inl (by omega))]
        refine Inv_new hk ?_ ?_ (fun s hs => ⟨fun j hj => ?_, fun j hj => ?_⟩) (fun p hp => ⟨fun j hj => ⟨?_, ?_⟩, fun j hj => ?_⟩) (fun j hj => ?_) (fun j hj => ?_) (fun j hj => ⟨?_, ?_⟩) (fun j hj => ?_) (fun j hj => ⟨?_, ?_⟩) ?_ ?_ ?_ ⟨fun j hj => ?_, fun j hj => ?_⟩ (fun j hj => ?_) (fun j => ?_)
        · rw [b0 0 0 (by omega) (by omega) (by omega), e3 0 0 (by omega) (by omega) (by omega), hf2 0 0 (by omega), hf1 0 0 (by omega), am_up_hit]
        · unfold bg bg2 bg1
          rw [am_upn (Or.inr (by omega)), am_fl_out (by omega), am_fl_out (by omega), am_fl_out (by omega), am_fl_out (by omega), am_fl_out (by omega), am_fl_out (by omega), am_up_hit]
        · rw [b0 _ _ (by omega) (by omega) (by omega), e3 _ _ (by omega) (Or.inl (by omega)) (Or.inl (by omega)), hf2 _ _ (by omega)]
          exact (hS1 s (by omega)).1 j hj
        · rw [b0 _ _ (by omega) (by omega) (by omega), e3 _ _ (by omega) (Or.inl (by omega)) (Or.inl (by omega)), hf2 _ _ (by omega)]
          exact (hS1 s (by omega)).2 j hj
        · rw [b0 _ _ (by omega) (by omega) (by omega), e3 _ _ (by omega) (Or.inl (by omega)) (Or.inl (by omega))]
          exact ((hP2 p (by omega)).1 j hj).1
        · rw [b0 _ _ (by omega) (by omega) (by omega), e3 _ _ (by omega) (Or.inl (by omega)) (Or.inl (by omega))]
          exact ((hP2 p (by omega)).1 j hj).2
        · rw [b0 _ _ (by omega) (by omega) (by omega), e3 _ _ (by omega) (Or.inl (by omega)) (Or.inl (by omega))]
          exact (hP2 p (by omega)).2 j hj
        · unfold bg bg2 bg1
          rw [am_upn (Or.inl (by omega)), am_fl_out (by omega), am_fl_out (by omega), am_fl_out (by omega), am_fl_out (by omega), am_fl_out (by omega), am_fl_in (by omega)]
        · unfold bg bg2 bg1
          rw [am_upn (Or.inl (by omega)), am_fl_out (by omega), am_fl_out (by omega), am_fl_out (by omega), am_fl_out (by omega), am_fl_in (by omega)]
        · unfold bg bg2
          rw [am_upn (Or.inl (by omega)), am_fl_out (by omega), am_fl_out (by omega), am_fl_out (by omega), am_fl_in (by omega)]
        · unfold bg bg2
          rw [am_upn (Or.inl (by omega)), am_fl_out (by omega), am_fl_out (by omega), am_fl_in (by omega)]
        · unfold bg
          rw [am_upn (Or.inl (by omega)), am_fl_out (by omega), am_fl_in (by omega)]
        · rw [b0 _ _ (by omega) (by omega) (by omega)]
          exact e4 j hj
        · unfold bg
          rw [am_upn (Or.inl (by omega)), am_fl_in (by omega)]
        · rw [b0 _ _ (by omega) (by omega) (by omega)]
          exact e5
        · rw [b0 _ _ (by omega) (by omega) (by omega)]
          exact e6
        · unfold bg
          rw [am_up_hit]
        · rw [b0 45 _ (by omega) (by omega) (by omega), b0 48 _ (by omega) (by omega) (by omega), b0 49 _ (by omega) (by omega) (by omega), e7 45 _ (by omega) (by omega) (by omega) (by omega) (by omega), e7 48 _ (by omega) (by omega) (by omega) (by omega) (by omega), e7 49 _ (by omega) (by omega) (by omega) (by omega) (by omega)]
          exact hI.2.2.2.2.1.1 j hj
        · rw [b0 46 _ (by omega) (by omega) (by omega), b0 50 _ (by omega) (by omega) (by omega), e7 46 _ (by omega) (by omega) (by omega) (by omega) (by omega), e7 50 _ (by omega) (by omega) (by omega) (by omega) (by omega)]
          exact hI.2.2.2.2.1.2 j hj
        · rw [b0 52 _ (by omega) (by omega) (by omega), e7 52 _ (by omega) (by omega) (by omega) (by omega) (by omega)]
          exact hI.2.2.2.2.2.1 j hj
        · rw [b0 (-2) _ (by omega) (by omega) (by omega), e7 (-2) _ (by omega) (by omega) (by omega) (by omega) (by omega)]
          exact hI.2.2.2.2.2.2 j
    · rintro i ls M2 hi0 hi1 ⟨rfl, hP2, hf2⟩ ih
      obtain ⟨q1, q2, q3, q4, q5⟩ := kdP (i := i) ⟨hi0, by omega⟩
      refine g8_letters_48 (fun c => by exfalso; omega) (fun _ => ?_)
      refine g8_letters_53 hi0 hi1 (by rw [q5]; exact q1) ?_
      rw [q5]
      refine c4_startAnew q1 q2 q3 q4 (by omega) ?_
      refine g8_letters_62 (by omega) ?_
      refine ih _ _ ⟨rfl, fun p hp => ?_, fun b j hb => ?_⟩
      · by_cases e : p = i
        · subst e
          refine ⟨fun j hj => ⟨?_, ?_⟩, fun j hj => ?_⟩
          · unfold am_pb
            rw [if_neg (by omega), if_pos (by omega)]
          · unfold am_pb
            rw [if_neg (by omega), if_neg (by omega), if_pos (by omega)]
          · unfold am_pb
            rw [if_pos (by omega)]
        · have h := hP2 p (by omega)
          refine ⟨fun j hj => ⟨?_, ?_⟩, fun j hj => ?_⟩
          · unfold am_pb
            rw [if_neg (by omega), if_neg (by omega), if_neg (by omega)]
            exact (h.1 j hj).1
          · unfold am_pb
            rw [if_neg (by omega), if_neg (by omega), if_neg (by omega)]
            exact (h.1 j hj).2
          · unfold am_pb
            rw [if_neg (by omega), if_neg (by omega), if_neg (by omega)]
            exact h.2 j hj
      · unfold am_pb
        rw [if_neg (by omega), if_neg (by omega), if_neg (by omega)]
        exact hf2 b j hb
  · rintro i ls M1 hi0 hi1 ⟨rfl, hS1, hf1⟩ ih
    obtain ⟨q1, q2, q3, q5⟩ := kdS (i := i) ⟨hi0, by omega⟩
    refine g8_letters_25 (fun c => by exfalso; omega) (fun _ => ?_)
    refine g8_letters_31 hi0 hi1 (by rw [q5]; exact q1) ?_
    rw [q5]
    refine c6_startAnew q1 q2 q3 ?_
    refine g8_letters_40 (by omega) ?_
    refine ih _ _ ⟨rfl, fun s hs => ?_, fun b j hb => ?_⟩
    · by_cases e : s = i
      · subst e
        refine ⟨fun j hj => ?_, fun j hj => ?_⟩
        · rw [am_fl_out (by omega), am_fl_in (by omega)]
        · rw [am_fl_in (by omega)]
      · have h := hS1 s (by omega)
        refine ⟨fun j hj => ?_, fun j hj => ?_⟩
        · rw [am_fl_out (by omega), am_fl_out (by omega)]
          exact h.1 j hj
        · rw [am_fl_out (by omega), am_fl_out (by omega)]
          exact h.2 j hj
    · rw [am_fl_out (by omega), am_fl_out (by omega)]
      exact hf1 b j hb
end
