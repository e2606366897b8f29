/-! ===== what holds between calls ===== -/
def kq (b j : Int) : Prop := b ≠ 53 ∧ ¬ (56 ≤ b ∧ b ≤ 85) ∧ kp b j
def fx (M M' : am_M) : Prop := ∀ b j : Int, kq b j → M' b j = M b j
theorem fx.rf {M : am_M} : fx M M := fun _ _ _ => rfl
theorem fx.tr {M M' M'' : am_M} (h : fx M M') (h' : fx M' M'') : fx M M'' := fun b j hk => (h' b j hk).trans (h b j hk)
theorem fr9.x {M M' : am_M} (h : fr9 M M') : fx M M' := fun b j hk => h b j hk.2.2
def Iv1 (M : am_M) : Prop := M 0 0 = M 86 1 ∧ (∀ s p x : Int, 0 ≤ s ∧ s ≤ 7 → 0 ≤ p ∧ p < 6 → 0 ≤ x ∧ x < 4 → M (4 + 3 * s) (p * 4 + x) = M 87 (24 * s + 4 * p + x)) ∧ (∀ s p : Int, 0 ≤ s ∧ s ≤ 7 → 0 ≤ p ∧ p < 6 → M (5 + 3 * s) p = M 88 (6 * s + p)) ∧ (∀ p s x : Int, 0 ≤ p ∧ p ≤ 3 → 0 ≤ s ∧ s < 6 → 0 ≤ x ∧ x < 4 → M (29 + 4 * p) (s * 4 + x) = M 92 (24 * p + 4 * s + x) ∧ M (30 + 4 * p) (s * 4 + x) = M 93 (24 * p + 4 * s + x)) ∧ ∀ p s : Int, 0 ≤ p ∧ p ≤ 3 → 0 ≤ s ∧ s < 6 → M (31 + 4 * p) s = M 94 (6 * p + s)
def Iv2 (M : am_M) : Prop := (∀ j : Int, 0 ≤ j ∧ j < 1296 → M 1 j = M 99 j ∧ (M 99 j = 0 ∨ M 99 j = 1)) ∧ M 0 1 = am_sm (M 99) 1296
def Iv3 (M : am_M) (L : List Int) : Prop := rw_ M 54 55 L ∧ rm M L ∧ (∀ x ∈ L, 0 ≤ x ∧ x < M 86 1) ∧ L.length ≤ 24
def Iv4 (M : am_M) : Prop := (∀ j : Int, 0 ≤ j ∧ j < 24 → M 45 j = 0 ∧ M 48 j = 0 ∧ M 49 j = 1 + j % 4) ∧ ∀ j : Int, 0 ≤ j ∧ j < 6 → M 46 j = 1 ∧ M 50 j = 0
def Iv5 (M : am_M) : Prop := ∀ j : Int, 0 ≤ j ∧ j < 24 → 0 ≤ M 52 j ∧ M 52 j < 6
def Inv (S : Int → Int) (M : am_M) : Prop := mdat M ∧ Iv1 M ∧ Iv2 M ∧ (∃ L, Iv3 M L) ∧ Iv4 M ∧ Iv5 M ∧ ∀ j : Int, M (-2) j = S j
/-- the data of the reference, over the frame -/
theorem mdat.ofx {M M' : am_M} (h : mdat M) (hf : fx M M') : mdat M' := by
  have e : ∀ b j : Int, b = 87 ∨ b = 88 ∨ b = 92 ∨ b = 93 ∨ b = 94 → M' b j = M b j := fun b j hb => hf b j (by unfold kq kp; omega)
  have e1 : M' 86 1 = M 86 1 := hf 86 1 (by unfold kq kp; omega)
  refine ⟨by rw [e1]; exact h.1, fun j hj => ?_, fun j hj => ?_, fun j hj => ?_, fun p s x hp hs hx => ?_, fun j hj => ?_⟩
  · rw [e 87 j (by omega)]
    exact h.2.1 j hj
  · rw [e 88 j (by omega)]
    exact h.2.2.1 j hj
  · rw [e 92 j (by omega)]
    exact h.2.2.2.1 j hj
  · rw [e1] at hx ⊢
    rw [e 93 _ (by omega)]
    exact h.2.2.2.2.1 p s x hp hs hx
  · rw [e1, e 94 j (by omega)]
    exact h.2.2.2.2.2 j hj
theorem fx.gsm {M M' : am_M} (h : fx M M') : sm M' = sm M := by
  funext a
  unfold sm
  refine Prod.ext ?_ ?_
  · funext p x
    exact h 87 _ (by unfold kq kp; omega)
  · funext p
    exact h 88 _ (by unfold kq kp; omega)
theorem fx.gpm {M M' : am_M} (h : fx M M') : pm M' = pm M := by
  funext a
  unfold pm
  refine Prod.ext ?_ (Prod.ext ?_ ?_)
  · funext p x
    exact h 92 _ (by unfold kq kp; omega)
  · funext p x
    exact h 93 _ (by unfold kq kp; omega)
  · funext p
    exact h 94 _ (by unfold kq kp; omega)
theorem fx.gk {M M' : am_M} (h : fx M M') : M' 86 1 = M 86 1 := h 86 1 (by unfold kq kp; omega)
theorem fx.gcm {M M' : am_M} (h : fx M M') {a p q b : Int} : cm M' a p q b = cm M a p q b := by
  unfold cm qm
  rw [h.gsm, h.gpm]
theorem Inv.of {S : Int → Int} {M M' : am_M} (h : Inv S M) (hf : fx M M') : Inv S M' := by
  obtain ⟨h1, h2, h3, ⟨L, h4⟩, h5, h7, h6⟩ := h
  have e1 := hf.gk
  refine ⟨h1.ofx hf, ⟨?_, fun s p x hs hp hx => ?_, fun s p hs hp => ?_, fun p s x hp hs hx => ?_, fun p s hp hs => ?_⟩, ⟨fun j hj => ?_, ?_⟩, ⟨L, ⟨?_, fun i hi => ?_⟩, ⟨?_, fun i hi => ?_⟩, fun x hx => ?_, h4.2.2.2⟩, ⟨fun j hj => ?_, fun j hj => ?_⟩, fun j hj => ?_, fun j => ?_⟩
  · rw [e1, hf 0 0 (by unfold kq kp; omega)]
    exact h2.1
  · rw [hf _ _ (by unfold kq kp; omega), hf 87 _ (by unfold kq kp; omega)]
    exact h2.2.1 s p x hs hp hx
  · rw [hf _ _ (by unfold kq kp; omega), hf 88 _ (by unfold kq kp; omega)]
    exact h2.2.2.1 s p hs hp
  · rw [hf (29 + 4 * p) _ (by unfold kq kp; omega), hf 92 _ (by unfold kq kp; omega), hf (30 + 4 * p) _ (by unfold kq kp; omega), hf 93 _ (by unfold kq kp; omega)]
    exact h2.2.2.2.1 p s x hp hs hx
  · rw [hf _ _ (by unfold kq kp; omega), hf 94 _ (by unfold kq kp; omega)]
    exact h2.2.2.2.2 p s hp hs
  · rw [hf 1 _ (by unfold kq kp; omega), hf 99 _ (by unfold kq kp; omega)]
    exact h3.1 j hj
  · rw [hf 0 1 (by unfold kq kp; omega), h3.2]
    exact am_sm_congr 1296 (fun j _ _ => (hf 99 j (by unfold kq kp; omega)).symm)
  · rw [hf 54 1 (by unfold kq kp; omega)]
    exact h4.1.1
  · rw [hf 55 _ (by unfold kq kp; omega)]
    exact h4.1.2 i hi
  · rw [hf 86 31 (by unfold kq kp; omega)]
    exact h4.2.1.1
  · rw [hf 109 _ (by unfold kq kp; omega)]
    exact h4.2.1.2 i hi
  · rw [e1]
    exact h4.2.2.1 x hx
  · rw [hf 45 _ (by unfold kq kp; omega), hf 48 _ (by unfold kq kp; omega), hf 49 _ (by unfold kq kp; omega)]
    exact h5.1 j hj
  · rw [hf 46 _ (by unfold kq kp; omega), hf 50 _ (by unfold kq kp; omega)]
    exact h5.2 j hj
  · rw [hf 52 j (by unfold kq kp; omega)]
    exact h7 j hj
  · rw [hf (-2) j (by unfold kq kp; omega)]
    exact h6 j
def EQ (mi : am_I) (as : List am_V) (S : Int → Int) (r : Option am_V) (M1 : am_M) : Prop := am_CallN mi as KS M1 (fun r' M2 => r' = r ∧ Inv S M2)
theorem kdS {i : Int} (hi : 0 ≤ i ∧ i ≤ 7) : am_kd KS (3 + 3 * i) = some (6, 2, [4 + 3 * i, 5 + 3 * i]) ∧ am_kd KS (4 + 3 * i) = some (11, 24, []) ∧ am_kd KS (5 + 3 * i) = some (11, 6, []) ∧ ([3, 6, 9, 12, 15, 18, 21, 24] : List Int).getD (Int.toNat i) (-1) = 3 + 3 * i := by
  have : i = 0 ∨ i = 1 ∨ i = 2 ∨ i = 3 ∨ i = 4 ∨ i = 5 ∨ i = 6 ∨ i = 7 := by omega
  rcases this with rfl | rfl | rfl | rfl | rfl | rfl | rfl | rfl <;> exact ⟨rfl, rfl, rfl, rfl⟩
theorem kdP {i : Int} (hi : 0 ≤ i ∧ i ≤ 3) : am_kd KS (28 + 4 * i) = some (4, 3, [29 + 4 * i, 30 + 4 * i, 31 + 4 * i]) ∧ am_kd KS (29 + 4 * i) = some (11, 24, []) ∧ am_kd KS (30 + 4 * i) = some (11, 24, []) ∧ am_kd KS (31 + 4 * i) = some (11, 6, []) ∧ ([28, 32, 36, 40] : List Int).getD (Int.toNat i) (-1) = 28 + 4 * i := by
  have : i = 0 ∨ i = 1 ∨ i = 2 ∨ i = 3 := by omega
  rcases this with rfl | rfl | rfl | rfl <;> exact ⟨rfl, rfl, rfl, rfl, rfl⟩
section
variable {S : Int → Int} {M : am_M} {Q : Option am_V → am_M → Prop}
theorem Inv.s (h : Inv S M) {i : Int} (hi : 0 ≤ i ∧ i ≤ 7) : isT M (3 + 3 * i) (sm M i) := by
  obtain ⟨k1, k2, k3, -⟩ := kdS hi
  exact ⟨4 + 3 * i, 5 + 3 * i, by omega, by omega, k1, k2, k3, fun p x hp hx => h.2.1.2.1 i p x hi hp hx, fun p hp => h.2.1.2.2.1 i p hi hp⟩
theorem Inv.p (h : Inv S M) {i : Int} (hi : 0 ≤ i ∧ i ≤ 3) : isP M (28 + 4 * i) (pm M i) := by
  obtain ⟨k1, k2, k3, k4, -⟩ := kdP hi
  exact ⟨29 + 4 * i, 30 + 4 * i, 31 + 4 * i, k1, k2, k3, k4, fun s x hs hx => h.2.1.2.2.2.1 i s x hi hs hx, fun s hs => h.2.1.2.2.2.2 i s hi hs⟩
theorem c8_sentenceOf {i : Int} (k1 : 0 ≤ i ∧ i ≤ 7 → Q (some (vr (3 + 3 * i))) M) (k0 : ¬ (0 ≤ i ∧ i ≤ 7) → Q (some (vr (-1))) M) : am_CallN m8_sentenceOf [vr 0, vi i] KS M Q := by
  refine am_callN_of (by decide +kernel) rfl rfl (Nat.le_of_ble_eq_true rfl) ?_
  refine g8_sentenceOf_0 ?_
  by_cases hi : 0 ≤ i ∧ i ≤ 7
  · refine c8_in (by omega) ?_
    refine g8_sentenceOf_6 (fun c => by exfalso; omega) (fun _ => ?_)
    refine g8_sentenceOf_9 (by omega) (by omega) ?_
    rw [(kdS hi).2.2.2]
    exact g8_sentenceOf_19 (by omega) (k1 hi)
  · refine c8_out (by omega) ?_
    refine g8_sentenceOf_6 (fun _ => ?_) (fun c => by exfalso; omega)
    exact g8_sentenceOf_18 (g8_sentenceOf_19 (by omega) (k0 hi))
theorem c8_programOf {i : Int} (k1 : 0 ≤ i ∧ i ≤ 3 → Q (some (vr (28 + 4 * i))) M) (k0 : ¬ (0 ≤ i ∧ i ≤ 3) → Q (some (vr (-1))) M) : am_CallN m8_programOf [vr 0, vi i] KS M Q := by
  refine am_callN_of (by decide +kernel) rfl rfl (Nat.le_of_ble_eq_true rfl) ?_
  refine g8_programOf_0 ?_
  by_cases hi : 0 ≤ i ∧ i ≤ 3
  · refine c8_in (by omega) ?_
    refine g8_programOf_5 (fun c => by exfalso; omega) (fun _ => ?_)
    refine g8_programOf_8 (by omega) (by omega) ?_
    rw [(kdP hi).2.2.2.2]
    exact g8_programOf_18 (by omega) (k1 hi)
  · refine c8_out (by omega) ?_
    refine g8_programOf_5 (fun _ => ?_) (fun c => by exfalso; omega)
    exact g8_programOf_17 (g8_programOf_18 (by omega) (k0 hi))
theorem n8_isWord {K : am_K} {w k i : Int} (hw : 0 ≤ w ∧ w ≤ 20) (hi : 0 ≤ i ∧ i < wlen w) (hi2 : i < 3) (k1 : wlet w i < k → am_AtN m8_isWord 13 [some (vi w), some (vi k), some (vi (i + 1))] [] K M Q) (k0 : ¬ wlet w i < k → Q (some (vi 0)) M) : am_AtN m8_isWord 13 [some (vi w), some (vi k), some (vi i)] [] K M Q := by
  refine g8_isWord_13 ?_
  refine c8_wordLength ?_
  refine g8_isWord_18 (fun c => by exfalso; omega) (fun _ => ?_)
  refine g8_isWord_21 ?_
  refine c8_wordLetter hw ?_
  refine g8_isWord_26 (fun c => ?_) (fun c => ?_)
  · exact g8_isWord_32 (by omega) (k1 c)
  · exact g8_isWord_30 (k0 c)
theorem z8_isWord {K : am_K} {w k i : Int} (hi : wlen w ≤ i) (k1 : Q (some (vi 1)) M) : am_AtN m8_isWord 13 [some (vi w), some (vi k), some (vi i)] [] K M Q := by
  refine g8_isWord_13 ?_
  refine c8_wordLength ?_
  refine g8_isWord_18 (fun _ => ?_) (fun c => by exfalso; omega)
  exact g8_isWord_38 k1
theorem c8_isWord {K : am_K} {w k : Int} (hk : 2 ≤ k ∧ k ≤ 4) (k1 : isw k w → Q (some (vi 1)) M) (k0 : ¬ isw k w → Q (some (vi 0)) M) : am_CallN m8_isWord [vi w, vi k] K M Q := by
  refine am_callN_of (by decide +kernel) rfl rfl (Nat.le_of_ble_eq_true rfl) ?_
  refine g8_isWord_0 ?_
  by_cases hw : 0 ≤ w ∧ w ≤ 20
  · refine c8_in (by omega) ?_
    refine g8_isWord_6 (fun _ => ?_) (fun c => by exfalso; omega)
    refine g8_isWord_11 ?_
    by_cases h1 : w < 1
    · have hl : wlen w = 0 := by unfold wlen; rw [if_pos h1]
      exact z8_isWord (by omega) (k1 (Or.inl (by omega)))
    · by_cases h5 : w < 5
      · have hl : wlen w = 1 := by unfold wlen; rw [if_neg h1, if_pos h5]
        have h0 : wlet w 0 = w - 1 := by unfold wlet; rw [if_pos h5]
        refine n8_isWord hw (by omega) (by omega) (fun c => ?_) (fun c => k0 (fun h => ?_))
        · exact z8_isWord (by omega) (k1 (Or.inr (Or.inl (by omega))))
        · unfold isw at h
          omega
      · have hl : wlen w = 2 := by unfold wlen; rw [if_neg h1, if_neg h5]
        have h0 : wlet w 0 = (w - 5) / 4 := by unfold wlet; rw [if_neg h5, if_pos rfl]
        have h1' : wlet w (0 + 1) = (w - 5) % 4 := by unfold wlet; rw [if_neg h5, if_neg (by omega)]
        refine n8_isWord hw (by omega) (by omega) (fun c => ?_) (fun c => k0 (fun h => ?_))
        · refine n8_isWord hw (by omega) (by omega) (fun c2 => ?_) (fun c2 => k0 (fun h => ?_))
          · exact z8_isWord (by omega) (k1 (Or.inr (Or.inr (by omega))))
          · unfold isw at h
            omega
        · unfold isw at h
          omega
  · refine c8_out (by omega) ?_
    refine g8_isWord_6 (fun c => by exfalso; omega) (fun _ => ?_)
    refine g8_isWord_9 (k0 (fun h => ?_))
    unfold isw at h
    omega
theorem isw_wv {k w : Int} (hk : 2 ≤ k ∧ k ≤ 4) (h : isw k w) : wv k w := by
  unfold isw at h
  refine ⟨by omega, by omega, fun x hx => ?_⟩
  unfold wl at hx
  split at hx
  · cases hx
  · split at hx
    · rw [List.mem_singleton.mp hx]
      omega
    · rcases List.mem_cons.mp hx with h1 | h1
      · omega
      · rw [List.mem_singleton.mp h1]
        omega
theorem Inv_sent {M2 : am_M} {s : Int} {N : Int → Int → Int} {H : Int → Int} (hI : Inv S M) (hs : 0 ≤ s ∧ s ≤ 7) (hN : ∀ p x : Int, 0 ≤ p ∧ p < 6 → 0 ≤ x ∧ x < 4 → 0 ≤ N p x ∧ N p x < 6) (hH : ∀ p : Int, 0 ≤ p ∧ p < 6 → H p = 0 ∨ H p = 1)
    (h1 : ∀ p x : Int, 0 ≤ p ∧ p < 6 → 0 ≤ x ∧ x < 4 → M2 (4 + 3 * s) (p * 4 + x) = N p x) (h2 : ∀ p : Int, 0 ≤ p ∧ p < 6 → M2 (5 + 3 * s) p = H p) (h3 : ∀ p x : Int, 0 ≤ p ∧ p < 6 → 0 ≤ x ∧ x < 4 → M2 87 (24 * s + 4 * p + x) = N p x) (h4 : ∀ p : Int, 0 ≤ p ∧ p < 6 → M2 88 (6 * s + p) = H p)
    (h5 : Iv5 M2) (hf : ∀ b j : Int, kq b j → b ≠ 52 → b ≠ 4 + 3 * s → b ≠ 5 + 3 * s → ¬ (b = 87 ∧ 24 * s ≤ j ∧ j < 24 * s + 24) → ¬ (b = 88 ∧ 6 * s ≤ j ∧ j < 6 * s + 6) → M2 b j = M b j) : Inv S M2 := by
  obtain ⟨d1, d2, d3, ⟨L, d4⟩, d5, -, d6⟩ := hI
  have e1 : M2 86 1 = M 86 1 := hf 86 1 (by unfold kq kp; omega) (by omega) (by omega) (by omega) (by omega) (by omega)
  refine ⟨⟨by rw [e1]; exact d1.1, fun j hj => ?_, fun j hj => ?_, fun j hj => ?_, fun p t x hp ht hx => ?_, fun j hj => ?_⟩, ⟨?_, fun t p x ht hp hx => ?_, fun t p ht hp => ?_, fun p t x hp ht hx => ?_, fun p t hp ht => ?_⟩, ⟨fun j hj => ?_, ?_⟩, ⟨L, ⟨?_, fun i hi => ?_⟩, ⟨?_, fun i hi => ?_⟩, fun x hx => ?_, d4.2.2.2⟩, ⟨fun j hj => ?_, fun j hj => ?_⟩, h5, fun j => ?_⟩
  · by_cases e : 24 * s ≤ j ∧ j < 24 * s + 24
    · have := h3 ((j - 24 * s) / 4) ((j - 24 * s) % 4) (by omega) (by omega)
      rw [show 24 * s + 4 * ((j - 24 * s) / 4) + (j - 24 * s) % 4 = j by omega] at this
      rw [this]
      exact hN _ _ (by omega) (by omega)
    · rw [hf 87 j (by unfold kq kp; omega) (by omega) (by omega) (by omega) (by omega) (by omega)]
      exact d1.2.1 j hj
  · by_cases e : 6 * s ≤ j ∧ j < 6 * s + 6
    · have := h4 (j - 6 * s) (by omega)
      rw [show 6 * s + (j - 6 * s) = j by omega] at this
      rw [this]
      exact hH _ (by omega)
    · rw [hf 88 j (by unfold kq kp; omega) (by omega) (by omega) (by omega) (by omega) (by omega)]
      exact d1.2.2.1 j hj
  · rw [hf 92 j (by unfold kq kp; omega) (by omega) (by omega) (by omega) (by omega) (by omega)]
    exact d1.2.2.2.1 j hj
  · rw [e1] at hx ⊢
    rw [hf 93 _ (by unfold kq kp; omega) (by omega) (by omega) (by omega) (by omega) (by omega)]
    exact d1.2.2.2.2.1 p t x hp ht hx
  · rw [e1, hf 94 j (by unfold kq kp; omega) (by omega) (by omega) (by omega) (by omega) (by omega)]
    exact d1.2.2.2.2.2 j hj
  · rw [e1, hf 0 0 (by unfold kq kp; omega) (by omega) (by omega) (by omega) (by omega) (by omega)]
    exact d2.1
  · by_cases e : t = s
    · subst e
      rw [h1 p x hp hx, h3 p x hp hx]
    · rw [hf _ _ (by unfold kq kp; omega) (by omega) (by omega) (by omega) (by omega) (by omega), hf 87 _ (by unfold kq kp; omega) (by omega) (by omega) (by omega) (by omega) (by omega)]
      exact d2.2.1 t p x ht hp hx
  · by_cases e : t = s
    · subst e
      rw [h2 p hp, h4 p hp]
    · rw [hf _ _ (by unfold kq kp; omega) (by omega) (by omega) (by omega) (by omega) (by omega), hf 88 _ (by unfold kq kp; omega) (by omega) (by omega) (by omega) (by omega) (by omega)]
      exact d2.2.2.1 t p ht hp
  · rw [hf (29 + 4 * p) _ (by unfold kq kp; omega) (by omega) (by omega) (by omega) (by omega) (by omega), hf 92 _ (by unfold kq kp; omega) (by omega) (by omega) (by omega) (by omega) (by omega), hf (30 + 4 * p) _ (by unfold kq kp; omega) (by omega) (by omega) (by omega) (by omega) (by omega), hf 93 _ (by unfold kq kp; omega) (by omega) (by omega) (by omega) (by omega) (by omega)]
    exact d2.2.2.2.1 p t x hp ht hx
  · rw [hf _ _ (by unfold kq kp; omega) (by omega) (by omega) (by omega) (by omega) (by omega), hf 94 _ (by unfold kq kp; omega) (by omega) (by omega) (by omega) (by omega) (by omega)]
    exact d2.2.2.2.2 p t hp ht
  · rw [hf 1 _ (by unfold kq kp; omega) (by omega) (by omega) (by omega) (by omega) (by omega), hf 99 _ (by unfold kq kp; omega) (by omega) (by omega) (by omega) (by omega) (by omega)]
    exact d3.1 j hj
  · rw [hf 0 1 (by unfold kq kp; omega) (by omega) (by omega) (by omega) (by omega) (by omega), d3.2]
    exact am_sm_congr 1296 (fun j _ _ => (hf 99 j (by unfold kq kp; omega) (by omega) (by omega) (by omega) (by omega) (by omega)).symm)
  · rw [hf 54 1 (by unfold kq kp; omega) (by omega) (by omega) (by omega) (by omega) (by omega)]
    exact d4.1.1
  · rw [hf 55 _ (by unfold kq kp; omega) (by omega) (by omega) (by omega) (by omega) (by omega)]
    exact d4.1.2 i hi
  · rw [hf 86 31 (by unfold kq kp; omega) (by omega) (by omega) (by omega) (by omega) (by omega)]
    exact d4.2.1.1
  · rw [hf 109 _ (by unfold kq kp; omega) (by omega) (by omega) (by omega) (by omega) (by omega)]
    exact d4.2.1.2 i hi
  · rw [e1]
    exact d4.2.2.1 x hx
  · rw [hf 45 _ (by unfold kq kp; omega) (by omega) (by omega) (by omega) (by omega) (by omega), hf 48 _ (by unfold kq kp; omega) (by omega) (by omega) (by omega) (by omega) (by omega), hf 49 _ (by unfold kq kp; omega) (by omega) (by omega) (by omega) (by omega) (by omega)]
    exact d5.1 j hj
  · rw [hf 46 _ (by unfold kq kp; omega) (by omega) (by omega) (by omega) (by omega) (by omega), hf 50 _ (by unfold kq kp; omega) (by omega) (by omega) (by omega) (by omega) (by omega)]
    exact d5.2 j hj
  · rw [hf (-2) j (by unfold kq kp; omega) (by omega) (by omega) (by omega) (by omega) (by omega)]
    exact d6 j
/-- where only the row, the sheet and what is free have changed -/
theorem Inv_rest {M2 : am_M} {L : List Int} (hI : Inv S M) (h3 : Iv2 M2) (h4 : Iv3 M2 L) (hf : ∀ b j : Int, kq b j → b ≠ 1 → b ≠ 99 → (b ≠ 0 ∨ j ≠ 1) → b ≠ 54 → b ≠ 55 → b ≠ 109 → (b ≠ 86 ∨ j ≠ 31) → M2 b j = M b j) : Inv S M2 := by
  obtain ⟨d1, d2, -, -, d5, d7, d6⟩ := hI
  have e1 : M2 86 1 = M 86 1 := hf 86 1 (by unfold kq kp; omega) (by omega) (by omega) (by omega) (by omega) (by omega) (by omega) (by omega)
  have e : ∀ b j : Int, kq b j → b ≠ 1 → b ≠ 99 → b ≠ 54 → b ≠ 55 → b ≠ 109 → b ≠ 86 → b ≠ 0 → M2 b j = M b j := fun b j q1 q2 q3 q4 q5 q6 q7 q8 => hf b j q1 q2 q3 (Or.inl q8) q4 q5 q6 (Or.inl q7)
  refine ⟨⟨by rw [e1]; exact d1.1, fun j hj => ?_, fun j hj => ?_, fun j hj => ?_, fun p t x hp ht hx => ?_, fun j hj => ?_⟩, ⟨?_, fun t p x ht hp hx => ?_, fun t p ht hp => ?_, fun p t x hp ht hx => ?_, fun p t hp ht => ?_⟩, h3, ⟨L, h4⟩, ⟨fun j hj => ?_, fun j hj => ?_⟩, fun j hj => ?_, fun j => ?_⟩
  · rw [e 87 j (by unfold kq kp; omega) (by omega) (by omega) (by omega) (by omega) (by omega) (by omega) (by omega)]
    exact d1.2.1 j hj
  · rw [e 88 j (by unfold kq kp; omega) (by omega) (by omega) (by omega) (by omega) (by omega) (by omega) (by omega)]
    exact d1.2.2.1 j hj
  · rw [e 92 j (by unfold kq kp; omega) (by omega) (by omega) (by omega) (by omega) (by omega) (by omega) (by omega)]
    exact d1.2.2.2.1 j hj
  · rw [e1] at hx ⊢
    rw [e 93 _ (by unfold kq kp; omega) (by omega) (by omega) (by omega) (by omega) (by omega) (by omega) (by omega)]
    exact d1.2.2.2.2.1 p t x hp ht hx
  · rw [e1, e 94 j (by unfold kq kp; omega) (by omega) (by omega) (by omega) (by omega) (by omega) (by omega) (by omega)]
    exact d1.2.2.2.2.2 j hj
  · rw [e1, hf 0 0 (by unfold kq kp; omega) (by omega) (by omega) (by omega) (by omega) (by omega) (by omega) (by omega)]
    exact d2.1
  · rw [e _ _ (by unfold kq kp; omega) (by omega) (by omega) (by omega) (by omega) (by omega) (by omega) (by omega), e 87 _ (by unfold kq kp; omega) (by omega) (by omega) (by omega) (by omega) (by omega) (by omega) (by omega)]
    exact d2.2.1 t p x ht hp hx
  · rw [e _ _ (by unfold kq kp; omega) (by omega) (by omega) (by omega) (by omega) (by omega) (by omega) (by omega), e 88 _ (by unfold kq kp; omega) (by omega) (by omega) (by omega) (by omega) (by omega) (by omega) (by omega)]
    exact d2.2.2.1 t p ht hp
  · rw [e (29 + 4 * p) _ (by unfold kq kp; omega) (by omega) (by omega) (by omega) (by omega) (by omega) (by omega) (by omega), e 92 _ (by unfold kq kp; omega) (by omega) (by omega) (by omega) (by omega) (by omega) (by omega) (by omega), e (30 + 4 * p) _ (by unfold kq kp; omega) (by omega) (by omega) (by omega) (by omega) (by omega) (by omega) (by omega), e 93 _ (by unfold kq kp; omega) (by omega) (by omega) (by omega) (by omega) (by omega) (by omega) (by omega)]
    exact d2.2.2.2.1 p t x hp ht hx
  · rw [e _ _ (by unfold kq kp; omega) (by omega) (by omega) (by omega) (by omega) (by omega) (by omega) (by omega), e 94 _ (by unfold kq kp; omega) (by omega) (by omega) (by omega) (by omega) (by omega) (by omega) (by omega)]
    exact d2.2.2.2.2 p t hp ht
  · rw [e 45 _ (by unfold kq kp; omega) (by omega) (by omega) (by omega) (by omega) (by omega) (by omega) (by omega), e 48 _ (by unfold kq kp; omega) (by omega) (by omega) (by omega) (by omega) (by omega) (by omega) (by omega), e 49 _ (by unfold kq kp; omega) (by omega) (by omega) (by omega) (by omega) (by omega) (by omega) (by omega)]
    exact d5.1 j hj
  · rw [e 46 _ (by unfold kq kp; omega) (by omega) (by omega) (by omega) (by omega) (by omega) (by omega) (by omega), e 50 _ (by unfold kq kp; omega) (by omega) (by omega) (by omega) (by omega) (by omega) (by omega) (by omega)]
    exact d5.2 j hj
  · rw [e 52 j (by unfold kq kp; omega) (by omega) (by omega) (by omega) (by omega) (by omega) (by omega) (by omega)]
    exact d7 j hj
  · rw [e (-2) j (by unfold kq kp; omega) (by omega) (by omega) (by omega) (by omega) (by omega) (by omega) (by omega)]
    exact d6 j
end
