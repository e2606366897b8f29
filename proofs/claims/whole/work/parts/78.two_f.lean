/-! ===== the calls, two by two: the row ===== -/
theorem wk_congr {N N' : Int → Int → Int} (h : ∀ p x : Int, 0 ≤ p ∧ p < 6 → 0 ≤ x ∧ x < 4 → N p x = N' p x) (hr : ∀ p x : Int, 0 ≤ p ∧ p < 6 → 0 ≤ x ∧ x < 4 → 0 ≤ N' p x ∧ N' p x < 6) : ∀ (L : List Int) (p : Int), 0 ≤ p ∧ p < 6 → (∀ x ∈ L, 0 ≤ x ∧ x < 4) → wk N p L = wk N' p L
  | [], _, _, _ => rfl
  | y :: l, p, hp, hL => by
    have hy := hL y List.mem_cons_self
    show wk N (N p y) l = wk N' (N' p y) l
    rw [h p y hp hy]
    exact wk_congr h hr l _ (hr p y hp hy) (fun x hx => hL x (List.mem_cons_of_mem _ hx))
theorem wt_congr {N N' W W' : Int → Int → Int} (h : ∀ p x : Int, 0 ≤ p ∧ p < 6 → 0 ≤ x ∧ x < 4 → N p x = N' p x ∧ W p x = W' p x) (hr : ∀ p x : Int, 0 ≤ p ∧ p < 6 → 0 ≤ x ∧ x < 4 → 0 ≤ N' p x ∧ N' p x < 6) : ∀ (L : List Int) (p : Int), 0 ≤ p ∧ p < 6 → (∀ x ∈ L, 0 ≤ x ∧ x < 4) → wt N W p L = wt N' W' p L
  | [], _, _, _ => rfl
  | y :: l, p, hp, hL => by
    have hy := hL y List.mem_cons_self
    show wl (W p y) ++ wt N W (N p y) l = wl (W' p y) ++ wt N' W' (N' p y) l
    rw [(h p y hp hy).1, (h p y hp hy).2]
    rw [wt_congr h hr l _ (hr p y hp hy) (fun x hx => hL x (List.mem_cons_of_mem _ hx))]
section
variable {S : Int → Int} {M : am_M} {Q : Option am_V → am_M → Prop}
theorem q5_walkedBy {o lt z s : Int} {n : Nat} {q : List Int} {L : List Int} {A : Sn} (ho : am_kd KS o = some (5, 2, [lt, z])) (hl : am_kd KS lt = some (11, n, q)) (hn : (n : Int) ≤ 100000) (hR : rw_ M o lt L) (hs : isS M s A) (oA : okS A) (hc : (L.length : Int) ≤ n) (hL : ∀ x ∈ L, 0 ≤ x ∧ x < 4) (k : Q (some (vi (wk A.1 0 L))) M) : am_CallN m5_walkedBy [vr o, vr s] KS M Q := by
  obtain ⟨nx, hd, k1, k2, k3, h1, h2⟩ := hs
  have hN : ∀ j : Int, 0 ≤ j → j < 24 → 0 ≤ M nx j ∧ M nx j < 6 := fun j h0 h9 => by
    have := h1 (j / 4) (j % 4) (by omega) (by omega)
    rw [show j / 4 * 4 + j % 4 = j by omega] at this
    rw [this]
    exact oA _ _ (by omega) (by omega)
  refine c5_walkedBy ho hl hn hR k1 k2 k3 hc hN hL ?_
  rw [wk_congr (N' := A.1) (fun p x hp hx => h1 p x hp hx) oA L 0 (by omega) hL]
  exact k
theorem q4_rewrite {o lt z o2 lt2 z2 p k : Int} {n n2 : Nat} {q q2 : List Int} {L : List Int} {P : Pg} (ho : am_kd KS o = some (5, 2, [lt, z])) (hl : am_kd KS lt = some (11, n, q)) (hn : (n : Int) ≤ 100000) (hR : rw_ M o lt L) (ho2 : am_kd KS o2 = some (5, 2, [lt2, z2])) (hl2 : am_kd KS lt2 = some (11, n2, q2)) (hn2 : (n2 : Int) ≤ 100000) (hP : isP M p P) (oP : okP k P) (hk : 2 ≤ k ∧ k ≤ 4) (h12 : o ≠ o2) (hl12 : lt ≠ lt2) (hc : (L.length : Int) ≤ n) (hc2 : 2 * (L.length : Int) + 2 ≤ n2) (hnt : ¬ tab lt2) (hL : ∀ x ∈ L, 0 ≤ x ∧ x < k)
    (k0 : P.2.2 (wS P L) = -1 → ∀ M', off2 M M' o2 lt2 → Q (some (vi 0)) M') (k1 : P.2.2 (wS P L) ≠ -1 → ∀ M', rw_ M' o2 lt2 (wO P L) → off2 M M' o2 lt2 → Q (some (vi 1)) M') : am_CallN m4_rewrite [vr p, vr o, vr o2] KS M Q := by
  obtain ⟨nx, wd, en, e1, e2, e3, e4, h1, h2⟩ := hP
  have hL4 : ∀ x ∈ L, 0 ≤ x ∧ x < 4 := fun x hx => by have := hL x hx; omega
  have hN : ∀ j : Int, 0 ≤ j → j < 24 → 0 ≤ M nx j ∧ M nx j < 6 := fun j h0 h9 => by
    have := (h1 (j / 4) (j % 4) (by omega) (by omega)).1
    rw [show j / 4 * 4 + j % 4 = j by omega] at this
    rw [this]
    exact oP.1 _ _ (by omega) (by omega)
  have hw := wk_congr (N := fun s x => M nx (s * 4 + x)) (N' := P.1) (fun p x hp hx => (h1 p x hp hx).1) oP.1 L 0 (by omega) hL4
  have ht := wt_congr (N := fun s x => M nx (s * 4 + x)) (W := fun s x => M wd (s * 4 + x)) (N' := P.1) (W' := P.2.1) (fun p x hp hx => h1 p x hp hx) oP.1 L 0 (by omega) hL4
  have hr := wk_rng oP.1 L 0 hL4 (by omega)
  have he : M en (wk P.1 0 L) = P.2.2 (wS P L) := h2 _ hr
  refine c4_rewrite ho hl hn hR ho2 hl2 hn2 e1 e2 e3 e4 h12 hl12 ⟨fun h => hnt (by rw [← h]; exact Or.inl e2), fun h => hnt (by rw [← h]; exact Or.inl e3), fun h => hnt (by rw [← h]; exact Or.inr e4)⟩ hc hc2 hN (fun s x hs hx => ?_) (fun j h0 h9 => ?_) hL4 (fun h M' _ hf => ?_) (fun h M' hr' hf => ?_)
  · have hx2 := hL x hx
    rw [(h1 s x hs (by omega)).2]
    have := oP.2.1 s x hs hx2
    have := this.1
    have := (oP.2.1 s x hs hx2).2.1
    omega
  · rw [h2 j ⟨h0, h9⟩]
    rcases oP.2.2 j ⟨h0, h9⟩ with h | h
    · omega
    · have := h.1
      have := h.2.1
      omega
  · rw [hw, he] at h
    exact k0 h M' hf
  · rw [hw, he] at h hr'
    rw [ht] at hr'
    exact k1 h M' hr' hf
theorem nt55 : ¬ tab 55 := by
  intro h
  rcases h with h | h
  · rw [kd55] at h
    simp at h
  · rw [kd55] at h
    simp at h
theorem nt57 : ¬ tab 57 := by
  intro h
  rcases h with h | h
  · rw [kd57] at h
    simp at h
  · rw [kd57] at h
    simp at h
theorem nt59 : ¬ tab 59 := by
  intro h
  rcases h with h | h
  · rw [kd59] at h
    simp at h
  · rw [kd59] at h
    simp at h
theorem e_rank (hI : Inv S M) {s : Int} : am_CallN m8_rank [vr 0, vi s] KS M (fun r M1 => EQ m9_rank [vr 86, vi s] S r M1 ∧ am_sh m8_rank r) := by
  have hk := hI.1.1
  have hk0 : M 0 0 = M 86 1 := hI.2.1.1
  obtain ⟨L, hL⟩ := hI.2.2.2.1
  have hl := hL.2.2.2
  refine am_callN_sh (by decide +kernel) rfl rfl (Nat.le_of_ble_eq_true rfl) ?_
  refine g8_rank_0 ?_
  refine c8_sentenceOf (fun hs => ?_) (fun hs => ?_)
  · have oA := hI.1.sok hs
    have hL4 : ∀ x ∈ L, 0 ≤ x ∧ x < 4 := fun x hx => by have := hL.2.2.1 x hx; omega
    have hr := wk_rng oA L 0 hL4 (by omega)
    obtain ⟨k1, -, -, -⟩ := kdS hs
    refine g8_rank_5 (fun _ => ?_) (fun c => by exfalso; omega)
    refine g8_rank_14 ?_
    refine q5_walkedBy kd54 kd55 (by omega) hL.1 (hI.s hs).s oA (by omega) hL4 ?_
    refine g8_rank_23 k1 ?_
    refine q6_holdsAt (hI.s hs).s hr ?_
    by_cases hh : (sm M s).2 (wk (sm M s).1 0 L) = 1
    · rw [if_pos hh]
      refine g8_rank_26 (fun _ => ?_) (fun c => by exfalso; omega)
      refine g8_rank_33 ?_
      refine c5_size kd54 kd55 (by omega) hL.1 ?_
      refine g8_rank_40 (fun c => ?_) (fun c => ?_)
      · refine g8_rank_49 ?_
        refine c5_size kd54 kd55 (by omega) hL.1 ?_
        refine g8_rank_61 kd84 ?_
        rw [hk0]
        refine c7_fill hk (hI.s hs).s oA (by omega) (fun M1 hT hf1 => ?_)
        have hr1 : rw_ M1 54 55 L := ⟨by rw [hf1 54 1 (by omega) (by omega)]; exact hL.1.1, fun i hi => by rw [hf1 55 _ (by omega) (by omega)]; exact hL.1.2 i hi⟩
        refine g8_rank_68 ?_
        refine c7_placeOf hk ((hI.s hs).s.of hf1.tab) oA hT (by omega) hL.2.2.1 kd54 kd55 hr1 ?_
        refine g8_rank_80 ?_
        have hI1 := hI.of hf1.x
        have hrm1 : rm M1 L := ⟨by rw [hf1 86 31 (by omega) (by omega)]; exact hL.2.1.1, fun i hi => by rw [hf1 109 _ (by omega) (by omega)]; exact hL.2.1.2 i hi⟩
        refine c9_rank hI1.1 hrm1 (by rw [hf1.z 86 1 (by omega)]; exact hL.2.2.1) (by omega) (fun h => absurd hs h) (fun _ h => absurd hh (by rw [hf1.z.gsm] at h; exact h)) (fun _ _ h => by exfalso; omega) (fun _ _ _ M2 hf2 => ⟨?_, hI1.of hf2.x⟩)
        rw [hf1.z.gsm, hf1.z 86 1 (by omega)]
      · refine g8_rank_45 ?_
        exact c9_rank hI.1 hL.2.1 hL.2.2.1 (by omega) (fun h => absurd hs h) (fun _ h => absurd hh h) (fun _ _ _ M2 hf2 => ⟨rfl, hI.of hf2.x⟩) (fun _ _ h => by exfalso; omega)
    · rw [if_neg hh]
      refine g8_rank_26 (fun c => by exfalso; omega) (fun _ => ?_)
      refine g8_rank_29 ?_
      exact c9_rank hI.1 hL.2.1 hL.2.2.1 (by omega) (fun h => absurd hs h) (fun _ _ M2 hf2 => ⟨rfl, hI.of hf2.x⟩) (fun _ h => absurd h hh) (fun _ h => absurd h hh)
  · refine g8_rank_5 (fun c => absurd rfl c) (fun _ => ?_)
    exact g8_rank_10 (c9_rank hI.1 hL.2.1 hL.2.2.1 (by omega) (fun _ M2 hf2 => ⟨rfl, hI.of hf2.x⟩) (fun h => absurd h hs) (fun h => absurd h hs) (fun h => absurd h hs))
theorem e_letter (hI : Inv S M) {x : Int} : am_CallN m8_letter [vr 0, vi x] KS M (fun r M1 => EQ m9_letter [vr 86, vi x] S r M1 ∧ am_sh m8_letter r) := by
  have hk := hI.1.1
  have hk0 : M 0 0 = M 86 1 := hI.2.1.1
  obtain ⟨L, hL⟩ := hI.2.2.2.1
  have hl := hL.2.2.2
  refine am_callN_sh (by decide +kernel) rfl rfl (Nat.le_of_ble_eq_true rfl) ?_
  refine g8_letter_0 ?_
  by_cases hx : 0 ≤ x ∧ x < M 0 0
  · refine c8_in hx ?_
    refine g8_letter_8 (fun _ => ?_) (fun c => by exfalso; omega)
    refine g8_letter_13 ?_
    refine c5_size kd54 kd55 (by omega) hL.1 ?_
    refine g8_letter_20 (fun c => ?_) (fun c => ?_)
    · refine g8_letter_28 ?_
      refine c5_add kd54 kd55 (by omega) hL.1 (by omega) (fun M1 hr1 hf1 => ?_)
      refine g8_letter_36 ?_
      refine c5_size kd54 kd55 (by omega) hr1 ?_
      refine g8_letter_43 ?_
      have hz : fz M M1 := fun b j hb => hf1 b j (by omega) (by omega)
      have hrm1 : rm M1 L := ⟨by rw [hf1 86 31 (by omega) (by omega)]; exact hL.2.1.1, fun i hi => by rw [hf1 109 _ (by omega) (by omega)]; exact hL.2.1.2 i hi⟩
      refine c9_letter (by rw [hz 86 1 (by omega)]; exact hk) hrm1 hl (fun h => absurd (by rw [hz 86 1 (by omega)]; omega) h) (fun _ h => by exfalso; omega) (fun _ _ M2 g1 g2 => ⟨?_, ?_⟩)
      · rw [List.length_append]
        rfl
      · refine Inv_row hI ⟨?_, fun i hi => ?_⟩ g1 (fun y hy => ?_) (by rw [List.length_append]; simp; omega) (fun b j hq h1 h2 h3 h4 => ?_)
        · rw [g2 54 1 (by unfold kp; omega) (by omega) (by omega)]
          exact hr1.1
        · rw [g2 55 _ (by unfold kp; omega) (by omega) (by omega)]
          exact hr1.2 i hi
        · rcases List.mem_append.mp hy with h | h
          · exact hL.2.2.1 y h
          · rw [List.mem_singleton.mp h]
            omega
        · rw [g2 b j hq.2.2 h3 h4, hf1 b j h1 h2]
    · refine g8_letter_25 ?_
      exact c9_letter hk hL.2.1 hl (fun h => absurd (by omega) h) (fun _ _ M2 hf2 => ⟨rfl, hI.of hf2.x⟩) (fun _ h => by exfalso; omega)
  · refine c8_out hx ?_
    refine g8_letter_8 (fun c => by exfalso; omega) (fun _ => ?_)
    exact g8_letter_11 (c9_letter hk hL.2.1 hl (fun _ M2 hf2 => ⟨rfl, hI.of hf2.x⟩) (fun h => by exfalso; omega) (fun h => by exfalso; omega))
theorem e_clear (hI : Inv S M) : am_CallN m8_clear [vr 0] KS M (fun r M1 => EQ m9_clear [vr 86] S r M1 ∧ am_sh m8_clear r) := by
  obtain ⟨L, hL⟩ := hI.2.2.2.1
  have hl := hL.2.2.2
  refine am_callN_sh (by decide +kernel) rfl rfl (Nat.le_of_ble_eq_true rfl) ?_
  refine g8_clear_0 ?_
  refine c5_size kd54 kd55 (by omega) hL.1 ?_
  refine g8_clear_7 ?_
  refine c5_empty kd54 ?_
  refine g8_clear_15 ?_
  have ez : ∀ b j : Int, (b ≠ 54 ∨ j ≠ 1) → am_up M 54 1 0 b j = M b j := fun b j h => am_upn h
  have hrm1 : rm (am_up M 54 1 0) L := ⟨by rw [ez 86 31 (by omega)]; exact hL.2.1.1, fun i hi => by rw [ez 109 _ (by omega)]; exact hL.2.1.2 i hi⟩
  refine c9_clear hrm1 (fun M2 g1 g2 => ⟨rfl, ?_⟩)
  refine Inv_row hI ⟨?_, fun i hi => absurd hi (by simp)⟩ g1 (fun y hy => (by cases hy)) (by simp) (fun b j hq h1 h2 h3 h4 => ?_)
  · rw [g2 54 1 (by unfold kp; omega) (by omega), am_up_hit]
    rfl
  · rw [g2 b j hq.2.2 h4, ez b j (Or.inl h1)]
theorem e_at (hI : Inv S M) {i : Int} : am_CallN m8_at [vr 0, vi i] KS M (fun r M1 => EQ m9_at [vr 86, vi i] S r M1 ∧ am_sh m8_at r) := by
  obtain ⟨L, hL⟩ := hI.2.2.2.1
  have hl := hL.2.2.2
  refine am_callN_sh (by decide +kernel) rfl rfl (Nat.le_of_ble_eq_true rfl) ?_
  refine g8_at_0 ?_
  refine c5_letterAt kd54 kd55 (by omega) hL.1 (by omega) ?_
  refine g8_at_8 ?_
  exact c9_at hL.2.1 (by omega) (fun M2 hf2 => ⟨rfl, hI.of hf2.x⟩)
theorem e_is (hI : Inv S M) {s : Int} : am_CallN m8_is [vr 0, vi s] KS M (fun r M1 => EQ m9_is [vr 86, vi s] S r M1 ∧ am_sh m8_is r) := by
  have hk := hI.1.1
  obtain ⟨L, hL⟩ := hI.2.2.2.1
  have hl := hL.2.2.2
  have hL4 : ∀ x ∈ L, 0 ≤ x ∧ x < 4 := fun x hx => by have := hL.2.2.1 x hx; omega
  refine am_callN_sh (by decide +kernel) rfl rfl (Nat.le_of_ble_eq_true rfl) ?_
  refine g8_is_0 ?_
  refine c8_sentenceOf (fun hs => ?_) (fun hs => ?_)
  · have oA := hI.1.sok hs
    have hr := wk_rng oA L 0 hL4 (by omega)
    have h01 := hI.1.2.2.1 (6 * s + wk (sm M s).1 0 L) (by omega)
    have ev : (if (sm M s).2 (wk (sm M s).1 0 L) = 1 then (1 : Int) else 0) = (sm M s).2 (wk (sm M s).1 0 L) := by
      have h01 : (sm M s).2 (wk (sm M s).1 0 L) = 0 ∨ (sm M s).2 (wk (sm M s).1 0 L) = 1 := h01
      split <;> omega
    obtain ⟨k1, -, -, -⟩ := kdS hs
    refine g8_is_5 (fun _ => ?_) (fun c => by exfalso; omega)
    refine g8_is_12 ?_
    refine q5_walkedBy kd54 kd55 (by omega) hL.1 (hI.s hs).s oA (by omega) hL4 ?_
    refine g8_is_21 k1 ?_
    refine q6_holdsAt (hI.s hs).s hr ?_
    rw [ev]
    refine g8_is_24 ?_
    refine c8_oneIf h01 ?_
    refine g8_is_27 ?_
    exact c9_is hI.1 hL.2.1 hL4 (by omega) (fun h => absurd hs h) (fun _ M2 hf2 => ⟨rfl, hI.of hf2.x⟩)
  · refine g8_is_5 (fun c => absurd rfl c) (fun _ => ?_)
    exact g8_is_10 (c9_is hI.1 hL.2.1 hL4 (by omega) (fun _ M2 hf2 => ⟨rfl, hI.of hf2.x⟩) (fun h => absurd h hs))
theorem wO_len {P : Pg} (L : List Int) : (wO P L).length ≤ 2 * L.length + 2 := by
  unfold wO
  rw [List.length_append]
  have h1 := wt_len (MV := P.1) (WD := P.2.1) L 0
  have h2 := wl_len (P.2.2 (wS P L))
  omega
theorem e_run (hI : Inv S M) {p : Int} : am_CallN m8_run [vr 0, vi p] KS M (fun r M1 => EQ m9_run [vr 86, vi p] S r M1 ∧ am_sh m8_run r) := by
  have hk := hI.1.1
  obtain ⟨L, hL⟩ := hI.2.2.2.1
  have hl := hL.2.2.2
  refine am_callN_sh (by decide +kernel) rfl rfl (Nat.le_of_ble_eq_true rfl) ?_
  refine g8_run_0 ?_
  refine c8_programOf (fun hp => ?_) (fun hp => ?_)
  · have oP := hI.1.pok hp
    obtain ⟨k1, -, -, -, -⟩ := kdP hp
    have hx58 : ∀ M1, off2 M M1 58 59 → fx M M1 := fun M1 h b j hq => h b j (by unfold kq at hq; omega) (by unfold kq at hq; omega)
    have hz58 : ∀ M1, off2 M M1 58 59 → fz M M1 := fun M1 h b j hb => h b j (by omega) (by omega)
    have hrm : ∀ M1, off2 M M1 58 59 → rm M1 L := fun M1 h => ⟨by rw [h 86 31 (by omega) (by omega)]; exact hL.2.1.1, fun i hi => by rw [h 109 _ (by omega) (by omega)]; exact hL.2.1.2 i hi⟩
    refine g8_run_5 (fun _ => ?_) (fun c => by exfalso; omega)
    refine g8_run_12 k1 ?_
    refine q4_rewrite kd54 kd55 (by omega) hL.1 kd58 kd59 (by omega) (hI.p hp) oP hk (by omega) (by omega) (by omega) (by omega) nt59 hL.2.2.1 (fun he M1 hf1 => ?_) (fun he M1 hr1 hf1 => ?_)
    · refine g8_run_24 (fun c => by exfalso; omega) (fun _ => ?_)
      refine g8_run_27 ?_
      have hI1 := hI.of (hx58 M1 hf1)
      exact c9_run hI1.1 (hrm M1 hf1) (by rw [hz58 M1 hf1 86 1 (by omega)]; exact hL.2.2.1) hl (fun h => absurd hp h) (fun _ _ M2 hf2 => ⟨rfl, hI1.of hf2.x⟩) (fun _ h => absurd (by rw [(hz58 M1 hf1).gpm]; exact he) h) (fun _ h => absurd (by rw [(hz58 M1 hf1).gpm]; exact he) h)
    · have hwl := wO_len (P := pm M p) L
      have hI1 := hI.of (hx58 M1 hf1)
      refine g8_run_24 (fun _ => ?_) (fun c => by exfalso; omega)
      refine g8_run_30 ?_
      refine c5_size kd58 kd59 (by omega) hr1 ?_
      refine g8_run_37 (fun c => ?_) (fun c => ?_)
      · refine g8_run_45 ?_
        refine c5_copy (L := []) kd54 kd55 (by omega) kd58 kd59 (by omega) hr1 (by omega) (by omega) (by omega) (by omega) (fun M2 hr2 hf2 => ?_)
        refine g8_run_56 ?_
        refine c5_size kd54 kd55 (by omega) hr2 ?_
        refine g8_run_63 ?_
        have hz : fz M M2 := fun b j hb => by rw [hf2 b j (by omega) (by omega)]; exact hf1 b j (by omega) (by omega)
        have hrm2 : rm M2 L := ⟨by rw [hz 86 31 (by omega)]; exact hL.2.1.1, fun i hi => by rw [hz 109 _ (by omega)]; exact hL.2.1.2 i hi⟩
        refine c9_run (hI.1.ofz hz) hrm2 (by rw [hz 86 1 (by omega)]; exact hL.2.2.1) hl (fun h => absurd hp h) (fun _ h => absurd (by rw [hz.gpm] at h; exact h) he) (fun _ _ h => by exfalso; rw [hz.gpm] at h; omega) (fun _ _ _ M3 g1 g2 => ⟨?_, ?_⟩)
        · rw [hz.gpm]
        · rw [hz.gpm] at g1
          refine Inv_row hI ⟨?_, fun i hi => ?_⟩ g1 (wO_let oP (by omega) hL.2.2.1 he) (by omega) (fun b j hq h1 h2 h3 h4 => ?_)
          · rw [g2 54 1 (by unfold kp; omega) (by omega) (by omega)]
            exact hr2.1
          · rw [g2 55 _ (by unfold kp; omega) (by omega) (by omega)]
            exact hr2.2 i hi
          · rw [g2 b j hq.2.2 h3 h4, hf2 b j h1 h2]
            exact hx58 M1 hf1 b j hq
      · refine g8_run_42 ?_
        exact c9_run hI1.1 (hrm M1 hf1) (by rw [hz58 M1 hf1 86 1 (by omega)]; exact hL.2.2.1) hl (fun h => absurd hp h) (fun _ h => absurd (by rw [(hz58 M1 hf1).gpm] at h; exact h) he) (fun _ _ _ M2 hf2 => ⟨rfl, hI1.of hf2.x⟩) (fun _ _ h => by exfalso; rw [(hz58 M1 hf1).gpm] at h; omega)
  · refine g8_run_5 (fun c => absurd rfl c) (fun _ => ?_)
    exact g8_run_10 (c9_run hI.1 hL.2.1 hL.2.2.1 hl (fun _ M2 hf2 => ⟨rfl, hI.of hf2.x⟩) (fun h => absurd h hp) (fun h => absurd h hp) (fun h => absurd h hp))
theorem e_rounds (hI : Inv S M) {p : Int} : am_CallN m8_rounds [vr 0, vi p] KS M (fun r M1 => EQ m9_rounds [vr 86, vi p] S r M1 ∧ am_sh m8_rounds r) := by
  have hk := hI.1.1
  obtain ⟨L0, hL0⟩ := hI.2.2.2.1
  have hl0 := hL0.2.2.2
  refine am_callN_sh (by decide +kernel) rfl rfl (Nat.le_of_ble_eq_true rfl) ?_
  refine g8_rounds_0 ?_
  refine c8_programOf (fun hp => ?_) (fun hp => ?_)
  · have oP := hI.1.pok hp
    obtain ⟨k1, -, -, -, -⟩ := kdP hp
    have fin : ∀ (r : Int) (M1 : am_M), (∀ b j : Int, ¬ (56 ≤ b ∧ b ≤ 59) → M1 b j = M b j) → r = rds (pm M p) 60 0 L0 → EQ m9_rounds [vr 86, vi p] S (some (vi r)) M1 := by
      intro r M1 hf hr
      have hx : fx M M1 := fun b j hq => hf b j (by unfold kq at hq; omega)
      have hz : fz M M1 := fun b j hb => hf b j (by omega)
      have hrm1 : rm M1 L0 := ⟨by rw [hz 86 31 (by omega)]; exact hL0.2.1.1, fun i hi => by rw [hz 109 _ (by omega)]; exact hL0.2.1.2 i hi⟩
      refine c9_rounds (hI.of hx).1 hrm1 (by rw [hz 86 1 (by omega)]; exact hL0.2.2.1) hl0 (fun h => absurd hp h) (fun _ M2 g1 g2 => ⟨?_, ?_⟩)
      · rw [hz.gpm, hr]
      · refine Inv_row hI ⟨?_, fun i hi => ?_⟩ g1 hL0.2.2.1 hl0 (fun b j hq h1 h2 h3 h4 => ?_)
        · rw [g2 54 1 (by unfold kp; omega) (by omega) (by omega), hf 54 1 (by omega)]
          exact hL0.1.1
        · rw [g2 55 _ (by unfold kp; omega) (by omega) (by omega), hf 55 _ (by omega)]
          exact hL0.1.2 i hi
        · rw [g2 b j hq.2.2 h3 h4]
          exact hx b j hq
    refine g8_rounds_5 (fun _ => ?_) (fun c => by exfalso; omega)
    refine g8_rounds_12 ?_
    refine c5_copy (L := []) kd56 kd57 (by omega) kd54 kd55 (by omega) hL0.1 (by omega) (by omega) (by omega) (by omega) (fun M1 hr1 hf1 => ?_)
    refine g8_rounds_23 ?_
    have key : ∀ (d : Nat) (n : Int) (L : List Int) (M2 : am_M), n + d = 60 → 0 ≤ n → rw_ M2 56 57 L → L.length ≤ 24 → (∀ x ∈ L, 0 ≤ x ∧ x < M 86 1) → rds (pm M p) d n L = rds (pm M p) 60 0 L0 → (∀ b j : Int, ¬ (56 ≤ b ∧ b ≤ 59) → M2 b j = M b j) → am_AtN m8_rounds 25 [some (vr 0), some (vi p), some (vr (28 + 4 * p)), some (vi n)] [] KS M2 (EQ m9_rounds [vr 86, vi p] S) := by
      intro d
      induction d with
      | zero =>
        intro n L M2 hn h0 hr hl hlt hrd hf
        refine g8_rounds_25 (fun _ => ?_) (fun c => by exfalso; omega)
        exact g8_rounds_97 (fin _ M2 hf hrd)
      | succ d ih =>
        intro n L M2 hn h0 hr hl hlt hrd hf
        have hP2 : isP M2 (28 + 4 * p) (pm M p) := (hI.p hp).of (fun a j ht => hf a j (by have := tab_ne ht; omega))
        have hwl := wO_len (P := pm M p) L
        unfold rds at hrd
        refine g8_rounds_25 (fun c => by exfalso; omega) (fun _ => ?_)
        refine g8_rounds_31 k1 ?_
        have ho : ∀ M3, off2 M2 M3 58 59 → ∀ b j : Int, ¬ (56 ≤ b ∧ b ≤ 59) → M3 b j = M b j := fun M3 h b j hb => by rw [h b j (by omega) (by omega)]; exact hf b j hb
        refine q4_rewrite kd56 kd57 (by omega) hr kd58 kd59 (by omega) hP2 oP hk (by omega) (by omega) (by omega) (by omega) nt59 hlt (fun he M3 hf3 => ?_) (fun he M3 hr3 hf3 => ?_)
        · refine g8_rounds_43 (fun c => by exfalso; omega) (fun _ => ?_)
          rw [if_pos (Or.inl he)] at hrd
          exact g8_rounds_46 (fin _ M3 (ho M3 hf3) hrd)
        · have hr3' := hr.of hf3 (by omega) (by omega) (by omega) (by omega)
          refine g8_rounds_43 (fun _ => ?_) (fun c => by exfalso; omega)
          refine g8_rounds_49 ?_
          refine c5_size kd58 kd59 (by omega) hr3 ?_
          refine g8_rounds_56 (fun c => ?_) (fun c => ?_)
          · rw [if_neg (by omega)] at hrd
            refine g8_rounds_64 ?_
            refine c5_isLike kd56 kd57 (by omega) hr3' kd58 kd59 (by omega) hr3 (by omega) (by omega) ?_
            by_cases hlk : L = wO (pm M p) L
            · rw [if_pos hlk]
              refine g8_rounds_75 (fun c => by exfalso; omega) (fun _ => ?_)
              rw [if_pos hlk.symm] at hrd
              exact g8_rounds_78 (fin _ M3 (ho M3 hf3) hrd)
            · rw [if_neg hlk]
              refine g8_rounds_75 (fun _ => ?_) (fun c => by exfalso; omega)
              rw [if_neg (fun h => hlk h.symm)] at hrd
              refine g8_rounds_80 ?_
              refine c5_copy (L := []) kd56 kd57 (by omega) kd58 kd59 (by omega) hr3 (by omega) (by omega) (by omega) (by omega) (fun M4 hr4 hf4 => ?_)
              refine g8_rounds_91 (by omega) ?_
              refine ih (n + 1) (wO (pm M p) L) M4 (by omega) (by omega) hr4 (by omega) (wO_let oP (by omega) hlt he) hrd (fun b j hb => ?_)
              rw [hf4 b j (by omega) (by omega)]
              exact ho M3 hf3 b j hb
          · rw [if_pos (Or.inr (by omega))] at hrd
            exact g8_rounds_61 (fin _ M3 (ho M3 hf3) hrd)
    exact key 60 0 L0 M1 (by omega) (by omega) hr1 hl0 hL0.2.2.1 rfl (fun b j hb => hf1 b j (by omega) (by omega))
  · refine g8_rounds_5 (fun c => absurd rfl c) (fun _ => ?_)
    exact g8_rounds_10 (c9_rounds hI.1 hL0.2.1 hL0.2.2.1 hl0 (fun _ M2 hf2 => ⟨rfl, hI.of hf2.x⟩) (fun h => absurd h hp))
theorem e_count (hI : Inv S M) {w : Int} : am_CallN m8_count [vr 0, vi w] KS M (fun r M1 => EQ m9_count [vr 86, vi w] S r M1 ∧ am_sh m8_count r) := by
  obtain ⟨L, hL⟩ := hI.2.2.2.1
  have hS99 : ∀ x : Int, 0 ≤ x ∧ x < 1296 → M 99 x = 0 ∨ M 99 x = 1 := fun x hx => (hI.2.2.1.1 x hx).2
  have fin : ∀ r : Int, r = (if w = 0 then M 86 1 else if w = 1 then am_sm (M 99) 1296 else if w = 2 then M 86 31 else -2) → EQ m9_count [vr 86, vi w] S (some (vi r)) M := fun r hr => c9_count hS99 (fun M2 hf2 => ⟨by rw [hr], hI.of hf2.x⟩)
  have hl := hL.2.2.2
  refine am_callN_sh (by decide +kernel) rfl rfl (Nat.le_of_ble_eq_true rfl) ?_
  refine g8_count_0 (fun c0 => ?_) (fun c0 => ?_)
  · refine g8_count_9 (fun c1 => ?_) (fun c1 => ?_)
    · refine g8_count_19 (fun c2 => ?_) (fun c2 => ?_)
      · refine g8_count_32 (fin _ ?_)
        rw [if_neg c0, if_neg c1, if_neg c2]
      · refine g8_count_24 ?_
        refine c5_size kd54 kd55 (by omega) hL.1 ?_
        refine g8_count_31 (fin _ ?_)
        rw [if_neg c0, if_neg c1, if_pos c2, hL.2.1.1]
    · refine g8_count_14 (fin _ ?_)
      rw [if_neg c0, if_pos c1, hI.2.2.1.2]
  · refine g8_count_4 (fin _ ?_)
    rw [if_pos c0]
    exact hI.2.1.1
end
