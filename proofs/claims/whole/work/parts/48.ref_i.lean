/-! ===== the reference: running a program ===== -/
def wS (P : Pg) (L : List Int) : Int := wk P.1 0 L
def wO (P : Pg) (L : List Int) : List Int := wt P.1 P.2.1 0 L ++ wl (P.2.2 (wS P L))
theorem c9_writes {M : am_M} {Q : Option am_V → am_M → Prop} {p : Int} {L : List Int} (hd : mdat M) (hp : 0 ≤ p ∧ p ≤ 3) (hR : rm M L) (hL : ∀ x ∈ L, 0 ≤ x ∧ x < M 86 1) (hl : L.length ≤ 24) (k0 : (pm M p).2.2 (wS (pm M p) L) = -1 → ∀ M', fo M M' → Q (some (vi 0)) M') (k1 : (pm M p).2.2 (wS (pm M p) L) ≠ -1 → ∀ M', ro M' (wO (pm M p) L) → fo M M' → Q (some (vi 1)) M') : am_CallN m9_writes [vr 86, vi p] KS M Q := by
  have hk := hd.1
  have hP := hd.pok hp
  refine am_callN_of (by decide +kernel) rfl rfl (Nat.le_of_ble_eq_true rfl) ?_
  refine g9_writes_0 ?_
  have key : ∀ (l2 l1 : List Int) (s : Int) (M1 : am_M), L = l1 ++ l2 → 0 ≤ s ∧ s < 6 → wk (pm M p).1 s l2 = wS (pm M p) L → (∃ T, ro M1 T ∧ T ++ wt (pm M p).1 (pm M p).2.1 s l2 = wt (pm M p).1 (pm M p).2.1 0 L ∧ (T.length : Int) ≤ 2 * l1.length) → fo M M1 → am_AtN m9_writes 9 [some (vr 86), some (vi p), some (vi s), some (vi (l1.length : Int)), none] [] KS M1 Q := by
    intro l2
    induction l2 with
    | nil =>
      intro l1 s M1 e hs hw hT hf
      obtain ⟨T, hT1, hT2, hT3⟩ := hT
      have hT2 : T = wt (pm M p).1 (pm M p).2.1 0 L := by rw [← hT2]; exact (List.append_nil T).symm
      have el : (L.length : Int) = l1.length := by rw [e]; simp
      have h31 : M1 86 31 = L.length := (hR.of hf.r9).1
      have hw : s = wS (pm M p) L := hw
      have e94 : M1 94 (6 * p + s) = (pm M p).2.2 (wS (pm M p) L) := by
        rw [hf 94 _ (by omega) (Or.inl (by omega)), ← hw]
        rfl
      refine g9_writes_9 (fun _ => ?_) (fun c => by exfalso; omega)
      refine g9_writes_59 (by omega) (by omega) (by omega) (by omega) (fun c => ?_) (fun c => ?_)
      · rw [e94] at c
        refine g9_writes_79 ?_
        refine g9_writes_80 kd86 (Or.inl rfl) (fun _ => ?_) (fun c => by rw [am_up_hit] at c; exfalso; omega)
        refine g9_writes_105 (by rw [am_up_hit]; omega) ?_
        rw [am_up_hit]
        exact k0 c _ (hf.tr (fun b j h1 h2 => am_upn (by omega)))
      · rw [e94] at c
        refine g9_writes_75 ?_
        refine g9_writes_80 kd86 (Or.inr rfl) (fun c => by rw [am_up_hit] at c; exfalso; omega) (fun _ => ?_)
        have hf2 : fo M1 (am_up M1 86 18 1) := fun b j h1 h2 => am_upn (by omega)
        have e94' : am_up M1 86 18 1 94 (6 * p + s) = (pm M p).2.2 (wS (pm M p) L) := by rw [am_upn (Or.inl (by omega)), e94]
        have hE : (pm M p).2.2 (wS (pm M p) L) = -1 ∨ wv (M 86 1) ((pm M p).2.2 (wS (pm M p) L)) := hP.2.2 _ (by omega)
        refine g9_writes_90 (by omega) (by omega) (by omega) (by omega) ?_
        rw [e94']
        have hwv : wv (M 86 1) ((pm M p).2.2 (wS (pm M p) L)) := hE.resolve_left c
        have hT1' : ro (am_up M1 86 18 1) T := ⟨by rw [am_upn (Or.inr (by omega))]; exact hT1.1, fun i hi => by rw [am_upn (Or.inl (by omega))]; exact hT1.2 i hi⟩
        refine c9_add (L := T) ⟨hwv.1, hwv.2.1⟩ hT1' (by omega) (fun M2 hR2 hf3 => ?_)
        have e18 : M2 86 18 = 1 := by
          rw [hf3 86 18 (by omega) (Or.inr (by omega)), am_up_hit]
        refine g9_writes_105 (by omega) ?_
        rw [e18]
        refine k1 c M2 ?_ (hf.tr (hf2.tr hf3.o))
        unfold wO
        rw [← hT2]
        exact hR2
    | cons x l2 ih =>
      intro l1 s M1 e hs hw hT hf
      obtain ⟨T, hT1, hT2, hT3⟩ := hT
      have el : (L.length : Int) = l1.length + (l2.length + 1) := by rw [e]; simp
      have hrm := hR.of hf.r9
      have h31 := hrm.1
      have hx := hL x (by rw [e]; simp)
      have hg : M1 109 (l1.length : Int) = x := by
        rw [hrm.2 l1.length (by omega), e]
        simp [List.getD]
      have e93 : M1 93 (24 * p + 4 * s + x) = (pm M p).2.1 s x := by
        rw [hf 93 _ (by omega) (Or.inl (by omega))]
        rfl
      have hW := hP.2.1 s x hs hx
      refine g9_writes_9 (fun c => by exfalso; omega) (fun _ => ?_)
      refine g9_writes_17 (by omega) (by omega) (by omega) (by omega) (by omega) (by omega) (by omega) (by omega) ?_
      rw [hg, e93]
      refine c9_add (L := T) ⟨hW.1, hW.2.1⟩ hT1 (by omega) (fun M2 hR2 hf2 => ?_)
      have hf3 := hf.tr hf2.o
      have e92 : M2 92 (24 * p + 4 * s + x) = (pm M p).1 s x := by
        rw [hf3 92 _ (by omega) (Or.inl (by omega))]
        rfl
      refine g9_writes_45 (by omega) (by omega) (by omega) ?_
      rw [e92]
      have := ih (l1 ++ [x]) ((pm M p).1 s x) M2 (by rw [e]; simp) (hP.1 s x hs (by omega)) hw ⟨_, hR2, by rw [← hT2, List.append_assoc]; rfl, by have := wl_len ((pm M p).2.1 s x); simp; omega⟩ hf3
      rw [show ((l1 ++ [x]).length : Int) = l1.length + 1 by simp] at this
      exact this
  exact key L [] 0 (am_up M 86 33 0) rfl (by omega) rfl ⟨[], ⟨by rw [am_up_hit]; rfl, fun i hi => by simp at hi⟩, rfl, by simp⟩ (fun b j h1 h2 => am_upn (by omega))
theorem c9_take {M : am_M} {Q : Option am_V → am_M → Prop} {T : List Int} (hR : ro M T) (hl : T.length ≤ 64) (k : ∀ M', rm M' T → (∀ b j : Int, b ≠ 109 → (b ≠ 86 ∨ j ≠ 31) → M' b j = M b j) → Q none M') : am_CallN m9_take [vr 86] KS M Q := by
  have e33 := hR.1
  refine am_callN_of (by decide +kernel) rfl rfl (Nat.le_of_ble_eq_true rfl) ?_
  refine g9_take_0 ?_
  rw [e33]
  refine am_forR (fun i ls M' => ls = [some (vr 86), some (vi i)] ∧ M' 86 31 = T.length ∧ (∀ j : Nat, (j : Int) < i → M' 109 j = T.getD j 0) ∧ (∀ b j : Int, b ≠ 109 → (b ≠ 86 ∨ j ≠ 31) → M' b j = M b j)) 0 T.length (by omega) ⟨rfl, am_up_hit, fun j hj => by exfalso; omega, fun b j h1 h2 => am_upn h2⟩ ?_ ?_
  · rintro ls M1 ⟨rfl, h31, hr, hf⟩
    refine g9_take_10 (fun _ => ?_) (fun c => by exfalso; omega)
    exact g9_take_36 (k M1 ⟨h31, fun i hi => hr i (by omega)⟩ hf)
  · rintro i ls M1 h0 h1 ⟨rfl, h31, hr, hf⟩ ih
    refine g9_take_10 (fun c => by exfalso; omega) (fun _ => ?_)
    refine g9_take_18 (by omega) (by omega) (by omega) (by omega) (by omega) ?_
    refine ih _ _ ⟨rfl, by rw [am_upn (Or.inl (by omega))]; exact h31, fun j hj => ?_, fun b j h1 h2 => by rw [am_upn (Or.inl h1)]; exact hf b j h1 h2⟩
    by_cases e : (j : Int) = i
    · rw [e, am_up_hit, hf 110 i (by omega) (Or.inl (by omega))]
      have := hR.2 j (by omega)
      rw [e] at this
      exact this
    · rw [am_upn (Or.inr e)]
      exact hr j (by omega)
theorem c9_run {M : am_M} {Q : Option am_V → am_M → Prop} {p : Int} {L : List Int} (hd : mdat M) (hR : rm M L) (hL : ∀ x ∈ L, 0 ≤ x ∧ x < M 86 1) (hl : L.length ≤ 24) (k0 : ¬ (0 ≤ p ∧ p ≤ 3) → ∀ M', fr9 M M' → Q (some (vi (-1))) M') (k3 : (0 ≤ p ∧ p ≤ 3) → (pm M p).2.2 (wS (pm M p) L) = -1 → ∀ M', fr9 M M' → Q (some (vi (-3))) M') (k4 : (0 ≤ p ∧ p ≤ 3) → (pm M p).2.2 (wS (pm M p) L) ≠ -1 → 24 < ((wO (pm M p) L).length : Int) → ∀ M', fr9 M M' → Q (some (vi (-4))) M') (k1 : (0 ≤ p ∧ p ≤ 3) → (pm M p).2.2 (wS (pm M p) L) ≠ -1 → ((wO (pm M p) L).length : Int) ≤ 24 → ∀ M', rm M' (wO (pm M p) L) → (∀ b j : Int, kp b j → b ≠ 109 → (b ≠ 86 ∨ j ≠ 31) → M' b j = M b j) → Q (some (vi (wO (pm M p) L).length)) M') : am_CallN m9_run [vr 86, vi p] KS M Q := by
  have hf0 : fr9 M (am_up M 86 0 0) := fr9.up (by unfold kp; omega)
  have ek : am_up M 86 0 0 86 1 = M 86 1 := am_upn (Or.inr (by omega))
  refine am_callN_of (by decide +kernel) rfl rfl (Nat.le_of_ble_eq_true rfl) ?_
  refine g9_run_0 ?_
  refine c9_noProgram ?_
  by_cases hp : 0 ≤ p ∧ p ≤ 3
  · rw [if_pos hp]
    refine g9_run_9 (fun _ => ?_) (fun c => by exfalso; omega)
    refine g9_run_14 ?_
    refine c9_writes (hd.of hf0) hp (hR.of hf0) (by rw [ek]; exact hL) hl (fun hn M1 hf1 => ?_) (fun hn M1 hR1 hf1 => ?_)
    · rw [hf0.kpm] at hn
      refine g9_run_19 (fun c => by exfalso; omega) (fun _ => ?_)
      exact g9_run_22 (k3 hp hn _ (hf0.tr hf1.r9))
    · rw [hf0.kpm] at hn hR1
      refine g9_run_19 (fun _ => ?_) (fun c => by exfalso; omega)
      have e33 := hR1.1
      refine g9_run_25 (fun c => ?_) (fun c => ?_)
      · refine g9_run_37 ?_
        refine c9_take hR1 (by omega) (fun M2 hR2 hf2 => ?_)
        refine g9_run_41 ?_
        rw [hR2.1]
        refine k1 hp hn (by omega) M2 hR2 (fun b j h1 h2 h3 => ?_)
        rw [hf2 b j h2 h3]
        exact (hf0.tr hf1.r9) b j h1
      · exact g9_run_34 (k4 hp hn (by omega) _ (hf0.tr hf1.r9))
  · rw [if_neg hp]
    refine g9_run_9 (fun c => by exfalso; omega) (fun _ => ?_)
    exact g9_run_12 (k0 hp _ hf0)
