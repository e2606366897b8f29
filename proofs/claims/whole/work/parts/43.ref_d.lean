/-! ===== the reference: how many rows, rows by place ===== -/
def RK (M : am_M) (s N : Int) : Prop := ∀ n : Nat, (n : Int) ≤ N → ∀ p : Int, 0 ≤ p ∧ p < 6 → M 108 (6 * (n : Int) + p) = ws (M 86 1).toNat (sm M s) n p
def rm (M : am_M) (L : List Int) : Prop := M 86 31 = L.length ∧ ∀ i : Nat, i < L.length → M 109 i = L.getD i 0
theorem c9_reckon {M : am_M} {Q : Option am_V → am_M → Prop} {s N : Int} (hd : mdat M) (hs : 0 ≤ s ∧ s ≤ 7) (hN : 0 ≤ N ∧ N ≤ 20) (kk : ∀ M', RK M' s N → fr9 M M' → Q none M') : am_CallN m9_reckon [vr 86, vi s, vi N] KS M Q := by
  have hk := hd.1
  have oA := hd.sok hs
  refine am_callN_of (by decide +kernel) rfl rfl (Nat.le_of_ble_eq_true rfl) ?_
  refine g9_reckon_0 ?_
  refine am_forR (fun n ls M' => ls = [some (vr 86), some (vi s), some (vi N), some (vi n), none, none, none, none] ∧ RK M' s (n - 1) ∧ fr9 M M') 0 (N + 1) (by omega) ⟨rfl, fun n hn => by exfalso; omega, fr9.rf⟩ ?_ ?_
  · rintro ls M1 ⟨rfl, hR, hf⟩
    refine g9_reckon_2 (fun _ => ?_) (fun c => by exfalso; omega)
    refine g9_reckon_125 (kk M1 ?_ hf)
    rw [show N + 1 - 1 = N by omega] at hR
    exact hR
  · rintro n ls M1 h0 h1 ⟨rfl, hR, hf⟩ ih
    refine g9_reckon_2 (fun c => by exfalso; omega) (fun _ => ?_)
    refine g9_reckon_7 ?_
    refine am_forR (fun p ls M' => ls = [some (vr 86), some (vi s), some (vi N), some (vi n), some (vi p), none, none, none] ∧ RK M' s (n - 1) ∧ (∀ p' : Int, 0 ≤ p' ∧ p' < p → M' 108 (6 * n + p') = ws (M 86 1).toNat (sm M s) n.toNat p') ∧ fr9 M M') 0 6 (by omega) ⟨rfl, hR, fun p' h => by exfalso; omega, hf⟩ ?_ ?_
    · rintro ls M2 ⟨rfl, hR2, hp2, hf2⟩
      refine g9_reckon_10 (fun _ => ?_) (fun c => by exfalso; omega)
      refine g9_reckon_119 (by omega) ?_
      refine ih _ _ ⟨rfl, fun m hm p hp => ?_, hf2⟩
      by_cases e : (m : Int) = n
      · have := hp2 p hp
        rw [← e] at this
        rw [hf2.ksm, hf2 86 1 (by unfold kp; omega)]
        exact this
      · exact hR2 m (by omega) p hp
    · rintro p ls M2 hp0 hp1 ⟨rfl, hR2, hp2, hf2⟩ ihp
      have hd2 := hd.of hf2
      have e1 : M2 86 1 = M 86 1 := hf2 86 1 (by unfold kp; omega)
      have esm : sm M2 = sm M := hf2.ksm
      have e88 : M2 88 (6 * s + p) = (sm M s).2 p := by rw [← esm]; rfl
      have e87 : ∀ x : Int, M2 87 (24 * s + 4 * p + x) = (sm M s).1 p x := fun x => by rw [← esm]; rfl
      refine g9_reckon_10 (fun c => by exfalso; omega) (fun _ => ?_)
      have fin : ∀ v x : Int, v = ws (M 86 1).toNat (sm M s) n.toNat p → am_AtN m9_reckon 99 [some (vr 86), some (vi s), some (vi N), some (vi n), some (vi p), some (vl v), none, some (vi x)] [] KS M2 Q := by
        intro v x hv
        refine g9_reckon_99 (by omega) (by omega) (by omega) (by omega) (by omega) ?_
        refine ihp _ _ ⟨rfl, ?_, ?_, hf2.tr (fr9.up (by unfold kp; omega))⟩
        · intro m hm p' hp'
          have h3 := hR2 m hm p' hp'
          rw [am_upn (Or.inr (by omega)), h3, am_upn (Or.inl (by omega)), (fr9.up (M := M2) (a := 108) (i := 6 * n + p) (v := v) (by unfold kp; omega)).ksm]
        · intro p' hp'
          by_cases e : p' = p
          · subst e
            rw [am_up_hit]
            exact hv
          · rw [am_upn (Or.inr (by omega))]
            exact hp2 p' (by omega)
      by_cases hn : n = 0
      · have fin0 : ∀ v : Int, v = ws (M 86 1).toNat (sm M s) n.toNat p → am_AtN m9_reckon 41 [some (vr 86), some (vi s), some (vi N), some (vi n), some (vi p), none, none, none] [vl v] KS M2 Q := by
          intro v hv
          refine g9_reckon_41 ?_
          refine g9_reckon_46 (fun c => by exfalso; omega) (fun _ => ?_)
          refine g9_reckon_55 (fun _ => ?_) (fun c => by exfalso; omega)
          exact fin v 0 hv
        have ew : ws (M 86 1).toNat (sm M s) n.toNat p = if (sm M s).2 p = 1 then 1 else 0 := by
          rw [hn]
          rfl
        refine g9_reckon_17 (fun c => by exfalso; omega) (fun _ => ?_)
        have h01 := hd2.2.2.1 (6 * s + p) (by omega)
        refine g9_reckon_21 (by omega) (by omega) (by omega) (by omega) (fun c => ?_) (fun c => ?_)
        · refine g9_reckon_40 (fin0 0 ?_)
          rw [ew, if_neg (by omega)]
        · refine g9_reckon_36 (fin0 1 ?_)
          rw [ew, if_pos (by omega)]
      · refine g9_reckon_17 (fun _ => ?_) (fun c => by exfalso; omega)
        refine g9_reckon_40 ?_
        refine g9_reckon_41 ?_
        refine am_forR (fun x ls M' => ls = [some (vr 86), some (vi s), some (vi N), some (vi n), some (vi p), some (vl (su (fun x => ws (M 86 1).toNat (sm M s) (n - 1).toNat ((sm M s).1 p x)) x.toNat)), none, some (vi x)] ∧ M' = M2) 0 (M 86 1) (by omega) ⟨rfl, rfl⟩ ?_ ?_
        · rintro ls M' ⟨rfl, rfl⟩
          refine g9_reckon_46 (fun _ => ?_) (fun c => by exfalso; omega)
          refine fin _ _ ?_
          rw [show n.toNat = (n - 1).toNat + 1 by omega]
          rfl
        · rintro x ls M' hx0 hx1 ⟨rfl, rfl⟩ ihx
          refine g9_reckon_46 (fun c => by exfalso; omega) (fun _ => ?_)
          refine g9_reckon_55 (fun c => by exfalso; omega) (fun _ => ?_)
          have hx := oA p x ⟨hp0, hp1⟩ (by omega)
          have hw := hR2 (n - 1).toNat (by omega) _ hx
          rw [show (((n - 1).toNat : Nat) : Int) = n - 1 by omega, e1, esm] at hw
          have b1 := ws_b (k := (M 86 1).toNat) (by omega) oA (n := (n - 1).toNat) (by omega) hx
          have b2 := su_rng (f := fun x => ws (M 86 1).toNat (sm M s) (n - 1).toNat ((sm M s).1 p x)) (B := 1099511627776) x.toNat (fun y h0 h1 => ws_b (by omega) oA (by omega) (oA p y ⟨hp0, hp1⟩ (by omega)))
          have e3 := e87 x
          refine g9_reckon_59 (by omega) (by omega) (by omega) (by omega) (by omega) (by omega) (by omega) (by omega) (by omega) (by omega) (by omega) (by rw [e3, hw]; omega) (by omega) ?_
          refine ihx _ _ ⟨?_, rfl⟩
          rw [e3, hw, show (x + 1).toNat = x.toNat + 1 by omega]
          show _ = [some (vr 86), some (vi s), some (vi N), some (vi n), some (vi p), some (vl (su _ x.toNat + ws (M 86 1).toNat (sm M s) (n - 1).toNat ((sm M s).1 p (x.toNat : Int)))), none, some (vi (x + 1))]
          rw [show ((x.toNat : Nat) : Int) = x by omega]
theorem c9_rows {M : am_M} {Q : Option am_V → am_M → Prop} {s N : Int} (hd : mdat M) (k0 : ¬ (0 ≤ s ∧ s ≤ 7) → ∀ M', fr9 M M' → Q (some (vl (-1))) M') (k2 : (0 ≤ s ∧ s ≤ 7) → ¬ (0 ≤ N ∧ N ≤ 20) → ∀ M', fr9 M M' → Q (some (vl (-2))) M') (k1 : (0 ≤ s ∧ s ≤ 7) → (0 ≤ N ∧ N ≤ 20) → ∀ M', fr9 M M' → Q (some (vl (ws (M 86 1).toNat (sm M s) N.toNat 0))) M') : am_CallN m9_rows [vr 86, vi s, vi N] KS M Q := by
  have hf0 : fr9 M (am_up M 86 0 0) := fr9.up (by unfold kp; omega)
  refine am_callN_of (by decide +kernel) rfl rfl (Nat.le_of_ble_eq_true rfl) ?_
  refine g9_rows_0 ?_
  refine c9_noSentence ?_
  by_cases hs : 0 ≤ s ∧ s ≤ 7
  · rw [if_pos hs]
    refine g9_rows_9 (fun _ => ?_) (fun c => by exfalso; omega)
    refine g9_rows_16 ?_
    refine c9_in ?_
    by_cases hN : 0 ≤ N ∧ N ≤ 20
    · rw [if_pos hN]
      refine g9_rows_25 (fun _ => ?_) (fun c => by exfalso; omega)
      refine g9_rows_32 ?_
      refine c9_reckon (hd.of hf0) hs hN (fun M1 hR hf1 => ?_)
      refine g9_rows_38 (by omega) (by omega) (by omega) ?_
      have hf := hf0.tr hf1
      have := hR N.toNat (by omega) 0 (by omega)
      rw [show 6 * ((N.toNat : Nat) : Int) + 0 = 6 * N by omega, hf.ksm, hf 86 1 (by unfold kp; omega)] at this
      rw [this]
      exact k1 hs hN M1 hf
    · rw [if_neg hN]
      refine g9_rows_25 (fun c => by exfalso; omega) (fun _ => ?_)
      exact g9_rows_28 (k2 hs hN _ hf0)
  · rw [if_neg hs]
    refine g9_rows_9 (fun c => by exfalso; omega) (fun _ => ?_)
    exact g9_rows_12 (k0 hs _ hf0)
theorem c9_isSo {M : am_M} {Q : Option am_V → am_M → Prop} {s : Int} {L : List Int} (hd : mdat M) (hs : 0 ≤ s ∧ s ≤ 7) (hR : rm M L) (hL : ∀ x ∈ L, 0 ≤ x ∧ x < 4) (hl : L.length ≤ 64) (kk : Q (some (vi ((sm M s).2 (wk (sm M s).1 0 L)))) M) : am_CallN m9_isSo [vr 86, vi s] KS M Q := by
  have oA := hd.sok hs
  refine am_callN_of (by decide +kernel) rfl rfl (Nat.le_of_ble_eq_true rfl) ?_
  refine g9_isSo_0 ?_
  have key : ∀ (l2 l1 : List Int) (p : Int), L = l1 ++ l2 → 0 ≤ p ∧ p < 6 → wk (sm M s).1 p l2 = wk (sm M s).1 0 L → am_AtN m9_isSo 4 [some (vr 86), some (vi s), some (vi p), some (vi (l1.length : Int))] [] KS M Q := by
    intro l2
    induction l2 with
    | nil =>
      intro l1 p e hp hw
      have el : (L.length : Int) = l1.length := by rw [e]; simp
      have h31 := hR.1
      refine g9_isSo_4 (fun _ => ?_) (fun c => by exfalso; omega)
      refine g9_isSo_39 (by omega) (by omega) (by omega) (by omega) (hd.2.2.1 _ (by omega)) ?_
      rw [← hw] at kk
      exact kk
    | cons x l2 ih =>
      intro l1 p e hp hw
      have el : (L.length : Int) = l1.length + (l2.length + 1) := by rw [e]; simp
      have h31 := hR.1
      have hx := hL x (by rw [e]; simp)
      have hg : M 109 (l1.length : Int) = x := by
        rw [hR.2 l1.length (by omega), e]
        simp [List.getD]
      refine g9_isSo_4 (fun c => by exfalso; omega) (fun _ => ?_)
      refine g9_isSo_12 (by omega) (by omega) (by omega) (by omega) (by omega) (by omega) (by omega) (by omega) (by omega) ?_
      rw [hg]
      have := ih (l1 ++ [x]) ((sm M s).1 p x) (by rw [e]; simp) (oA p x hp (by omega)) hw
      rw [show ((l1 ++ [x]).length : Int) = l1.length + 1 by simp] at this
      exact this
  exact key L [] 0 rfl (by omega) rfl
