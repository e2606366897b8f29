/-! ===== the reference: how often till it writes what it reads ===== -/
def rds (P : Pg) : Nat → Int → List Int → Int
  | 0, _, _ => -9
  | d + 1, n, L => if P.2.2 (wS P L) = -1 ∨ 24 < (wO P L).length then -9 else if wO P L = L then n else rds P d (n + 1) (wO P L)
theorem ls_ext {T L : List Int} (h : T.length = L.length) (he : ∀ j : Nat, j < L.length → T.getD j 0 = L.getD j 0) : T = L := by
  refine List.ext_getElem h (fun i h1 h2 => ?_)
  have := he i h2
  simpa [List.getD, List.getElem?_eq_getElem h1, List.getElem?_eq_getElem h2] using this
theorem wt_let {k : Int} {P : Pg} (hP : okP k P) (hk : k ≤ 4) : ∀ (L : List Int) (s : Int), 0 ≤ s ∧ s < 6 → (∀ x ∈ L, 0 ≤ x ∧ x < k) → ∀ x ∈ wt P.1 P.2.1 s L, 0 ≤ x ∧ x < k
  | [], _, _, _ => by simp [wt]
  | y :: l, s, hs, hL => by
    intro x hx
    have hy := hL y List.mem_cons_self
    rcases List.mem_append.mp hx with h | h
    · exact (hP.2.1 s y hs hy).2.2 x h
    · exact wt_let hP hk l _ (hP.1 s y hs (by omega)) (fun z hz => hL z (List.mem_cons_of_mem _ hz)) x h
theorem wO_let {k : Int} {P : Pg} (hP : okP k P) (hk : k ≤ 4) {L : List Int} (hL : ∀ x ∈ L, 0 ≤ x ∧ x < k) (he : P.2.2 (wS P L) ≠ -1) : ∀ x ∈ wO P L, 0 ≤ x ∧ x < k := by
  intro x hx
  have hs : 0 ≤ wS P L ∧ wS P L < 6 := wk_rng hP.1 L 0 (fun y hy => by have := hL y hy; omega) (by omega)
  rcases List.mem_append.mp hx with h | h
  · exact wt_let hP hk L 0 (by omega) hL x h
  · exact ((hP.2.2 _ hs).resolve_left he).2.2 x h
theorem c9_rounds {M : am_M} {Q : Option am_V → am_M → Prop} {p : Int} {L0 : List Int} (hd : mdat M) (hR : rm M L0) (hL : ∀ x ∈ L0, 0 ≤ x ∧ x < M 86 1) (hl : L0.length ≤ 24) (k0 : ¬ (0 ≤ p ∧ p ≤ 3) → ∀ M', fr9 M M' → Q (some (vi (-1))) M') (k1 : (0 ≤ p ∧ p ≤ 3) → ∀ M', rm M' L0 → (∀ b j : Int, kp b j → b ≠ 109 → (b ≠ 86 ∨ j ≠ 31) → M' b j = M b j) → Q (some (vi (rds (pm M p) 60 0 L0))) M') : am_CallN m9_rounds [vr 86, vi p] KS M Q := by
  have hf0 : fr9 M (am_up M 86 0 0) := fr9.up (by unfold kp; omega)
  have hk := hd.1
  refine am_callN_of (by decide +kernel) rfl rfl (Nat.le_of_ble_eq_true rfl) ?_
  refine g9_rounds_0 ?_
  refine c9_noProgram ?_
  by_cases hp : 0 ≤ p ∧ p ≤ 3
  · rw [if_pos hp]
    have k1 := k1 hp
    have hP := hd.pok hp
    refine g9_rounds_9 (fun _ => ?_) (fun c => by exfalso; omega)
    refine g9_rounds_14 ?_
    have hR0 := hR.of hf0
    rw [hR0.1]
    have fin : ∀ (M1 : am_M) (v g n : Int), v = rds (pm M p) 60 0 L0 → (∀ j : Nat, j < L0.length → M1 111 j = L0.getD j 0) → (∀ b j : Int, kp b j → b ≠ 109 → (b ≠ 86 ∨ j ≠ 31) → M1 b j = M b j) → am_AtN m9_rounds 206 [some (vr 86), some (vi p), some (vi (L0.length : Int)), some (vi (v)), some (vi (g)), some (vi (n)), none, none] [] KS M1 Q := by
      intro M1 v g n hv hkept hf
      refine g9_rounds_206 ?_
      refine am_forR (fun i ls M' => ls = [some (vr 86), some (vi p), some (vi (L0.length : Int)), some (vi (v)), some (vi (g)), some (vi (i)), none, none] ∧ M' 86 31 = L0.length ∧ (∀ j : Nat, j < L0.length → M' 111 j = L0.getD j 0) ∧ (∀ j : Nat, (j : Int) < i → M' 109 j = L0.getD j 0) ∧ (∀ b j : Int, kp b j → b ≠ 109 → (b ≠ 86 ∨ j ≠ 31) → M' b j = M b j)) 0 L0.length (by omega) ⟨rfl, am_up_hit, fun j hj => by rw [am_upn (Or.inl (by omega))]; exact hkept j hj, fun j hj => by exfalso; omega, fun b j h1 h2 h3 => by rw [am_upn h3]; exact hf b j h1 h2 h3⟩ ?_ ?_
      · rintro ls M2 ⟨rfl, h31, h111, h109, hf2⟩
        refine g9_rounds_214 (fun _ => ?_) (fun c => by exfalso; omega)
        refine g9_rounds_243 ?_
        rw [hv]
        exact k1 M2 ⟨h31, fun i hi => h109 i (by omega)⟩ hf2
      · rintro i ls M2 h0 h1 ⟨rfl, h31, h111, h109, hf2⟩ ih
        refine g9_rounds_214 (fun c => by exfalso; omega) (fun _ => ?_)
        refine g9_rounds_223 (by omega) (by omega) (by omega) (by omega) (by omega) ?_
        refine ih _ _ ⟨rfl, by rw [am_upn (Or.inl (by omega))]; exact h31, fun j hj => by rw [am_upn (Or.inl (by omega))]; exact h111 j hj, fun j hj => ?_, fun b j h1 h2 h3 => by rw [am_upn (Or.inl h2)]; exact hf2 b j h1 h2 h3⟩
        by_cases e : (j : Int) = i
        · rw [e, am_up_hit, ← e]
          exact h111 j (by omega)
        · rw [am_upn (Or.inr e)]
          exact h109 j (by omega)
    have stop : ∀ (M1 : am_M) (v n : Int), v = rds (pm M p) 60 0 L0 → (∀ j : Nat, j < L0.length → M1 111 j = L0.getD j 0) → (∀ b j : Int, kp b j → b ≠ 109 → (b ≠ 86 ∨ j ≠ 31) → M1 b j = M b j) → am_AtN m9_rounds 56 [some (vr 86), some (vi p), some (vi (L0.length : Int)), some (vi (v)), some (vi (0)), some (vi (n)), none, none] [] KS M1 Q := by
      intro M1 v n hv hkept hf
      refine g9_rounds_56 (fun _ => fin M1 v 0 n hv hkept hf) (fun _ => ?_)
      exact g9_rounds_63 (fun _ => fin M1 v 0 n hv hkept hf) (fun c => by exfalso; omega)
    have key : ∀ (d : Nat) (n : Int) (L : List Int) (M1 : am_M), n + d = 60 → 0 ≤ n → rm M1 L → (∀ x ∈ L, 0 ≤ x ∧ x < M 86 1) → L.length ≤ 24 → rds (pm M p) d n L = rds (pm M p) 60 0 L0 → (∀ j : Nat, j < L0.length → M1 111 j = L0.getD j 0) → (∀ b j : Int, kp b j → b ≠ 109 → (b ≠ 86 ∨ j ≠ 31) → M1 b j = M b j) → am_AtN m9_rounds 56 [some (vr 86), some (vi p), some (vi (L0.length : Int)), some (vi (-9)), some (vi (1)), some (vi (n)), none, none] [] KS M1 Q := by
      intro d
      induction d with
      | zero =>
        intro n L M1 hn hn0 hrm hLl hlen hr hkept hf
        exact g9_rounds_56 (fun _ => fin M1 (-9) 1 n hr hkept hf) (fun c => by exfalso; omega)
      | succ d ih =>
        intro n L M1 hn hn0 hrm hLl hlen hr hkept hf
        have e1 : M1 86 1 = M 86 1 := hf 86 1 (by unfold kp; omega) (by omega) (Or.inr (by omega))
        have hd1 : mdat M1 := by
          refine ⟨by rw [e1]; exact hd.1, fun j hj => ?_, fun j hj => ?_, fun j hj => ?_, fun a s x h1 h2 h3 => ?_, fun j hj => ?_⟩
          · rw [hf 87 j (by unfold kp; omega) (by omega) (Or.inl (by omega))]
            exact hd.2.1 j hj
          · rw [hf 88 j (by unfold kp; omega) (by omega) (Or.inl (by omega))]
            exact hd.2.2.1 j hj
          · rw [hf 92 j (by unfold kp; omega) (by omega) (Or.inl (by omega))]
            exact hd.2.2.2.1 j hj
          · rw [e1] at h3 ⊢
            rw [hf 93 _ (by unfold kp; omega) (by omega) (Or.inl (by omega))]
            exact hd.2.2.2.2.1 a s x h1 h2 h3
          · rw [e1, hf 94 j (by unfold kp; omega) (by omega) (Or.inl (by omega))]
            exact hd.2.2.2.2.2 j hj
        have epm : pm M1 p = pm M p := by
          unfold pm
          refine Prod.ext ?_ (Prod.ext ?_ ?_)
          · funext s x
            exact hf 92 _ (by unfold kp; omega) (by omega) (Or.inl (by omega))
          · funext s x
            exact hf 93 _ (by unfold kp; omega) (by omega) (Or.inl (by omega))
          · funext s
            exact hf 94 _ (by unfold kp; omega) (by omega) (Or.inl (by omega))
        refine g9_rounds_56 (fun c => by exfalso; omega) (fun _ => ?_)
        refine g9_rounds_63 (fun c => by exfalso; omega) (fun _ => ?_)
        refine g9_rounds_68 ?_
        have dead : ∀ M2, fo M1 M2 → (pm M p).2.2 (wS (pm M p) L) = -1 ∨ 24 < (wO (pm M p) L).length → am_AtN m9_rounds 89 [some (vr 86), some (vi p), some (vi (L0.length : Int)), some (vi (-9)), some (vi (1)), some (vi (n)), none, none] [] KS M2 Q := by
          intro M2 hf2 hbad
          have hv : -9 = rds (pm M p) 60 0 L0 := by
            rw [← hr, rds, if_pos hbad]
          have hst : am_AtN m9_rounds 56 [some (vr 86), some (vi p), some (vi (L0.length : Int)), some (vi (-9)), some (vi (0)), some (vi (n + 1)), none, none] [] KS M2 Q := stop M2 (-9) (n + 1) hv (fun j hj => by rw [hf2 111 j (by omega) (Or.inl (by omega))]; exact hkept j hj) (fun b j h1 h2 h3 => by rw [hf2.r9 b j h1]; exact hf b j h1 h2 h3)
          have h162 : am_AtN m9_rounds 162 [some (vr 86), some (vi p), some (vi (L0.length : Int)), some (vi (-9)), some (vi (0)), some (vi (n)), some (vi (0)), some (vi (0))] [] KS M2 Q := by
            refine g9_rounds_162 (fun _ => ?_) (fun c => by exfalso; omega)
            refine g9_rounds_172 ?_
            refine g9_rounds_173 (fun _ => ?_) (fun c => by exfalso; omega)
            refine g9_rounds_188 ?_
            refine g9_rounds_189 (fun _ => ?_) (fun c => by exfalso; omega)
            exact g9_rounds_200 (by omega) hst
          refine g9_rounds_89 ?_
          refine g9_rounds_90 (fun _ => ?_) (fun c => by exfalso; omega)
          refine g9_rounds_112 ?_
          refine g9_rounds_113 ?_
          exact g9_rounds_118 (fun _ => h162) (fun _ => g9_rounds_127 (fun _ => h162) (fun c => by exfalso; omega))
        refine c9_writes hd1 hp hrm (by rw [e1]; exact hLl) hlen (fun hn M2 hf2 => ?_) (fun hn' M2 hR2 hf2 => ?_)
        · rw [epm] at hn
          exact g9_rounds_73 (fun _ => dead M2 hf2 (Or.inl hn)) (fun c => by exfalso; omega)
        · rw [epm] at hn' hR2
          have e33 := hR2.1
          have hrm2 := hrm.of hf2.r9
          have e31 := hrm2.1
          have hkept2 : ∀ j : Nat, j < L0.length → M2 111 j = L0.getD j 0 := fun j hj => by rw [hf2 111 j (by omega) (Or.inl (by omega))]; exact hkept j hj
          have hfr2 : ∀ b j : Int, kp b j → b ≠ 109 → (b ≠ 86 ∨ j ≠ 31) → M2 b j = M b j := fun b j h1 h2 h3 => by rw [hf2.r9 b j h1]; exact hf b j h1 h2 h3
          refine g9_rounds_73 (fun c => by exfalso; omega) (fun _ => ?_)
          refine g9_rounds_76 (fun c => dead M2 hf2 (Or.inr (by omega))) (fun c => ?_)
          have hlen2 : (wO (pm M p) L).length ≤ 24 := by omega
          have er : rds (pm M p) (d + 1) n L = if wO (pm M p) L = L then n else rds (pm M p) d (n + 1) (wO (pm M p) L) := by
            rw [rds, if_neg (by intro h; rcases h with h | h; exact hn' h; omega)]
          have unlike : wO (pm M p) L ≠ L → ∀ i : Int, am_AtN m9_rounds 162 [some (vr 86), some (vi p), some (vi (L0.length : Int)), some (vi (-9)), some (vi (1)), some (vi (n)), some (vi (0)), some (vi (i))] [] KS M2 Q := by
            intro hne i
            refine g9_rounds_162 (fun _ => ?_) (fun c => by exfalso; omega)
            refine g9_rounds_172 ?_
            refine g9_rounds_173 (fun c => by exfalso; omega) (fun _ => ?_)
            refine g9_rounds_179 (fun c => by exfalso; omega) (fun _ => ?_)
            refine g9_rounds_184 ?_
            refine g9_rounds_189 (fun c => by exfalso; omega) (fun _ => ?_)
            refine g9_rounds_196 ?_
            refine c9_take hR2 (by omega) (fun M3 hR3 hf3 => ?_)
            refine g9_rounds_200 (by omega) ?_
            refine ih (n + 1) _ M3 (by omega) (by omega) hR3 (wO_let hP (by omega) hLl hn') hlen2 ?_ (fun j hj => by rw [hf3 111 j (by omega) (Or.inl (by omega))]; exact hkept2 j hj) (fun b j h1 h2 h3 => by rw [hf3 b j h2 h3]; exact hfr2 b j h1 h2 h3)
            rw [← hr, er, if_neg hne]
          have like : wO (pm M p) L = L → ∀ i : Int, am_AtN m9_rounds 162 [some (vr 86), some (vi p), some (vi (L0.length : Int)), some (vi (-9)), some (vi (1)), some (vi (n)), some (vi (1)), some (vi (i))] [] KS M2 Q := by
            intro he i
            refine g9_rounds_162 (fun c => by exfalso; omega) (fun _ => ?_)
            refine g9_rounds_167 ?_
            refine g9_rounds_173 (fun c => by exfalso; omega) (fun _ => ?_)
            refine g9_rounds_179 (fun _ => ?_) (fun c => by exfalso; omega)
            refine g9_rounds_188 ?_
            refine g9_rounds_189 (fun _ => ?_) (fun c => by exfalso; omega)
            refine g9_rounds_200 (by omega) ?_
            refine stop M2 n (n + 1) ?_ hkept2 hfr2
            rw [← hr, er, if_pos he]
          refine g9_rounds_85 ?_
          refine g9_rounds_90 (fun c => by exfalso; omega) (fun _ => ?_)
          refine g9_rounds_97 (fun c2 => ?_) (fun c2 => ?_)
          · have hne : wO (pm M p) L ≠ L := fun h => c2 (by rw [e33, e31, h])
            refine g9_rounds_112 ?_
            refine g9_rounds_113 ?_
            exact g9_rounds_118 (fun _ => unlike hne 0) (fun _ => g9_rounds_127 (fun _ => unlike hne 0) (fun c => by exfalso; omega))
          · have hll : (wO (pm M p) L).length = L.length := by omega
            refine g9_rounds_108 ?_
            refine g9_rounds_113 ?_
            have cmp : ∀ (dd : Nat) (i : Nat), i + dd = L.length → (∀ j : Nat, j < i → (wO (pm M p) L).getD j 0 = L.getD j 0) → am_AtN m9_rounds 118 [some (vr 86), some (vi p), some (vi (L0.length : Int)), some (vi (-9)), some (vi (1)), some (vi (n)), some (vi (1)), some (vi ((i : Int)))] [] KS M2 Q := by
              intro dd
              induction dd with
              | zero =>
                intro i hi hj
                refine g9_rounds_118 (fun _ => like (ls_ext hll (fun j h => hj j (by omega))) _) (fun c => by exfalso; omega)
              | succ dd ihd =>
                intro i hi hj
                have g1 := hR2.2 i (by omega)
                have g2 := hrm2.2 i (by omega)
                refine g9_rounds_118 (fun c => by exfalso; omega) (fun _ => ?_)
                refine g9_rounds_127 (fun c => by exfalso; omega) (fun _ => ?_)
                refine g9_rounds_132 (by omega) (by omega) (by omega) (by omega) (fun c => ?_) (fun c => ?_)
                · have hne : wO (pm M p) L ≠ L := fun h => c (by rw [g1, g2, h])
                  refine g9_rounds_153 ?_
                  refine g9_rounds_154 (by omega) ?_
                  exact g9_rounds_118 (fun _ => unlike hne _) (fun _ => g9_rounds_127 (fun _ => unlike hne _) (fun c => by exfalso; omega))
                · refine g9_rounds_149 ?_
                  refine g9_rounds_154 (by omega) ?_
                  have := ihd (i + 1) (by omega) (fun j hj' => by
                    by_cases e : j = i
                    · subst e
                      rw [← g1, ← g2]
                      exact c
                    · exact hj j (by omega))
                  rw [show ((i + 1 : Nat) : Int) = (i : Int) + 1 by omega] at this
                  exact this
            exact cmp L.length 0 (by omega) (fun j hj => by omega)
    have hf00 : ∀ b j : Int, kp b j → b ≠ 109 → (b ≠ 86 ∨ j ≠ 31) → am_up M 86 0 0 b j = M b j := fun b j h1 _ _ => hf0 b j h1
    refine am_forR (fun i ls M' => ls = [some (vr 86), some (vi p), some (vi (L0.length : Int)), some (vi (i)), none, none, none, none] ∧ rm M' L0 ∧ (∀ j : Nat, (j : Int) < i → M' 111 j = L0.getD j 0) ∧ (∀ b j : Int, kp b j → b ≠ 109 → (b ≠ 86 ∨ j ≠ 31) → M' b j = M b j)) 0 L0.length (by omega) ⟨rfl, hR0, fun j hj => by exfalso; omega, hf00⟩ ?_ ?_
    · rintro ls M1 ⟨rfl, hrm, h111, hf⟩
      refine g9_rounds_21 (fun _ => ?_) (fun c => by exfalso; rw [hrm.1] at c; omega)
      refine g9_rounds_47 ?_
      exact key 60 0 L0 M1 (by omega) (by omega) hrm hL hl rfl (fun j hj => h111 j (by omega)) hf
    · rintro i ls M1 h0 h1 ⟨rfl, hrm, h111, hf⟩ ih
      refine g9_rounds_21 (fun c => by exfalso; rw [hrm.1] at c; omega) (fun _ => ?_)
      refine g9_rounds_29 (by omega) (by omega) (by omega) (by omega) (by omega) ?_
      refine ih _ _ ⟨rfl, hrm.of (fr9.up (by unfold kp; omega)), fun j hj => ?_, fun b j h1 h2 h3 => by rw [am_upn (Or.inl (by unfold kp at h1; omega))]; exact hf b j h1 h2 h3⟩
      by_cases e : (j : Int) = i
      · rw [e, am_up_hit, ← e]
        exact hrm.2 j (by omega)
      · rw [am_upn (Or.inr e)]
        exact h111 j (by omega)
  · rw [if_neg hp]
    refine g9_rounds_9 (fun c => by exfalso; omega) (fun _ => ?_)
    exact g9_rounds_12 (k0 hp _ hf0)
