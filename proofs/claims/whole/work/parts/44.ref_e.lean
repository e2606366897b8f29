/-! ===== the reference: a row by place, told back ===== -/
theorem su_mono {f : Int → Int} : ∀ (d n : Nat), (∀ x : Int, 0 ≤ x → x < n + d → 0 ≤ f x) → su f n ≤ su f (n + d)
  | 0, n, _ => Int.le_refl _
  | d + 1, n, h => by
    have ih := su_mono (f := f) d n (fun x h0 h1 => h x h0 (by omega))
    have h2 := h ((n + d : Nat) : Int) (by omega) (by omega)
    show su f n ≤ su f (n + d) + f ((n + d : Nat) : Int)
    omega
theorem c9_lay {M : am_M} {Q : Option am_V → am_M → Prop} {s N pl : Int} (hd : mdat M) (k0 : ¬ (0 ≤ s ∧ s ≤ 7) → ∀ M', fr9 M M' → Q (some (vi (-1))) M') (k2 : (0 ≤ s ∧ s ≤ 7) → ¬ ((0 ≤ N ∧ N ≤ 20) ∧ 0 ≤ pl ∧ pl < ws (M 86 1).toNat (sm M s) N.toNat 0) → ∀ M', fr9 M M' → Q (some (vi (-2))) M') (k1 : (0 ≤ s ∧ s ≤ 7) → (0 ≤ N ∧ N ≤ 20) → (0 ≤ pl ∧ pl < ws (M 86 1).toNat (sm M s) N.toNat 0) → ∀ M', rm M' (ly (M 86 1).toNat (sm M s) N.toNat 0 pl) → (∀ b j : Int, kp b j → b ≠ 109 → (b ≠ 86 ∨ j ≠ 31) → M' b j = M b j) → Q (some (vi (if N = 0 then -9 else (ly (M 86 1).toNat (sm M s) N.toNat 0 pl).getD 0 0))) M') : am_CallN m9_lay [vr 86, vi s, vi N, vl pl] KS M Q := by
  have hf0 : fr9 M (am_up M 86 0 0) := fr9.up (by unfold kp; omega)
  refine am_callN_of (by decide +kernel) rfl rfl (Nat.le_of_ble_eq_true rfl) ?_
  refine g9_lay_0 ?_
  refine c9_noSentence ?_
  by_cases hs : 0 ≤ s ∧ s ≤ 7
  · rw [if_pos hs]
    refine g9_lay_9 (fun _ => ?_) (fun c => by exfalso; omega)
    refine g9_lay_14 ?_
    refine c9_in ?_
    by_cases hN : 0 ≤ N ∧ N ≤ 20
    · rw [if_pos hN]
      refine g9_lay_23 (fun _ => ?_) (fun c => by exfalso; omega)
      refine g9_lay_29 ?_
      refine c9_reckon (hd.of hf0) hs hN (fun M1 hR hf1 => ?_)
      have hf := hf0.tr hf1
      have oA := hd.sok hs
      have hk := hd.1
      have e1 : M1 86 1 = M 86 1 := hf 86 1 (by unfold kp; omega)
      have esm : sm M1 = sm M := hf.ksm
      have hRr : ∀ n : Nat, (n : Int) ≤ N → ∀ p : Int, 0 ≤ p ∧ p < 6 → M1 108 (6 * (n : Int) + p) = ws (M 86 1).toNat (sm M s) n p := by
        intro n hn p hp
        have := hR n hn p hp
        rw [esm, e1] at this
        exact this
      have h0 := hRr N.toNat (by omega) 0 (by omega)
      rw [show 6 * ((N.toNat : Nat) : Int) + 0 = 6 * N by omega] at h0
      have hb := ws_b (k := (M 86 1).toNat) (by omega) oA (n := N.toNat) (by omega) (p := 0) (by omega)
      refine g9_lay_35 (by omega) (by omega) (by omega) (by omega) ?_
      refine c9_in ?_
      rw [h0]
      by_cases hpl : 0 ≤ pl ∧ pl < ws (M 86 1).toNat (sm M s) N.toNat 0
      · rw [if_pos (by omega)]
        refine g9_lay_51 (fun _ => ?_) (fun c => by exfalso; omega)
        refine g9_lay_57 ?_
        have k1 := k1 hs hN hpl
        have key : ∀ (n : Nat) (p l : Int) (L : List Int) (M2 : am_M), (L.length : Int) + n = N → 0 ≤ p ∧ p < 6 → (0 ≤ l ∧ l < ws (M 86 1).toNat (sm M s) n p) → L ++ ly (M 86 1).toNat (sm M s) n p l = ly (M 86 1).toNat (sm M s) N.toNat 0 pl → (∀ i : Nat, i < L.length → M2 109 i = L.getD i 0) → (∀ b j : Int, b ≠ 109 → M2 b j = M1 b j) → am_AtN m9_lay 66 [some (vr 86), some (vi s), some (vi N), some (vl pl), none, some (vl l), none, some (vi p), some (vi (n : Int)), none, none, none] [] KS M2 Q := by
          intro n
          induction n with
          | zero =>
            intro p l L M2 hL hp hl eL hrow hfr
            have eL : L = ly (M 86 1).toNat (sm M s) N.toNat 0 pl := by
              rw [← eL]
              exact (List.append_nil L).symm
            have hrm : rm (am_up M2 86 31 N) (ly (M 86 1).toNat (sm M s) N.toNat 0 pl) := by
              rw [← eL]
              refine ⟨by rw [am_up_hit]; omega, fun i hi => ?_⟩
              rw [am_upn (Or.inl (by omega))]
              exact hrow i hi
            have hfr2 : ∀ b j : Int, kp b j → b ≠ 109 → (b ≠ 86 ∨ j ≠ 31) → am_up M2 86 31 N b j = M b j := fun b j h1 h2 h3 => by
              rw [am_upn h3, hfr b j h2]
              exact hf b j h1
            have k1 := k1 _ hrm hfr2
            refine g9_lay_66 (fun _ => ?_) (fun c => by exfalso; omega)
            refine g9_lay_192 (fun c => ?_) (fun c => ?_)
            · rw [if_neg c] at k1
              refine g9_lay_206 ?_
              refine g9_lay_212 ?_
              have h3 := hrm.2 0 (by rw [ly_len]; omega)
              rw [show ((0 : Nat) : Int) = 0 by omega] at h3
              rw [h3]
              exact k1
            · rw [if_pos c] at k1
              refine g9_lay_201 ?_
              exact g9_lay_212 k1
          | succ n ih =>
            intro p l L M2 hL hp hl eL hrow hfr
            have e87 : ∀ x : Int, M2 87 (24 * s + 4 * p + x) = (sm M s).1 p x := fun x => by rw [hfr 87 _ (by omega), ← esm]; rfl
            have hw2 : ∀ p : Int, 0 ≤ p ∧ p < 6 → M2 108 (6 * (n : Int) + p) = ws (M 86 1).toNat (sm M s) n p := fun p hp => by
              rw [hfr 108 _ (by omega)]
              exact hRr n (by omega) p hp
            have hl' := hl.2
            change l < su (fun x => ws (M 86 1).toNat (sm M s) n ((sm M s).1 p x)) (M 86 1).toNat at hl'
            have tail : ∀ x l' : Int, 0 ≤ x ∧ x < M 86 1 → (0 ≤ l' ∧ l' < ws (M 86 1).toNat (sm M s) n ((sm M s).1 p x)) → (pk (fun x => ws (M 86 1).toNat (sm M s) n ((sm M s).1 p x)) ((M 86 1).toNat - 1) 0 l) = (x, l') → ∀ u, am_AtN m9_lay 156 [some (vr 86), some (vi s), some (vi N), some (vl pl), none, some (vl l'), none, some (vi p), some (vi ((n + 1 : Nat) : Int)), some (vi x), some (vl u), none] [] KS M2 Q := by
              intro x l' hx hl2 e u
              have hx2 := oA p x hp (by omega)
              refine g9_lay_156 (by omega) (by omega) (by omega) (by omega) (by omega) (by omega) (by omega) (by omega) (by omega) (by omega) ?_
              have e3 : am_up M2 109 (N - ((n + 1 : Nat) : Int)) x 87 (24 * s + 4 * p + x) = (sm M s).1 p x := by
                rw [am_upn (Or.inl (by omega))]
                exact e87 x
              rw [e3, show ((n + 1 : Nat) : Int) + -1 = (n : Int) by omega, show N - ((n + 1 : Nat) : Int) = L.length by omega]
              refine ih _ _ (L ++ [x]) _ (by simp; omega) hx2 hl2 ?_ ?_ ?_
              · rw [← eL, List.append_assoc, ly, e]
                rfl
              · intro i hi
                by_cases e : i = L.length
                · subst e
                  rw [am_up_hit]
                  simp [List.getD]
                · have hi' : i < L.length := by simp at hi; omega
                  rw [am_upn (Or.inr (by omega)), hrow i hi']
                  simp [List.getD, List.getElem?_append_left hi']
              · intro b j hb
                rw [am_upn (Or.inl hb)]
                exact hfr b j hb
            have inner : ∀ (d : Nat) (x l' : Int), x + d = M 86 1 - 1 → 0 ≤ x → 0 ≤ l' → l' + su (fun x => ws (M 86 1).toNat (sm M s) n ((sm M s).1 p x)) x.toNat = l → (pk (fun x => ws (M 86 1).toNat (sm M s) n ((sm M s).1 p x)) ((M 86 1).toNat - 1) 0 l) = pk (fun x => ws (M 86 1).toNat (sm M s) n ((sm M s).1 p x)) d x l' → am_AtN m9_lay 103 [some (vr 86), some (vi s), some (vi N), some (vl pl), none, some (vl l'), none, some (vi p), some (vi ((n + 1 : Nat) : Int)), some (vi x), some (vl (ws (M 86 1).toNat (sm M s) n ((sm M s).1 p x))), none] [] KS M2 Q := by
              intro d
              induction d with
              | zero =>
                intro x l' hx h0 hl0 es e
                have e4 : su (fun x => ws (M 86 1).toNat (sm M s) n ((sm M s).1 p x)) (M 86 1).toNat = su (fun x => ws (M 86 1).toNat (sm M s) n ((sm M s).1 p x)) x.toNat + ws (M 86 1).toNat (sm M s) n ((sm M s).1 p x) := by
                  have e5 : (M 86 1).toNat = x.toNat + 1 := by omega
                  generalize (M 86 1).toNat = kk at *
                  subst e5
                  show su _ x.toNat + ws _ (sm M s) n ((sm M s).1 p (x.toNat : Int)) = _
                  rw [show ((x.toNat : Nat) : Int) = x by omega]
                refine g9_lay_103 (fun c => ?_) (fun c => by exfalso; omega)
                exact tail x l' (by omega) ⟨hl0, c⟩ e _
              | succ d ihd =>
                intro x l' hx h0 hl0 es e
                have hx2 := oA p x hp (by omega)
                have hx3 := oA p (x + 1) hp (by omega)
                have hb2 := ws_b (k := (M 86 1).toNat) (by omega) oA (n := n) (by omega) hx2
                have hb3 := su_rng (f := fun x => ws (M 86 1).toNat (sm M s) n ((sm M s).1 p x)) (B := 1099511627776) x.toNat (fun y h0 h1 => ws_b (by omega) oA (by omega) (oA p y hp (by omega)))
                refine g9_lay_103 (fun c => ?_) (fun c => ?_)
                · refine tail x l' (by omega) ⟨hl0, c⟩ ?_ _
                  rw [e]
                  show (if l' < ws (M 86 1).toNat (sm M s) n ((sm M s).1 p x) then (x, l') else _) = _
                  rw [if_pos c]
                · have e5 : 6 * (((n + 1 : Nat) : Int) - 1) = 6 * (n : Int) := by omega
                  have e6 := e87 (x + 1)
                  have hlb := ws_b (k := (M 86 1).toNat) (by omega) oA (n := n + 1) (by omega) hp
                  refine g9_lay_111 (by omega) (by omega) (by omega) (by omega) (by omega) (by omega) (by omega) (by omega) (by omega) (by omega) (by omega) (by omega) (by omega) ?_
                  rw [e6, e5, hw2 _ hx3]
                  refine ihd _ _ (by omega) (by omega) (by omega) ?_ ?_
                  · rw [show (x + 1).toNat = x.toNat + 1 by omega]
                    show l' - _ + (su _ x.toNat + ws (M 86 1).toNat (sm M s) n ((sm M s).1 p (x.toNat : Int))) = l
                    rw [show ((x.toNat : Nat) : Int) = x by omega]
                    omega
                  · rw [e]
                    show (if l' < ws (M 86 1).toNat (sm M s) n ((sm M s).1 p x) then (x, l') else _) = _
                    rw [if_neg c]
            have hx0 := oA p 0 hp (by omega)
            have e5 : 6 * (((n + 1 : Nat) : Int) - 1) = 6 * (n : Int) := by omega
            have e6 : M2 87 (24 * s + 4 * p) = (sm M s).1 p 0 := by
              have := e87 0
              rw [show 24 * s + 4 * p + 0 = 24 * s + 4 * p by omega] at this
              exact this
            refine g9_lay_66 (fun c => by exfalso; omega) (fun _ => ?_)
            refine g9_lay_71 (by omega) (by omega) (by omega) (by omega) (by omega) (by omega) (by omega) (by omega) (by omega) (by omega) ?_
            rw [e6, e5, hw2 _ hx0]
            exact inner ((M 86 1).toNat - 1) 0 l (by omega) (by omega) hl.1 (by show l + 0 = l; omega) rfl
        have := key N.toNat 0 pl [] M1 (by simp; omega) (by omega) hpl rfl (fun i hi => by simp at hi) (fun _ _ _ => rfl)
        rw [show ((N.toNat : Nat) : Int) = N by omega] at this
        exact this
      · rw [if_neg (by omega)]
        refine g9_lay_51 (fun c => by exfalso; omega) (fun _ => ?_)
        exact g9_lay_54 (k2 hs (fun h => hpl h.2) _ hf)
    · rw [if_neg hN]
      refine g9_lay_23 (fun c => by exfalso; omega) (fun _ => ?_)
      exact g9_lay_26 (k2 hs (fun h => hN h.1) _ hf0)
  · rw [if_neg hs]
    refine g9_lay_9 (fun c => by exfalso; omega) (fun _ => ?_)
    exact g9_lay_12 (k0 hs _ hf0)
theorem rm.of {M M' : am_M} {L : List Int} (h : rm M L) (hf : fr9 M M') : rm M' L := by
  refine ⟨by rw [hf 86 31 (by unfold kp; omega)]; exact h.1, fun i hi => ?_⟩
  rw [hf 109 i (by unfold kp; omega)]
  exact h.2 i hi
theorem c9_rank {M : am_M} {Q : Option am_V → am_M → Prop} {s : Int} {L : List Int} (hd : mdat M) (hRm : rm M L) (hL : ∀ x ∈ L, 0 ≤ x ∧ x < M 86 1) (hl : L.length ≤ 50) (k0 : ¬ (0 ≤ s ∧ s ≤ 7) → ∀ M', fr9 M M' → Q (some (vl (-1))) M') (k3 : (0 ≤ s ∧ s ≤ 7) → (sm M s).2 (wk (sm M s).1 0 L) ≠ 1 → ∀ M', fr9 M M' → Q (some (vl (-3))) M') (k4 : (0 ≤ s ∧ s ≤ 7) → (sm M s).2 (wk (sm M s).1 0 L) = 1 → 20 < (L.length : Int) → ∀ M', fr9 M M' → Q (some (vl (-4))) M') (k1 : (0 ≤ s ∧ s ≤ 7) → (sm M s).2 (wk (sm M s).1 0 L) = 1 → (L.length : Int) ≤ 20 → ∀ M', fr9 M M' → Q (some (vl (rk (M 86 1).toNat (sm M s) L 0))) M') : am_CallN m9_rank [vr 86, vi s] KS M Q := by
  have hf0 : fr9 M (am_up M 86 0 0) := fr9.up (by unfold kp; omega)
  have hk := hd.1
  refine am_callN_of (by decide +kernel) rfl rfl (Nat.le_of_ble_eq_true rfl) ?_
  refine g9_rank_0 ?_
  refine c9_noSentence ?_
  by_cases hs : 0 ≤ s ∧ s ≤ 7
  · rw [if_pos hs]
    refine g9_rank_9 (fun _ => ?_) (fun c => by exfalso; omega)
    refine g9_rank_16 ?_
    have oA := hd.sok hs
    refine c9_isSo (hd.of hf0) hs (hRm.of hf0) (fun x hx => by have := hL x hx; omega) (by omega) ?_
    rw [hf0.ksm]
    have hwk := wk_rng oA L 0 (fun x hx => by have := hL x hx; omega) (by omega)
    have h01 : (sm M s).2 (wk (sm M s).1 0 L) = 0 ∨ (sm M s).2 (wk (sm M s).1 0 L) = 1 := hd.2.2.1 _ (by omega)
    have e31 : am_up M 86 0 0 86 31 = L.length := (hRm.of hf0).1
    refine g9_rank_21 (fun c => ?_) (fun c => ?_)
    · refine g9_rank_28 (fun c2 => ?_) (fun c2 => ?_)
      · rw [e31] at c2
        refine g9_rank_41 ?_
        rw [e31]
        refine c9_reckon (hd.of hf0) hs (by omega) (fun M1 hR hf1 => ?_)
        have hf := hf0.tr hf1
        have k1 := k1 hs (by omega) c2 M1 hf
        have e1 : M1 86 1 = M 86 1 := hf 86 1 (by unfold kp; omega)
        have esm : sm M1 = sm M := hf.ksm
        have hrm1 := hRm.of hf
        have h31 := hrm1.1
        refine g9_rank_50 ?_
        have key : ∀ (l2 l1 : List Int) (p t : Int), L = l1 ++ l2 → 0 ≤ p ∧ p < 6 → 0 ≤ t ∧ t ≤ l1.length * 4398046511104 → t + rk (M 86 1).toNat (sm M s) l2 p = rk (M 86 1).toNat (sm M s) L 0 → am_AtN m9_rank 58 [some (vr 86), some (vi s), some (vl t), none, some (vi p), some (vi (l1.length : Int)), none] [] KS M1 Q := by
          intro l2
          induction l2 with
          | nil =>
            intro l1 p t e hp ht hr
            have el : (L.length : Int) = l1.length := by rw [e]; simp
            refine g9_rank_58 (fun _ => ?_) (fun c => by exfalso; omega)
            refine g9_rank_156 ?_
            rw [show t = rk (M 86 1).toNat (sm M s) L 0 by rw [← hr]; show t = t + 0; omega]
            exact k1
          | cons x l2 ih =>
            intro l1 p t e hp ht hr
            have el : (L.length : Int) = l1.length + (l2.length + 1) := by rw [e]; simp
            have hx := hL x (by rw [e]; simp)
            have hg : M1 109 (l1.length : Int) = x := by
              rw [hrm1.2 l1.length (by omega), e]
              simp [List.getD]
            have e87 : ∀ x : Int, M1 87 (24 * s + 4 * p + x) = (sm M s).1 p x := fun x => by rw [← esm]; rfl
            refine g9_rank_58 (fun c => by exfalso; omega) (fun _ => ?_)
            refine g9_rank_67 ?_
            refine am_forR (fun y ls M' => ls = [some (vr 86), some (vi s), some (vl (t + su (fun y => ws (M 86 1).toNat (sm M s) l2.length ((sm M s).1 p y)) y.toNat)), none, some (vi p), some (vi (l1.length : Int)), some (vi y)] ∧ M' = M1) 0 x (by omega) ⟨?_, rfl⟩ ?_ ?_
            · show _ = [some (vr 86), some (vi s), some (vl (t + 0)), none, some (vi p), some (vi (l1.length : Int)), some (vi 0)]
              rw [show t + 0 = t by omega]
            · rintro ls M' ⟨rfl, rfl⟩
              have e3 := e87 x
              refine g9_rank_70 (by omega) (by omega) (fun _ => ?_) (fun c => by exfalso; omega)
              refine g9_rank_126 (by omega) (by omega) (by omega) (by omega) (by omega) (by omega) (by omega) (by omega) (by omega) ?_
              rw [hg, e3]
              have b2 := su_rng (f := fun y => ws (M 86 1).toNat (sm M s) l2.length ((sm M s).1 p y)) (B := 1099511627776) x.toNat (fun y h0 h1 => ws_b (by omega) oA (by omega) (oA p y hp (by omega)))
              have := ih (l1 ++ [x]) ((sm M s).1 p x) (t + su (fun y => ws (M 86 1).toNat (sm M s) l2.length ((sm M s).1 p y)) x.toNat) (by rw [e]; simp) (oA p x hp (by omega)) (by simp; omega) (by rw [← hr, rk]; omega)
              rw [show ((l1 ++ [x]).length : Int) = l1.length + 1 by simp] at this
              exact this
            · rintro y ls M' h0 h1 ⟨rfl, rfl⟩ ihy
              have e3 := e87 y
              have hy := oA p y hp (by omega)
              have b1 := ws_b (k := (M 86 1).toNat) (by omega) oA (n := l2.length) (by omega) hy
              have b2 := su_rng (f := fun y => ws (M 86 1).toNat (sm M s) l2.length ((sm M s).1 p y)) (B := 1099511627776) y.toNat (fun y h0 h1 => ws_b (by omega) oA (by omega) (oA p y hp (by omega)))
              have hw := hR l2.length (by omega) _ hy
              rw [e1, esm] at hw
              have e5 : 6 * (M' 86 31 - 1 - (l1.length : Int)) = 6 * (l2.length : Int) := by omega
              refine g9_rank_70 (by omega) (by omega) (fun c => by exfalso; omega) (fun _ => ?_)
              refine g9_rank_82 (by omega) (by omega) (by omega) (by omega) (by omega) (by omega) (by omega) (by omega) (by omega) (by omega) (by omega) (by omega) (by rw [e3, e5, hw]; omega) (by omega) ?_
              refine ihy _ _ ⟨?_, rfl⟩
              rw [e3, e5, hw, show (y + 1).toNat = y.toNat + 1 by omega]
              show _ = [some (vr 86), some (vi s), some (vl (t + (su _ y.toNat + ws (M 86 1).toNat (sm M s) l2.length ((sm M s).1 p (y.toNat : Int))))), none, some (vi p), some (vi (l1.length : Int)), some (vi (y + 1))]
              rw [show ((y.toNat : Nat) : Int) = y by omega, ← Int.add_assoc]
        exact key L [] 0 0 rfl (by omega) (by simp) (by omega)
      · rw [e31] at c2
        exact g9_rank_37 (k4 hs (by omega) (by omega) _ hf0)
    · exact g9_rank_24 (k3 hs (by omega) _ hf0)
  · rw [if_neg hs]
    refine g9_rank_9 (fun c => by exfalso; omega) (fun _ => ?_)
    exact g9_rank_12 (k0 hs _ hf0)
