/-! ===== ties: sentences that are made ===== -/
def fz (M M' : am_M) : Prop := ∀ b j : Int, 86 ≤ b → M' b j = M b j
theorem fz.gsm {M M' : am_M} (h : fz M M') : sm M' = sm M := by
  funext a
  unfold sm
  refine Prod.ext ?_ ?_
  · funext p x
    exact h 87 _ (by omega)
  · funext p
    exact h 88 _ (by omega)
theorem fz.gpm {M M' : am_M} (h : fz M M') : pm M' = pm M := by
  funext a
  unfold pm
  refine Prod.ext ?_ (Prod.ext ?_ ?_)
  · funext p x
    exact h 92 _ (by omega)
  · funext p x
    exact h 93 _ (by omega)
  · funext p
    exact h 94 _ (by omega)
theorem mdat.ofz {M M' : am_M} (h : mdat M) (hf : fz M M') : mdat M' := by
  have e1 : M' 86 1 = M 86 1 := hf 86 1 (by omega)
  refine ⟨by rw [e1]; exact h.1, fun j hj => ?_, fun j hj => ?_, fun j hj => ?_, fun p s x hp hs hx => ?_, fun j hj => ?_⟩
  · rw [hf 87 j (by omega)]
    exact h.2.1 j hj
  · rw [hf 88 j (by omega)]
    exact h.2.2.1 j hj
  · rw [hf 92 j (by omega)]
    exact h.2.2.2.1 j hj
  · rw [e1] at hx ⊢
    rw [hf 93 _ (by omega)]
    exact h.2.2.2.2.1 p s x hp hs hx
  · rw [e1, hf 94 j (by omega)]
    exact h.2.2.2.2.2 j hj
theorem bo_ok {k : Int} {A B : Sn} (hk : 2 ≤ k ∧ k ≤ 4) (oA : okS A) (oB : okS B) (hl : ((bq k A B).length : Int) ≤ 6) : (∀ p x : Int, 0 ≤ p ∧ p < 6 → 0 ≤ x ∧ x < 4 → 0 ≤ (bo k A B).1 p x ∧ (bo k A B).1 p x < 6) ∧ ∀ p : Int, 0 ≤ p ∧ p < 6 → (bo k A B).2 p = 0 ∨ (bo k A B).2 p = 1 := by
  have hB := bok_bf (NS := ((36 : Nat) : Int)) (sc := ap A B) (k := k.toNat) (by omega) (by omega) (fun p x h0 h1 h2 h3 => ap_rng oA oB ⟨h0, h1⟩ ⟨h2, by omega⟩)
  refine ⟨fun p x hp hx => ?_, fun p hp => ?_⟩
  · show 0 ≤ (if p < (bq k A B).length ∧ x < k then bn A B (bq k A B) p x else 0) ∧ (if p < (bq k A B).length ∧ x < k then bn A B (bq k A B) p x else 0) < 6
    by_cases h : p < (bq k A B).length ∧ x < k
    · rw [if_pos h]
      have hlt : p.toNat < (bq k A B).length := by omega
      obtain ⟨e, he⟩ : ∃ e, (bq k A B)[p.toNat]? = some e := ⟨_, List.getElem?_eq_getElem hlt⟩
      have hne := bf_closed (sc := ap A B) (k := k.toNat) (by omega) hB 36 p.toNat e (by omega) he x hx.1 (by omega)
      have hg : ((bq k A B).getD p.toNat (0, 0)).1 = e.1 := by simp [List.getD, he]
      unfold bn nbr
      rw [hg]
      have hne2 : hw (bq k A B) (ap A B e.1 x) ≠ -2 := hne
      rw [if_neg hne2]
      have h1 := ix_lt hne2
      have h2 := ix_rng (p := ap A B e.1 x) (q := bq k A B)
      omega
    · rw [if_neg h]
      omega
  · show (if p < (bq k A B).length then bh A B (bq k A B) p else 1) = 0 ∨ (if p < (bq k A B).length then bh A B (bq k A B) p else 1) = 1
    split
    · exact bh01 A B _ p
    · exact Or.inr rfl
theorem mk_bo {kind a k : Int} {D Z : Sn} (hk : 2 ≤ k ∧ k ≤ 4) (hv : kval kind a k) (hD : ∀ p x : Int, 0 ≤ p ∧ p < 6 → 0 ≤ x ∧ x < k → D.1 p x = kn kind a p x k) (hDh : ∀ p : Int, 0 ≤ p ∧ p < 6 → D.2 p = kh kind p k) (hZ : ∀ x : Int, 0 ≤ x ∧ x < k → Z.1 0 x = 0) (hZh : Z.2 0 = 1) :
    (bq k D Z).length = (mq kind a k).length ∧ (∀ p x : Int, 0 ≤ p ∧ p < 6 → 0 ≤ x ∧ x < 4 → (bo k D Z).1 p x = (mk_ kind a k).1 p x) ∧ ∀ p : Int, 0 ≤ p ∧ p < 6 → (bo k D Z).2 p = (mk_ kind a k).2 p := by
  have hm := mn_mp hk hv hD hZ
  obtain ⟨h1, h2⟩ := bf_map hm (by omega) 36
  have hq : bq k D Z = (mq kind a k).map (ps (fun n => th kind k n * 6)) := h1
  have hal : alS (vn kind a k) (mq kind a k) := h2
  have hlen : (bq k D Z).length = (mq kind a k).length := by rw [hq, List.length_map]
  have hget : ∀ p : Int, 0 ≤ p → p < (mq kind a k).length → ∃ e ∈ mq kind a k, ((mq kind a k).getD p.toNat (0, 0)).1 = e.1 ∧ ((bq k D Z).getD p.toNat (0, 0)).1 = th kind k e.1 * 6 := by
    intro p h0 h1
    have hlt : p.toNat < (mq kind a k).length := by omega
    obtain ⟨e, he⟩ : ∃ e, (mq kind a k)[p.toNat]? = some e := ⟨_, List.getElem?_eq_getElem hlt⟩
    refine ⟨e, List.mem_of_getElem? he, by simp [List.getD, he], ?_⟩
    rw [hq]
    simp [List.getD, List.getElem?_map, he, ps]
  refine ⟨hlen, fun p x hp hx => ?_, fun p hp => ?_⟩
  · show (if p < (bq k D Z).length ∧ x < k then bn D Z (bq k D Z) p x else 0) = if p < (mq kind a k).length ∧ x < k then nbr (mq kind a k) (mn kind a ((mq kind a k).getD p.toNat (0, 0)).1 x) else 0
    rw [hlen]
    by_cases h : p < (mq kind a k).length ∧ x < k
    · rw [if_pos h, if_pos h]
      obtain ⟨e, he, e1, e2⟩ := hget p hp.1 h.1
      have hS := (hal.2 e he).1
      unfold bn
      rw [e1, e2]
      have h3 := hm.2.2.2.2.2.2 e.1 x hS hx.1 (by omega)
      have h4 := hm.2.2.2.2.1 e.1 x hS hx.1 (by omega)
      have h5 : ap D Z (th kind k e.1 * 6) x = th kind k (mn kind a e.1 x) * 6 := h3
      rw [h5, hq]
      exact nbr_map hm h4 hal
    · rw [if_neg h, if_neg h]
  · show (if p < (bq k D Z).length then bh D Z (bq k D Z) p else 1) = if p < (mq kind a k).length then mh kind ((mq kind a k).getD p.toNat (0, 0)).1 else 1
    rw [hlen]
    by_cases h : p < (mq kind a k).length
    · rw [if_pos h, if_pos h]
      obtain ⟨e, he, e1, e2⟩ := hget p hp.1 h
      have hS := (hal.2 e he).1
      have hr := vn_rng hk hv hS
      unfold bh
      rw [e1, e2, show th kind k e.1 * 6 / 6 = th kind k e.1 by omega, show th kind k e.1 * 6 % 6 = 0 by omega, hDh _ hr.2, vn_h hk hv hS, hZh, if_pos rfl]
      rcases mh01 kind e.1 with h6 | h6
      · rw [h6, if_neg (by omega)]
      · rw [h6, if_pos rfl]
    · rw [if_neg h, if_neg h]
theorem kn_rng {kind a k p x : Int} (hk : 2 ≤ k ∧ k ≤ 4) (hv : kval kind a k) (hp : 0 ≤ p ∧ p < 6) (hx : 0 ≤ x ∧ x < k) : 0 ≤ kn kind a p x k ∧ kn kind a p x k < 6 := by
  unfold kval at hv
  unfold kn
  (repeat' split) <;> omega
/-! ===== the calls, two by two ===== -/
section
variable {S : Int → Int} {M : am_M}
theorem e_point (hI : Inv S M) {s p x t : Int} : am_CallN m8_point [vr 0, vi s, vi p, vi x, vi t] KS M (fun r M1 => EQ m9_point [vr 86, vi s, vi p, vi x, vi t] S r M1 ∧ am_sh m8_point r) := by
  have hk := hI.1.1
  have hk0 : M 0 0 = M 86 1 := hI.2.1.1
  have bad : ¬ ((0 ≤ s ∧ s ≤ 7) ∧ (0 ≤ p ∧ p ≤ 5) ∧ (0 ≤ x ∧ x < M 86 1) ∧ (0 ≤ t ∧ t ≤ 5)) → EQ m9_point [vr 86, vi s, vi p, vi x, vi t] S (some (vi (-1))) M := fun h => c9_point hk (fun h' => absurd h' h) (fun _ => ⟨rfl, hI.of (fr9.up (by unfold kp; omega)).x⟩)
  refine am_callN_sh (by decide +kernel) rfl rfl (Nat.le_of_ble_eq_true rfl) ?_
  refine g8_point_0 ?_
  refine c8_sentenceOf (fun hs => ?_) (fun hs => ?_)
  · obtain ⟨k1, k2, k3, -⟩ := kdS hs
    refine g8_point_5 (fun c => by exfalso; omega) (fun _ => ?_)
    refine g8_point_12 ?_
    by_cases hp : 0 ≤ p ∧ p < 6
    · refine c8_in hp ?_
      refine g8_point_18 (fun c => by exfalso; omega) (fun _ => ?_)
      refine g8_point_21 ?_
      by_cases hx : 0 ≤ x ∧ x < M 0 0
      · refine c8_in hx ?_
        refine g8_point_29 (fun _ => ?_) (fun c => by exfalso; omega)
        refine g8_point_34 ?_
        by_cases ht : 0 ≤ t ∧ t < 6
        · refine c8_in ht ?_
          refine g8_point_41 (fun _ => ?_) (fun c => by exfalso; omega)
          refine g8_point_46 k1 ?_
          refine q6_nextOf (hI.s hs).s hp (by omega) ?_
          refine g8_point_53 k1 ?_
          refine c6_lead k1 k2 k3 hp (by omega) ?_
          refine g8_point_64 ?_
          have ez : ∀ b j : Int, b ≠ 4 + 3 * s → am_up M (4 + 3 * s) (p * 4 + x) t b j = M b j := fun b j hb => am_upn (Or.inl hb)
          refine c9_point (by rw [ez 86 1 (by omega)]; exact hk) (fun _ => ⟨?_, ?_⟩) (fun h => absurd ⟨hs, by omega, by rw [ez 86 1 (by omega)]; omega, by omega⟩ h)
          · rw [ez 87 _ (by omega)]
            rfl
          · have e87 : ∀ p' x' : Int, 0 ≤ p' ∧ p' < 6 → 0 ≤ x' ∧ x' < 4 → am_up (am_up (am_up M (4 + 3 * s) (p * 4 + x) t) 86 0 0) 87 (24 * s + 4 * p + x) t 87 (24 * s + 4 * p' + x') = if p' = p ∧ x' = x then t else M 87 (24 * s + 4 * p' + x') := by
              intro p' x' hp' hx'
              by_cases e : p' = p ∧ x' = x
              · rw [if_pos e, e.1, e.2, am_up_hit]
              · rw [if_neg e, am_upn (Or.inr (by omega)), am_upn (Or.inl (by omega)), ez 87 _ (by omega)]
            refine Inv_sent (s := s) (N := fun p' x' => if p' = p ∧ x' = x then t else M 87 (24 * s + 4 * p' + x')) (H := fun p' => M 88 (6 * s + p')) hI hs (fun p' x' hp' hx' => ?_) (fun p' hp' => hI.1.2.2.1 _ (by omega)) (fun p' x' hp' hx' => ?_) (fun p' hp' => ?_) e87 (fun p' hp' => ?_) (fun j hj => ?_) (fun b j hq h1 h2 h3 h4 h5 => ?_)
            · show 0 ≤ (if p' = p ∧ x' = x then t else M 87 (24 * s + 4 * p' + x')) ∧ (if p' = p ∧ x' = x then t else M 87 (24 * s + 4 * p' + x')) < 6
              split
              · omega
              · exact hI.1.2.1 _ (by omega)
            · show _ = if p' = p ∧ x' = x then t else M 87 (24 * s + 4 * p' + x')
              rw [am_upn (Or.inl (by omega)), am_upn (Or.inl (by omega))]
              by_cases e : p' = p ∧ x' = x
              · rw [if_pos e, e.1, e.2, am_up_hit]
              · rw [if_neg e, am_upn (Or.inr (by omega))]
                exact hI.2.1.2.1 s p' x' hs hp' hx'
            · rw [am_upn (Or.inl (by omega)), am_upn (Or.inl (by omega)), am_upn (Or.inl (by omega))]
              exact hI.2.1.2.2.1 s p' hs hp'
            · rw [am_upn (Or.inl (by omega)), am_upn (Or.inl (by omega)), am_upn (Or.inl (by omega))]
            · rw [am_upn (Or.inl (by omega)), am_upn (Or.inl (by omega)), am_upn (Or.inl (by omega))]
              exact hI.2.2.2.2.2.1 j hj
            · rw [am_upn (by omega), am_upn (by unfold kq kp at hq; omega), am_upn (Or.inl h2)]
        · refine c8_out (by omega) ?_
          refine g8_point_41 (fun c => by exfalso; omega) (fun _ => ?_)
          exact g8_point_44 (bad (fun h => by omega))
      · refine c8_out (by omega) ?_
        refine g8_point_29 (fun c => by exfalso; omega) (fun _ => ?_)
        exact g8_point_32 (bad (fun h => by omega))
    · refine c8_out (by omega) ?_
      refine g8_point_18 (fun _ => ?_) (fun c => by exfalso; omega)
      exact g8_point_32 (bad (fun h => by omega))
  · refine g8_point_5 (fun _ => ?_) (fun c => absurd rfl c)
    exact g8_point_32 (bad (fun h => hs h.1))
theorem e_holds (hI : Inv S M) {s p v : Int} (hv : v = 0 ∨ v = 1) : am_CallN m8_holds [vr 0, vi s, vi p, vi v] KS M (fun r M1 => EQ m9_holds [vr 86, vi s, vi p, vi v] S r M1 ∧ am_sh m8_holds r) := by
  have hH := hI.1.2.2.1
  have bad : ¬ ((0 ≤ s ∧ s ≤ 7) ∧ (0 ≤ p ∧ p ≤ 5)) → EQ m9_holds [vr 86, vi s, vi p, vi v] S (some (vi (-1))) M := fun h => c9_holds hH hv (fun h' => absurd h' h) (fun _ => ⟨rfl, hI.of (fr9.up (by unfold kp; omega)).x⟩)
  refine am_callN_sh (by decide +kernel) rfl rfl (Nat.le_of_ble_eq_true rfl) ?_
  refine g8_holds_0 ?_
  refine c8_sentenceOf (fun hs => ?_) (fun hs => ?_)
  · obtain ⟨k1, k2, k3, -⟩ := kdS hs
    refine g8_holds_5 (fun c => by exfalso; omega) (fun _ => ?_)
    refine g8_holds_12 ?_
    by_cases hp : 0 ≤ p ∧ p < 6
    · have h01 := hH (6 * s + p) (by omega)
      refine c8_in hp ?_
      refine g8_holds_18 (fun _ => ?_) (fun c => by exfalso; omega)
      refine g8_holds_23 k1 ?_
      refine q6_holdsAt (hI.s hs).s hp ?_
      have ev : (if (sm M s).2 p = 1 then (1 : Int) else 0) = M 88 (6 * s + p) := by
        show (if M 88 (6 * s + p) = 1 then (1 : Int) else 0) = _
        split <;> omega
      rw [ev]
      refine g8_holds_29 ?_
      refine c8_oneIf h01 ?_
      refine g8_holds_32 k1 ?_
      refine c6_hold k1 k2 k3 hp hv ?_
      refine g8_holds_41 ?_
      have ez : ∀ b j : Int, b ≠ 5 + 3 * s → am_up M (5 + 3 * s) p v b j = M b j := fun b j hb => am_upn (Or.inl hb)
      refine c9_holds (fun j hj => by rw [ez 88 j (by omega)]; exact hH j hj) hv (fun _ => ⟨?_, ?_⟩) (fun h => absurd ⟨hs, by omega⟩ h)
      · rw [ez 88 _ (by omega)]
      · have e88 : ∀ p' : Int, 0 ≤ p' ∧ p' < 6 → am_up (am_up (am_up M (5 + 3 * s) p v) 86 0 0) 88 (6 * s + p) v 88 (6 * s + p') = if p' = p then v else M 88 (6 * s + p') := by
          intro p' hp'
          by_cases e : p' = p
          · rw [if_pos e, e, am_up_hit]
          · rw [if_neg e, am_upn (Or.inr (by omega)), am_upn (Or.inl (by omega)), ez 88 _ (by omega)]
        refine Inv_sent (s := s) (N := fun p' x' => M 87 (24 * s + 4 * p' + x')) (H := fun p' => if p' = p then v else M 88 (6 * s + p')) hI hs (fun p' x' hp' hx' => hI.1.2.1 _ (by omega)) (fun p' hp' => ?_) (fun p' x' hp' hx' => ?_) (fun p' hp' => ?_) (fun p' x' hp' hx' => ?_) e88 (fun j hj => ?_) (fun b j hq h1 h2 h3 h4 h5 => ?_)
        · show (if p' = p then v else M 88 (6 * s + p')) = 0 ∨ (if p' = p then v else M 88 (6 * s + p')) = 1
          split
          · exact hv
          · exact hH _ (by omega)
        · rw [am_upn (Or.inl (by omega)), am_upn (Or.inl (by omega)), am_upn (Or.inl (by omega))]
          exact hI.2.1.2.1 s p' x' hs hp' hx'
        · show _ = if p' = p then v else M 88 (6 * s + p')
          rw [am_upn (Or.inl (by omega)), am_upn (Or.inl (by omega))]
          by_cases e : p' = p
          · rw [if_pos e, e, am_up_hit]
          · rw [if_neg e, am_upn (Or.inr e)]
            exact hI.2.1.2.2.1 s p' hs hp'
        · rw [am_upn (Or.inl (by omega)), am_upn (Or.inl (by omega)), am_upn (Or.inl (by omega))]
        · rw [am_upn (Or.inl (by omega)), am_upn (Or.inl (by omega)), am_upn (Or.inl (by omega))]
          exact hI.2.2.2.2.2.1 j hj
        · rw [am_upn (by omega), am_upn (by unfold kq kp at hq; omega), am_upn (Or.inl h3)]
    · refine c8_out (by omega) ?_
      refine g8_holds_18 (fun c => by exfalso; omega) (fun _ => ?_)
      exact g8_holds_21 (bad (fun h => by omega))
  · refine g8_holds_5 (fun _ => ?_) (fun c => absurd rfl c)
    exact g8_holds_21 (bad (fun h => hs h.1))
theorem e_about (hI : Inv S M) {s p x : Int} : am_CallN m8_about [vr 0, vi s, vi p, vi x] KS M (fun r M1 => EQ m9_about [vr 86, vi s, vi p, vi x] S r M1 ∧ am_sh m8_about r) := by
  have hk := hI.1.1
  have hH := hI.1.2.2.1
  have hk0 : M 0 0 = M 86 1 := hI.2.1.1
  have hI2 : Inv S (am_up M 86 0 0) := hI.of (fr9.up (by unfold kp; omega)).x
  have bad : ¬ ((0 ≤ s ∧ s ≤ 7) ∧ (0 ≤ p ∧ p ≤ 5) ∧ (0 ≤ x ∧ x ≤ M 86 1)) → EQ m9_about [vr 86, vi s, vi p, vi x] S (some (vi (-1))) M := fun h => c9_about hk hH (fun h' => absurd h' h) (fun _ => ⟨rfl, hI2⟩)
  refine am_callN_sh (by decide +kernel) rfl rfl (Nat.le_of_ble_eq_true rfl) ?_
  refine g8_about_0 ?_
  refine c8_sentenceOf (fun hs => ?_) (fun hs => ?_)
  · obtain ⟨k1, k2, k3, -⟩ := kdS hs
    refine g8_about_5 (fun c => by exfalso; omega) (fun _ => ?_)
    refine g8_about_12 ?_
    by_cases hp : 0 ≤ p ∧ p < 6
    · have h01 := hH (6 * s + p) (by omega)
      refine c8_in hp ?_
      refine g8_about_18 (fun _ => ?_) (fun c => by exfalso; omega)
      refine g8_about_23 (fun c => ?_) (fun c => ?_)
      · refine g8_about_41 ?_
        by_cases hx : 0 ≤ x ∧ x < M 0 0
        · refine c8_in hx ?_
          refine g8_about_49 (fun c => by exfalso; omega) (fun _ => ?_)
          refine g8_about_52 k1 ?_
          refine q6_nextOf (hI.s hs).s hp (by omega) ?_
          refine g8_about_59 (g8_about_63 ?_)
          refine c9_about hk hH (fun _ => ⟨?_, hI2⟩) (fun h => absurd ⟨hs, by omega, by omega⟩ h)
          rw [if_neg (by omega)]
          rfl
        · refine c8_out hx ?_
          refine g8_about_49 (fun _ => ?_) (fun c => by exfalso; omega)
          exact g8_about_62 (g8_about_63 (bad (fun h => by omega)))
      · refine g8_about_31 k1 ?_
        refine q6_holdsAt (hI.s hs).s hp ?_
        have ev : (if (sm M s).2 p = 1 then (1 : Int) else 0) = M 88 (6 * s + p) := by
          show (if M 88 (6 * s + p) = 1 then (1 : Int) else 0) = _
          split <;> omega
        rw [ev]
        refine g8_about_37 ?_
        refine c8_oneIf h01 ?_
        refine g8_about_40 ?_
        refine c9_about hk hH (fun _ => ⟨?_, hI2⟩) (fun h => absurd ⟨hs, by omega, by omega⟩ h)
        rw [if_pos (by omega)]
    · refine c8_out (by omega) ?_
      refine g8_about_18 (fun c => by exfalso; omega) (fun _ => ?_)
      exact g8_about_21 (bad (fun h => by omega))
  · refine g8_about_5 (fun _ => ?_) (fun c => absurd rfl c)
    exact g8_about_21 (bad (fun h => hs h.1))
end
