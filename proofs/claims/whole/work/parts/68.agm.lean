/-! ===== programs that agree: the reference, its pieces ===== -/
def gm (M : am_M) (s p q : Int) : Gd := (sm M s, pm M p, pm M q, M 86 1)
theorem gm_of {M M' : am_M} (h : fr9 M M') (s p q : Int) : gm M' s p q = gm M s p q := by
  unfold gm
  rw [h.ksm, h.kpm, h 86 1 (by unfold kp; omega)]
theorem gm_ok {M : am_M} (h : mdat M) {s p q : Int} (hs : 0 ≤ s ∧ s ≤ 7) (hp : 0 ≤ p ∧ p ≤ 3) (hq : 0 ≤ q ∧ q ≤ 3) : okG (gm M s p q) := ⟨h.1, h.sok hs, h.pok hp, h.pok hq⟩
section
variable {M : am_M} {Q : Option am_V → am_M → Prop}
theorem c9_pair {s p q st x : Int} (hd : mdat M) (hs : 0 ≤ s ∧ s ≤ 7) (hp : 0 ≤ p ∧ p ≤ 3) (hq : 0 ≤ q ∧ q ≤ 3) (hst : 0 ≤ st ∧ st < 216) (hx : 0 ≤ x ∧ x < M 86 1) (k : Q (some (vi (gx (gm M s p q) st x))) M) : am_CallN m9_pair [vr 86, vi st, vi x, vi s, vi p, vi q] KS M Q := by
  have hk := hd.1
  have h1 := hd.2.1 (24 * s + 4 * (st / 36) + x) (by omega)
  have h2 := hd.2.2.2.1 (24 * p + 4 * (st / 6 % 6) + x) (by omega)
  have h3 := hd.2.2.2.1 (24 * q + 4 * (st % 6) + x) (by omega)
  refine am_callN_of (by decide +kernel) rfl rfl (Nat.le_of_ble_eq_true rfl) ?_
  exact g9_pair_0 (by omega) (by omega) (by omega) (by omega) (by omega) (by omega) (by omega) (by omega) (by omega) (by omega) (by omega) (by omega) (by omega) (by omega) (by omega) (by omega) (by omega) (by omega) (by omega) (by omega) (by omega) (by omega) (by omega) (by omega) (by omega) (by omega) k
theorem c9_writeBoth {s p q st : Int} (hd : mdat M) (hs : 0 ≤ s ∧ s ≤ 7) (hp : 0 ≤ p ∧ p ≤ 3) (hq : 0 ≤ q ∧ q ≤ 3) (hst : 0 ≤ st ∧ st < 216) (k1 : bw (gm M s p q) st → Q (some (vi 1)) M) (k0 : ¬ bw (gm M s p q) st → Q (some (vi 0)) M) : am_CallN m9_writeBoth [vr 86, vi st, vi s, vi p, vi q] KS M Q := by
  have h1 := hd.2.2.1 (6 * s + st / 36) (by omega)
  refine am_callN_of (by decide +kernel) rfl rfl (Nat.le_of_ble_eq_true rfl) ?_
  have no : ¬ bw (gm M s p q) st → am_AtN m9_writeBoth 61 [some (vr 86), some (vi st), some (vi s), some (vi p), some (vi q)] [] KS M Q := fun h => g9_writeBoth_61 (g9_writeBoth_62 (by omega) (k0 h))
  refine g9_writeBoth_0 (by omega) (by omega) (by omega) (by omega) (by omega) (fun c => no (fun h => ?_)) (fun c => ?_)
  · have h2 : M 88 (6 * s + st / 36) = 1 := h.1
    omega
  · refine g9_writeBoth_17 (by omega) (by omega) (by omega) (by omega) (by omega) (by omega) (fun c2 => no (fun h => h.2.1 c2)) (fun c2 => ?_)
    refine g9_writeBoth_38 (by omega) (by omega) (by omega) (by omega) (by omega) (fun c3 => no (fun h => h.2.2 c3)) (fun c3 => ?_)
    refine g9_writeBoth_57 (g9_writeBoth_62 (by omega) (k1 ⟨?_, c2, c3⟩))
    show M 88 (6 * s + st / 36) = 1
    omega
def rA (M : am_M) (L : List Int) : Prop := M 86 27 = L.length ∧ ∀ i : Nat, i < L.length → M 106 i = L.getD i 0
def rB (M : am_M) (L : List Int) : Prop := M 86 28 = L.length ∧ ∀ i : Nat, i < L.length → M 107 i = L.getD i 0
def fp (M M' : am_M) : Prop := ∀ b j : Int, b ≠ 106 → b ≠ 107 → (b ≠ 86 ∨ (j ≠ 27 ∧ j ≠ 28)) → M' b j = M b j
theorem fp.rf {M : am_M} : fp M M := fun _ _ _ _ _ => rfl
theorem fp.tr {M M' M'' : am_M} (h : fp M M') (h' : fp M' M'') : fp M M'' := fun b j h1 h2 h3 => (h' b j h1 h2 h3).trans (h b j h1 h2 h3)
theorem fp.r9 {M M' : am_M} (h : fp M M') : fr9 M M' := fun b j hk => h b j (by unfold kp at hk; omega) (by unfold kp at hk; omega) (by unfold kp at hk; omega)
def eA (M : am_M) (n v : Int) : am_M := am_up (am_up M 106 n v) 86 27 (n + 1)
def eB (M : am_M) (n v : Int) : am_M := am_up (am_up M 107 n v) 86 28 (n + 1)
theorem rA_add {L : List Int} {v : Int} (h : rA M L) : rA (eA M L.length v) (L ++ [v]) ∧ fp M (eA M L.length v) ∧ ∀ R, rB M R → rB (eA M L.length v) R := by
  unfold eA
  refine ⟨⟨by rw [am_up_hit]; simp, fun i hi => ?_⟩, fun b j h1 h2 h3 => ?_, fun R hR => ⟨?_, fun i hi => ?_⟩⟩
  · rw [am_upn (Or.inl (by omega))]
    by_cases e : i = L.length
    · subst e
      rw [am_up_hit]
      simp [List.getD]
    · have hi' : i < L.length := by simp at hi; omega
      rw [am_upn (Or.inr (by omega)), h.2 i hi']
      simp [List.getD, List.getElem?_append_left hi']
  · rw [am_upn (by omega), am_upn (Or.inl h1)]
  · rw [am_upn (Or.inr (by omega)), am_upn (Or.inl (by omega))]
    exact hR.1
  · rw [am_upn (Or.inl (by omega)), am_upn (Or.inl (by omega))]
    exact hR.2 i hi
theorem rB_add {L : List Int} {v : Int} (h : rB M L) : rB (eB M L.length v) (L ++ [v]) ∧ fp M (eB M L.length v) ∧ ∀ R, rA M R → rA (eB M L.length v) R := by
  unfold eB
  refine ⟨⟨by rw [am_up_hit]; simp, fun i hi => ?_⟩, fun b j h1 h2 h3 => ?_, fun R hR => ⟨?_, fun i hi => ?_⟩⟩
  · rw [am_upn (Or.inl (by omega))]
    by_cases e : i = L.length
    · subst e
      rw [am_up_hit]
      simp [List.getD]
    · have hi' : i < L.length := by simp at hi; omega
      rw [am_upn (Or.inr (by omega)), h.2 i hi']
      simp [List.getD, List.getElem?_append_left hi']
  · rw [am_upn (by omega), am_upn (Or.inl h2)]
  · rw [am_upn (Or.inr (by omega)), am_upn (Or.inl (by omega))]
    exact hR.1
  · rw [am_upn (Or.inl (by omega)), am_upn (Or.inl (by omega))]
    exact hR.2 i hi
def LM (M : am_M) (st : Int) (l : List Int × List Int) : Prop := M 103 st = (l.1 ++ l.2).length ∧ (l.1 = [] ∨ l.2 = []) ∧ (l.1 ++ l.2).length ≤ 432 ∧ ((l.1 ++ l.2) ≠ [] → M 104 st = if l.1 = [] then 0 else 1) ∧ ∀ i : Nat, i < (l.1 ++ l.2).length → M 102 (440 * st + i) = (l.1 ++ l.2).getD i 0
theorem LM.of {M M' : am_M} {st : Int} {l : List Int × List Int} (h : LM M st l) (h1 : M' 103 st = M 103 st) (h2 : M' 104 st = M 104 st) (h3 : ∀ i : Int, 0 ≤ i ∧ i < 440 → M' 102 (440 * st + i) = M 102 (440 * st + i)) : LM M' st l := ⟨by rw [h1]; exact h.1, h.2.1, h.2.2.1, fun h4 => by rw [h2]; exact h.2.2.2.1 h4, fun i hi => by rw [h3 i (by have := h.2.2.1; omega)]; exact h.2.2.2.2 i hi⟩
theorem LM.fp {M M' : am_M} {st : Int} {l : List Int × List Int} (h : LM M st l) (hf : fp M M') : LM M' st l := h.of (hf _ _ (by omega) (by omega) (Or.inl (by omega))) (hf _ _ (by omega) (by omega) (Or.inl (by omega))) (fun i _ => hf _ _ (by omega) (by omega) (Or.inl (by omega)))
theorem n9_putA {st wa wb i : Int} {L : List Int} (hw : 0 ≤ wa ∧ wa ≤ 20) (hi : 0 ≤ i ∧ i < wlen wa) (hi2 : i < 3) (hR : rA M L) (hl : L.length < 450) (k : ∀ M', rA M' (L ++ [wlet wa i]) → fp M M' → (∀ R, rB M R → rB M' R) → am_AtN m9_put 102 [some (vr 86), some (vi st), some (vi wa), some (vi wb), some (vi (i + 1)), none] [] KS M' Q) : am_AtN m9_put 102 [some (vr 86), some (vi st), some (vi wa), some (vi wb), some (vi i), none] [] KS M Q := by
  refine g9_put_102 ?_
  refine c9_longOf hw.1 ?_
  refine g9_put_108 (fun c => by exfalso; omega) (fun _ => ?_)
  refine g9_put_111 ?_
  refine c9_letterOf hw ?_
  have e0 := hR.1
  have e1 : am_up M 106 (M 86 27) (wlet wa i) 86 27 = L.length := by rw [am_upn (Or.inl (by omega)), e0]
  refine g9_put_125 kd106 (by omega) (by omega) (by rw [e1]; omega) (by omega) ?_
  rw [e1, e0]
  obtain ⟨h1, h2, h3⟩ := rA_add (v := wlet wa i) hR
  exact k _ h1 h2 h3
theorem z9_putA {st wa wb i : Int} (hw : 0 ≤ wa) (hi : wlen wa ≤ i) (k : am_AtN m9_put 145 [some (vr 86), some (vi st), some (vi wa), some (vi wb), some (vi 0), none] [] KS M Q) : am_AtN m9_put 102 [some (vr 86), some (vi st), some (vi wa), some (vi wb), some (vi i), none] [] KS M Q := by
  refine g9_put_102 ?_
  refine c9_longOf hw ?_
  refine g9_put_108 (fun _ => ?_) (fun c => by exfalso; omega)
  exact g9_put_142 k
theorem n9_putB {st wa wb i : Int} {L : List Int} (hw : 0 ≤ wb ∧ wb ≤ 20) (hi : 0 ≤ i ∧ i < wlen wb) (hi2 : i < 3) (hR : rB M L) (hl : L.length < 450) (k : ∀ M', rB M' (L ++ [wlet wb i]) → fp M M' → (∀ R, rA M R → rA M' R) → am_AtN m9_put 145 [some (vr 86), some (vi st), some (vi wa), some (vi wb), some (vi (i + 1)), none] [] KS M' Q) : am_AtN m9_put 145 [some (vr 86), some (vi st), some (vi wa), some (vi wb), some (vi i), none] [] KS M Q := by
  refine g9_put_145 ?_
  refine c9_longOf hw.1 ?_
  refine g9_put_151 (fun c => by exfalso; omega) (fun _ => ?_)
  refine g9_put_154 ?_
  refine c9_letterOf hw ?_
  have e0 := hR.1
  have e1 : am_up M 107 (M 86 28) (wlet wb i) 86 28 = L.length := by rw [am_upn (Or.inl (by omega)), e0]
  refine g9_put_168 kd107 (by omega) (by omega) (by rw [e1]; omega) (by omega) ?_
  rw [e1, e0]
  obtain ⟨h1, h2, h3⟩ := rB_add (v := wlet wb i) hR
  exact k _ h1 h2 h3
theorem z9_putB {st wa wb i : Int} (hw : 0 ≤ wb) (hi : wlen wb ≤ i) (k : Q none M) : am_AtN m9_put 145 [some (vr 86), some (vi st), some (vi wa), some (vi wb), some (vi i), none] [] KS M Q := by
  refine g9_put_145 ?_
  refine c9_longOf hw ?_
  refine g9_put_151 (fun _ => ?_) (fun c => by exfalso; omega)
  exact g9_put_185 k
theorem wl_eq {w : Int} : wl w = if w < 1 then [] else if w < 5 then [wlet w 0] else [wlet w 0, wlet w (0 + 1)] := by
  unfold wl wlet
  by_cases h1 : w < 1
  · rw [if_pos h1, if_pos h1]
  · rw [if_neg h1, if_neg h1]
    by_cases h5 : w < 5
    · rw [if_pos h5, if_pos h5, if_pos h5]
    · rw [if_neg h5, if_neg h5, if_neg h5, if_pos rfl, if_neg h5, if_neg (show ¬ (0 : Int) + 1 = 0 by omega)]
theorem y9_putB {st wa wb : Int} {L R : List Int} (hw : 0 ≤ wb ∧ wb ≤ 20) (hA : rA M R) (hB : rB M L) (hl : L.length ≤ 440) (k : ∀ M', rA M' R → rB M' (L ++ wl wb) → fp M M' → Q none M') : am_AtN m9_put 145 [some (vr 86), some (vi st), some (vi wa), some (vi wb), some (vi 0), none] [] KS M Q := by
  rw [wl_eq] at k
  by_cases h1 : wb < 1
  · have hl0 : wlen wb = 0 := by unfold wlen; rw [if_pos h1]
    rw [if_pos h1, List.append_nil] at k
    exact z9_putB hw.1 (by omega) (k M hA hB fp.rf)
  · rw [if_neg h1] at k
    by_cases h5 : wb < 5
    · have hl0 : wlen wb = 1 := by unfold wlen; rw [if_neg h1, if_pos h5]
      rw [if_pos h5] at k
      refine n9_putB hw (by omega) (by omega) hB (by omega) (fun M1 h2 h3 h4 => ?_)
      exact z9_putB hw.1 (by omega) (k M1 (h4 _ hA) h2 h3)
    · have hl0 : wlen wb = 2 := by unfold wlen; rw [if_neg h1, if_neg h5]
      rw [if_neg h5] at k
      refine n9_putB hw (by omega) (by omega) hB (by omega) (fun M1 h2 h3 h4 => ?_)
      refine n9_putB hw (by omega) (by omega) h2 (by simp; omega) (fun M2 h5 h6 h7 => ?_)
      rw [List.append_assoc] at h5
      exact z9_putB hw.1 (by omega) (k M2 (h7 _ (h4 _ hA)) h5 (h3.tr h6))
theorem y9_putA {st wa wb : Int} {L R : List Int} (hw : 0 ≤ wa ∧ wa ≤ 20) (hA : rA M L) (hB : rB M R) (hl : L.length ≤ 440) (k : ∀ M', rA M' (L ++ wl wa) → rB M' R → fp M M' → am_AtN m9_put 145 [some (vr 86), some (vi st), some (vi wa), some (vi wb), some (vi 0), none] [] KS M' Q) : am_AtN m9_put 102 [some (vr 86), some (vi st), some (vi wa), some (vi wb), some (vi 0), none] [] KS M Q := by
  rw [wl_eq] at k
  by_cases h1 : wa < 1
  · have hl0 : wlen wa = 0 := by unfold wlen; rw [if_pos h1]
    rw [if_pos h1, List.append_nil] at k
    exact z9_putA hw.1 (by omega) (k M hA hB fp.rf)
  · rw [if_neg h1] at k
    by_cases h5 : wa < 5
    · have hl0 : wlen wa = 1 := by unfold wlen; rw [if_neg h1, if_pos h5]
      rw [if_pos h5] at k
      refine n9_putA hw (by omega) (by omega) hA (by omega) (fun M1 h2 h3 h4 => ?_)
      exact z9_putA hw.1 (by omega) (k M1 h2 (h4 _ hB) h3)
    · have hl0 : wlen wa = 2 := by unfold wlen; rw [if_neg h1, if_neg h5]
      rw [if_neg h5] at k
      refine n9_putA hw (by omega) (by omega) hA (by omega) (fun M1 h2 h3 h4 => ?_)
      refine n9_putA hw (by omega) (by omega) h2 (by simp; omega) (fun M2 h5 h6 h7 => ?_)
      rw [List.append_assoc] at h5
      exact z9_putA hw.1 (by omega) (k M2 h5 (h7 _ (h4 _ hB)) (h3.tr h6))
theorem c9_put {st wa wb : Int} {l : List Int × List Int} (hs : 0 ≤ st ∧ st < 216) (hL : LM M st l) (ha : 0 ≤ wa ∧ wa ≤ 20) (hb : 0 ≤ wb ∧ wb ≤ 20) (k : ∀ M', rA M' (l.1 ++ wl wa) → rB M' (l.2 ++ wl wb) → fp M M' → Q none M') : am_CallN m9_put [vr 86, vi st, vi wa, vi wb] KS M Q := by
  have hlen := hL.2.2.1
  have hlen2 := hlen
  rw [List.length_append] at hlen2
  refine am_callN_of (by decide +kernel) rfl rfl (Nat.le_of_ble_eq_true rfl) ?_
  refine g9_put_0 ?_
  have hf0 : fp M (am_up (am_up M 86 27 0) 86 28 0) := fun b j h1 h2 h3 => by rw [am_upn (by omega), am_upn (by omega)]
  refine am_forR (fun i ls M' => ls = [some (vr 86), some (vi st), some (vi wa), some (vi wb), some (vi i), none] ∧ rA M' (l.1.take i.toNat) ∧ rB M' (l.2.take i.toNat) ∧ fp M M') 0 (l.1 ++ l.2).length (by omega) ⟨rfl, ?_, ?_, hf0⟩ ?_ ?_
  · exact ⟨by rw [am_upn (Or.inr (by omega)), am_up_hit]; simp, fun i hi => absurd hi (by simp)⟩
  · exact ⟨by rw [am_up_hit]; simp, fun i hi => absurd hi (by simp)⟩
  · rintro ls M' ⟨rfl, hA, hB, hf⟩
    have h3 := (hL.fp hf).1
    refine g9_put_13 hs.1 hs.2 (fun _ => ?_) (fun c => by exfalso; omega)
    refine g9_put_99 ?_
    rw [List.take_of_length_le (by rw [List.length_append]; omega)] at hA hB
    refine y9_putA ha hA hB (by omega) (fun M2 h4 h5 h6 => ?_)
    exact y9_putB hb h4 h5 (by omega) (fun M3 h7 h8 h9 => k M3 h7 h8 ((hf.tr h6).tr h9))
  · rintro i ls M' hi0 hi1 ⟨rfl, hA, hB, hf⟩ ih
    have hL' := hL.fp hf
    have h3 := hL'.1
    have hne : l.1 ++ l.2 ≠ [] := by
      intro he
      rw [he] at hi1
      simp at hi1
      omega
    have h4 := hL'.2.2.2.1 hne
    have h5 := hL'.2.2.2.2 i.toNat (by omega)
    rw [show ((i.toNat : Nat) : Int) = i by omega] at h5
    refine g9_put_13 hs.1 hs.2 (fun c => by exfalso; omega) (fun _ => ?_)
    refine g9_put_24 (by omega) (by omega) (by omega) (by omega) hs.1 hs.2 (fun c => ?_) (fun c => ?_)
    · have hl1 : l.1 = [] := by
        by_cases e : l.1 = []
        · exact e
        · rw [if_neg e] at h4
          omega
      rw [hl1, List.nil_append] at h5 hi1
      rw [h5]
      have e0 := hB.1
      rw [List.length_take] at e0
      have e1 : am_up M' 107 (M' 86 28) (l.2.getD i.toNat 0) 86 28 = M' 86 28 := am_upn (Or.inl (by omega))
      refine g9_put_72 (by omega) (by omega) (by rw [e1]; omega) ?_
      rw [e1]
      obtain ⟨h6, h7, h8⟩ := rB_add (v := l.2.getD i.toNat 0) hB
      have e2 : ((l.2.take i.toNat).length : Int) = M' 86 28 := by rw [List.length_take]; omega
      rw [e2] at h6 h7 h8
      refine g9_put_93 (by omega) ?_
      refine ih _ _ ⟨rfl, ?_, ?_, hf.tr h7⟩
      · rw [hl1] at hA ⊢
        rw [List.take_nil] at hA ⊢
        exact h8 _ hA
      · rw [take_s hi0 hi1]
        exact h6
    · have hl1 : ¬ l.1 = [] := by
        intro e
        rw [if_pos e] at h4
        omega
      have hl2 : l.2 = [] := by
        rcases hL.2.1 with h | h
        · exact absurd h hl1
        · exact h
      rw [hl2, List.append_nil] at h5 hi1
      rw [h5]
      have e0 := hA.1
      rw [List.length_take] at e0
      have e1 : am_up M' 106 (M' 86 27) (l.1.getD i.toNat 0) 86 27 = M' 86 27 := am_upn (Or.inl (by omega))
      refine g9_put_48 (by omega) (by omega) (by rw [e1]; omega) ?_
      rw [e1]
      obtain ⟨h6, h7, h8⟩ := rA_add (v := l.1.getD i.toNat 0) hA
      have e2 : ((l.1.take i.toNat).length : Int) = M' 86 27 := by rw [List.length_take]; omega
      rw [e2] at h6 h7 h8
      refine g9_put_93 (by omega) ?_
      refine ih _ _ ⟨rfl, ?_, ?_, hf.tr h7⟩
      · rw [take_s hi0 hi1]
        exact h6
      · rw [hl2] at hB ⊢
        rw [List.take_nil] at hB ⊢
        exact h8 _ hB
theorem c9_begins {A B : List Int} (hA : rA M A) (hB : rB M B) (hAl : A.length ≤ 450) (hBl : B.length ≤ 450) (k1 : lk_ A B → Q (some (vi 1)) M) (k0 : ¬ lk_ A B → Q (some (vi 0)) M) : am_CallN m9_begins [vr 86] KS M Q := by
  have hm : ∃ m : Nat, m = min A.length B.length := ⟨_, rfl⟩
  obtain ⟨m, hm⟩ := hm
  have a0 := hA.1
  have b0 := hB.1
  refine am_callN_of (by decide +kernel) rfl rfl (Nat.le_of_ble_eq_true rfl) ?_
  refine g9_begins_0 ?_
  refine am_forR (fun i ls M' => M' = M ∧ ∃ f : Int, ls = [some (vr 86), some (vi f), some (vi i)] ∧ (f = 0 ∨ f = 1) ∧ (f = 1 ↔ ∀ j : Nat, (j : Int) < i → A.getD j 0 = B.getD j 0)) 0 m (by omega) ⟨rfl, 1, rfl, Or.inr rfl, ⟨fun _ j hj => by exfalso; omega, fun _ => rfl⟩⟩ ?_ ?_
  · rintro ls M' ⟨rfl, f, rfl, hf01, hf⟩
    have fin : am_AtN m9_begins 51 [some (vr 86), some (vi f), some (vi (m : Int))] [] KS M' Q := by
      refine g9_begins_51 hf01 ?_
      by_cases e : f = 1
      · rw [e]
        exact k1 (fun j h1 h2 => hf.mp e j (by omega))
      · have e0 : f = 0 := by omega
        rw [e0]
        exact k0 (fun h => e (hf.mpr (fun j hj => h j (by omega) (by omega))))
    refine g9_begins_4 (fun _ => fin) (fun c => ?_)
    exact g9_begins_12 (fun _ => fin) (fun c2 => by exfalso; omega)
  · rintro i ls M' hi0 hi1 ⟨rfl, f, rfl, hf01, hf⟩ ih
    have ha := hA.2 i.toNat (by omega)
    have hb := hB.2 i.toNat (by omega)
    rw [show ((i.toNat : Nat) : Int) = i by omega] at ha hb
    have next : ∀ f' : Int, (f' = 0 ∨ f' = 1) → (f' = 1 ↔ (f = 1 ∧ A.getD i.toNat 0 = B.getD i.toNat 0)) → am_AtN m9_begins 44 [some (vr 86), some (vi f), some (vi i)] [vi f'] KS M' Q := by
      intro f' h1 h2
      refine g9_begins_44 (by omega) ?_
      refine ih _ M' ⟨rfl, f', rfl, h1, ?_⟩
      rw [h2, hf]
      constructor
      · rintro ⟨h3, h4⟩ j hj
        by_cases e : (j : Int) = i
        · rw [show j = i.toNat by omega]
          exact h4
        · exact h3 j (by omega)
      · intro h3
        exact ⟨fun j hj => h3 j (by omega), h3 i.toNat (by omega)⟩
    refine g9_begins_4 (fun c => by exfalso; omega) (fun _ => ?_)
    refine g9_begins_12 (fun c => by exfalso; omega) (fun _ => ?_)
    refine g9_begins_20 (fun c => ?_) (fun c => ?_)
    · exact g9_begins_43 (next 0 (Or.inl rfl) ⟨fun h => by exfalso; omega, fun h => by exfalso; omega⟩)
    · refine g9_begins_24 (by omega) (by omega) (by omega) (by omega) (fun c2 => ?_) (fun c2 => ?_)
      · rw [ha, hb] at c2
        exact g9_begins_43 (next 0 (Or.inl rfl) ⟨fun h => by exfalso; omega, fun h => absurd h.2 c2⟩)
      · rw [ha, hb] at c2
        exact g9_begins_39 (next 1 (Or.inr rfl) ⟨fun _ => ⟨by omega, c2⟩, fun _ => rfl⟩)
end
