/-! ===== programs that agree: the class, leads ===== -/
theorem getD_drop (R : List Int) (f i : Nat) : (R.drop f).getD i 0 = R.getD (f + i) 0 := by
  simp [List.getD, List.getElem?_drop]
theorem ld_same {l m : List Int × List Int} (hl : l.1 = [] ∨ l.2 = []) (hm : m.1 = [] ∨ m.2 = []) (hd : (l.1.length : Int) - l.2.length = (m.1.length : Int) - m.2.length) (he : l.1 ++ l.2 = m.1 ++ m.2) : l = m := by
  obtain ⟨a, b⟩ := l
  obtain ⟨c, d⟩ := m
  simp only at hl hm hd he
  rcases hl with rfl | rfl
  · rcases hm with rfl | rfl
    · simp at he
      rw [he]
    · simp at he hd
      have h1 : b = [] := List.eq_nil_of_length_eq_zero (by omega)
      subst h1
      rw [← he]
  · rcases hm with rfl | rfl
    · simp at he hd
      have h1 : a = [] := List.eq_nil_of_length_eq_zero (by omega)
      subst h1
      rw [← he]
    · simp at he
      rw [he]
theorem off2.f80 {M M' : am_M} (h : off2 M M' 80 81) : fF M M' := fun b j h1 _ h3 _ => h b j h3 h1
theorem off2.f82 {M M' : am_M} (h : off2 M M' 82 83) : fF M M' := fun b j _ h2 _ h4 => h b j h4 h2
section
variable {M : am_M} {Q : Option am_V → am_M → Prop} {g : Gd}
theorem n0_keepLead {st lead o lt : Int} {R W : List Int} (ho : am_kd KS o = some (5, 2, [lt, -1])) (hl : am_kd KS lt = some (11, 74, [])) (hn : o ≠ 79 ∧ lt ≠ 79) (hs : 0 ≤ st ∧ st < 216) (hR : rw_ M o lt R) (hRl : R.length ≤ 74) (hlead : (if 0 ≤ lead then lead else -lead) = (W.length : Int)) (hb : -1000 ≤ lead ∧ lead ≤ 1000) (hW : R.drop (R.length - W.length) = W) (hWl : W.length ≤ R.length) (h72 : W.length ≤ 72) (hlet : ∀ x ∈ R, 0 ≤ x ∧ x < 4) (k : ∀ M', (∀ i : Nat, i < W.length → gl M' st i = W.getD i 0) → (∀ st' i : Int, 0 ≤ i ∧ i < 72 → st' ≠ st → gl M' st' i = gl M st' i) → (∀ b j : Int, b ≠ 79 → M' b j = M b j) → Q (some (vi 1)) M') : am_AtN m0_keepLead 34 [some (vr 75), some (vi st), some (vi lead), none, none, none] [vr o] KS M Q := by
  refine g0_keepLead_34 ho ?_
  refine c5_size ho hl (by omega) hR ?_
  refine g0_keepLead_39 (by omega) (by rw [hlead]; omega) ?_
  rw [hlead]
  refine am_forR (fun i ls M' => ls = [some (vr 75), some (vi st), some (vi lead), some (vr o), some (vi ((R.length : Int) - W.length)), some (vi i)] ∧ (∀ j : Nat, (j : Int) < i → gl M' st j = W.getD j 0) ∧ (∀ st' j : Int, 0 ≤ j ∧ j < 72 → st' ≠ st → gl M' st' j = gl M st' j) ∧ (∀ b j : Int, b ≠ 79 → M' b j = M b j)) 0 W.length (by omega) ⟨rfl, fun j hj => by exfalso; omega, fun _ _ _ _ => rfl, fun _ _ _ => rfl⟩ ?_ ?_
  · rintro ls M' ⟨rfl, h1, h2, h3⟩
    refine g0_keepLead_49 (by omega) (fun _ => ?_) (fun c => by exfalso; rw [hlead] at c; omega)
    exact g0_keepLead_80 (k M' (fun i hi => h1 i (by omega)) h2 h3)
  · rintro i ls M' hi0 hi1 ⟨rfl, h1, h2, h3⟩ ih
    have hR' : rw_ M' o lt R := ⟨by rw [h3 o 1 hn.1]; exact hR.1, fun j hj => by rw [h3 lt j hn.2]; exact hR.2 j hj⟩
    refine g0_keepLead_49 (by omega) (fun c => by exfalso; rw [hlead] at c; omega) (fun _ => ?_)
    refine g0_keepLead_58 (by omega) ho ?_
    refine c5_letterAt ho hl (by omega) hR' (by omega) ?_
    have hix : 0 ≤ (R.length : Int) - W.length + i ∧ (R.length : Int) - W.length + i < R.length := by omega
    rw [if_pos hix]
    have hmem := hlet _ (getD_mem (L := R) (i := (R.length : Int) - W.length + i) hix.1 hix.2)
    have eW : R.getD ((R.length : Int) - W.length + i).toNat 0 = W.getD i.toNat 0 := by
      conv => rhs; rw [← hW]
      rw [getD_drop, show ((R.length : Int) - W.length + i).toNat = R.length - W.length + i.toNat by omega]
    rw [eW] at hmem ⊢
    refine g0_keepLead_71 kd75 ?_
    refine c0_putLeadLetter hs ⟨hi0, by omega⟩ ?_
    refine g0_keepLead_74 (by omega) ?_
    refine ih _ _ ⟨rfl, fun j hj => ?_, fun st' j hj hne => ?_, fun b j hb => ?_⟩
    · by_cases hji : (j : Int) = i
      · rw [hji, gl_hit hmem]
        rw [show i.toNat = j by omega]
      · rw [gl_miss ⟨hi0, by omega⟩ (by omega) (Or.inr hji)]
        exact h1 j (by omega)
    · rw [gl_miss ⟨hi0, by omega⟩ hj (Or.inl hne)]
      exact h2 st' j hj hne
    · rw [pl_o hb]
      exact h3 b j hb
theorem c0_keepLead {st : Int} {A B : List Int} (hs : 0 ≤ st ∧ st < 216) (hA : rw_ M 80 81 A) (hB : rw_ M 82 83 B) (hAl : A.length ≤ 74) (hBl : B.length ≤ 74) (h72 : A.length ≤ B.length + 72 ∧ B.length ≤ A.length + 72) (la : ∀ x ∈ A, 0 ≤ x ∧ x < 4) (lb : ∀ x ∈ B, 0 ≤ x ∧ x < 4) (k : ∀ M', LD M' st (ct A B) → (∀ st' : Int, st' ≠ st → M' 78 st' = M 78 st' ∧ ∀ i : Int, 0 ≤ i ∧ i < 72 → gl M' st' i = gl M st' i) → (∀ b j : Int, b ≠ 78 → b ≠ 79 → M' b j = M b j) → Q (some (vi 1)) M') : am_CallN m0_keepLead [vr 75, vi st, vi ((A.length : Int) - B.length)] KS M Q := by
  refine am_callN_of (by decide +kernel) rfl rfl (Nat.le_of_ble_eq_true rfl) ?_
  refine g0_keepLead_0 ?_
  refine c8_in hs ?_
  refine g0_keepLead_7 (fun _ => ?_) (fun c => by exfalso; omega)
  have hA' : rw_ (am_up M 78 st ((A.length : Int) - B.length)) 80 81 A := ⟨by rw [am_upn (Or.inl (by omega))]; exact hA.1, fun j hj => by rw [am_upn (Or.inl (by omega))]; exact hA.2 j hj⟩
  have hB' : rw_ (am_up M 78 st ((A.length : Int) - B.length)) 82 83 B := ⟨by rw [am_upn (Or.inl (by omega))]; exact hB.1, fun j hj => by rw [am_upn (Or.inl (by omega))]; exact hB.2 j hj⟩
  have hc1 : (ct A B).1.length = A.length - B.length := List.length_drop
  have hc2 : (ct A B).2.length = B.length - A.length := List.length_drop
  have fin : ∀ (W : List Int), (ct A B).1 ++ (ct A B).2 = W → ∀ M', (∀ i : Nat, i < W.length → gl M' st i = W.getD i 0) → (∀ st' i : Int, 0 ≤ i ∧ i < 72 → st' ≠ st → gl M' st' i = gl (am_up M 78 st ((A.length : Int) - B.length)) st' i) → (∀ b j : Int, b ≠ 79 → M' b j = am_up M 78 st ((A.length : Int) - B.length) b j) → Q (some (vi 1)) M' := by
    intro W hW M' h1 h2 h3
    refine k M' ⟨?_, ct_one A B, ?_, ?_⟩ (fun st' hne => ⟨?_, fun i hi => ?_⟩) (fun b j h4 h5 => ?_)
    · rw [h3 78 st (by omega), am_up_hit]
      omega
    · rw [List.length_append]
      omega
    · rw [hW]
      exact h1
    · rw [h3 78 st' (by omega), am_upn (Or.inr hne)]
    · rw [h2 st' i hi hne]
      exact gl_of (fun j => am_upn (Or.inl (by omega))) st' i
    · rw [h3 b j h5, am_upn (Or.inl h4)]
  refine g0_keepLead_12 hs.1 hs.2 (fun c => ?_) (fun c => ?_)
  · have e1 : (ct A B).1 = [] := List.eq_nil_of_length_eq_zero (by omega)
    have e2 : (ct A B).1 ++ (ct A B).2 = B.drop A.length := by
      rw [e1, List.nil_append]
      rfl
    have e3 : (B.drop A.length).length = B.length - A.length := List.length_drop
    refine g0_keepLead_30 ?_
    exact n0_keepLead (R := B) (W := B.drop A.length) kd82 kd83 (by omega) hs hB' hBl (by rw [e3]; split <;> omega) (by omega) (by rw [e3, show B.length - (B.length - A.length) = A.length by omega]) (by omega) (by omega) lb (fin _ e2)
  · have e1 : (ct A B).2 = [] := List.eq_nil_of_length_eq_zero (by omega)
    have e2 : (ct A B).1 ++ (ct A B).2 = A.drop B.length := by
      rw [e1, List.append_nil]
      rfl
    have e3 : (A.drop B.length).length = A.length - B.length := List.length_drop
    refine g0_keepLead_23 ?_
    exact n0_keepLead (R := A) (W := A.drop B.length) kd80 kd81 (by omega) hs hA' hAl (by rw [e3]; split <;> omega) (by omega) (by rw [e3, show A.length - (A.length - B.length) = B.length by omega]) (by omega) (by omega) la (fin _ e2)
theorem n0_isLead {st lead o lt : Int} {R W : List Int} (ho : am_kd KS o = some (5, 2, [lt, -1])) (hl : am_kd KS lt = some (11, 74, [])) (hs : 0 ≤ st ∧ st < 216) (hR : rw_ M o lt R) (hRl : R.length ≤ 74) (hlead : (if 0 ≤ lead then lead else -lead) = (W.length : Int)) (hb : -1000 ≤ lead ∧ lead ≤ 1000) (hW : R.drop (R.length - W.length) = W) (hWl : W.length ≤ R.length) (h72 : W.length ≤ 72) (k1 : (∀ i : Nat, i < W.length → gl M st i = W.getD i 0) → Q (some (vi 1)) M) (k0 : ¬ (∀ i : Nat, i < W.length → gl M st i = W.getD i 0) → Q (some (vi 0)) M) : am_AtN m0_isLead 37 [some (vr 75), some (vi st), some (vi lead), none, none, none] [vr o] KS M Q := by
  refine g0_isLead_37 ho ?_
  refine c5_size ho hl (by omega) hR ?_
  refine g0_isLead_42 (by omega) (by rw [hlead]; omega) ?_
  rw [hlead]
  refine am_forI (fun i => [some (vr 75), some (vi st), some (vi lead), some (vr o), some (vi ((R.length : Int) - W.length)), some (vi i)]) (fun _ => M) (fun i => ∀ j : Nat, (j : Int) < i → gl M st j = W.getD j 0) 0 W.length (by omega) rfl rfl (fun j hj => by exfalso; omega) (fun hI => ?_) (fun i hi0 hi1 hI ih => ?_)
  · refine g0_isLead_52 (by omega) (fun _ => ?_) (fun c => by exfalso; rw [hlead] at c; omega)
    exact g0_isLead_88 (k1 (fun i hi => hI i (by omega)))
  · refine g0_isLead_52 (by omega) (fun c => by exfalso; rw [hlead] at c; omega) (fun _ => ?_)
    refine g0_isLead_61 ?_
    refine c0_leadLetter hs ⟨hi0, by omega⟩ ?_
    refine g0_isLead_68 (by omega) ho ?_
    refine c5_letterAt ho hl (by omega) hR (by omega) ?_
    have hix : 0 ≤ (R.length : Int) - W.length + i ∧ (R.length : Int) - W.length + i < R.length := by omega
    rw [if_pos hix]
    have eW : R.getD ((R.length : Int) - W.length + i).toNat 0 = W.getD i.toNat 0 := by
      conv => rhs; rw [← hW]
      rw [getD_drop, show ((R.length : Int) - W.length + i).toNat = R.length - W.length + i.toNat by omega]
    rw [eW]
    refine g0_isLead_77 (fun c => ?_) (fun c => ?_)
    · refine g0_isLead_82 (by omega) (ih (fun j hj => ?_))
      by_cases hji : (j : Int) = i
      · rw [hji, c, show i.toNat = j by omega]
      · exact hI j (by omega)
    · refine g0_isLead_80 (k0 (fun h => c ?_))
      have := h i.toNat (by omega)
      rw [show ((i.toNat : Nat) : Int) = i by omega] at this
      exact this
theorem c0_isLead {st : Int} {A B : List Int} {l : List Int × List Int} (hs : 0 ≤ st ∧ st < 216) (hL : LD M st l) (hA : rw_ M 80 81 A) (hB : rw_ M 82 83 B) (hAl : A.length ≤ 74) (hBl : B.length ≤ 74) (h72 : A.length ≤ B.length + 72 ∧ B.length ≤ A.length + 72) (k1 : l = ct A B → Q (some (vi 1)) M) (k0 : l ≠ ct A B → Q (some (vi 0)) M) : am_CallN m0_isLead [vr 75, vi st, vi ((A.length : Int) - B.length)] KS M Q := by
  have hc1 : (ct A B).1.length = A.length - B.length := List.length_drop
  have hc2 : (ct A B).2.length = B.length - A.length := List.length_drop
  refine am_callN_of (by decide +kernel) rfl rfl (Nat.le_of_ble_eq_true rfl) ?_
  refine g0_isLead_0 ?_
  refine c8_in hs ?_
  refine g0_isLead_7 (fun c => by exfalso; omega) (fun _ => ?_)
  refine g0_isLead_10 hs.1 hs.2 (fun c0 => ?_) (fun c0 => ?_)
  · rw [hL.1] at c0
    have hlen : (l.1 ++ l.2).length = ((ct A B).1 ++ (ct A B).2).length := by
      have h1 := hL.2.1
      rw [List.length_append, List.length_append]
      rcases h1 with h1 | h1
      · rw [h1] at c0 ⊢
        simp only [List.length_nil] at c0 ⊢
        omega
      · rw [h1] at c0 ⊢
        simp only [List.length_nil] at c0 ⊢
        omega
    have yes : ∀ W : List Int, (ct A B).1 ++ (ct A B).2 = W → (∀ i : Nat, i < W.length → gl M st i = W.getD i 0) → Q (some (vi 1)) M := by
      intro W hW h
      refine k1 (ld_same hL.2.1 (ct_one A B) (by omega) ?_)
      rw [hW]
      refine ls_ext (by rw [← hW]; exact hlen) (fun j hj => ?_)
      rw [← h j hj]
      exact (hL.2.2.2 j (by rw [hlen, hW]; exact hj)).symm
    have no : ∀ W : List Int, (ct A B).1 ++ (ct A B).2 = W → ¬ (∀ i : Nat, i < W.length → gl M st i = W.getD i 0) → Q (some (vi 0)) M := by
      intro W hW h
      refine k0 (fun he => h (fun i hi => ?_))
      rw [← hW, ← he]
      exact hL.2.2.2 i (by rw [he, hW]; exact hi)
    refine g0_isLead_22 (fun c => ?_) (fun c => ?_)
    · have e1 : (ct A B).1 = [] := List.eq_nil_of_length_eq_zero (by omega)
      have e2 : (ct A B).1 ++ (ct A B).2 = B.drop A.length := by
        rw [e1, List.nil_append]
        rfl
      have e3 : (B.drop A.length).length = B.length - A.length := List.length_drop
      refine g0_isLead_33 ?_
      exact n0_isLead (R := B) (W := B.drop A.length) kd82 kd83 hs hB hBl (by rw [e3]; split <;> omega) (by omega) (by rw [e3, show B.length - (B.length - A.length) = A.length by omega]) (by omega) (by omega) (yes _ e2) (no _ e2)
    · have e1 : (ct A B).2 = [] := List.eq_nil_of_length_eq_zero (by omega)
      have e2 : (ct A B).1 ++ (ct A B).2 = A.drop B.length := by
        rw [e1, List.append_nil]
        rfl
      have e3 : (A.drop B.length).length = A.length - B.length := List.length_drop
      refine g0_isLead_26 ?_
      exact n0_isLead (R := A) (W := A.drop B.length) kd80 kd81 hs hA hAl (by rw [e3]; split <;> omega) (by omega) (by rw [e3, show A.length - (A.length - B.length) = B.length by omega]) (by omega) (by omega) (yes _ e2) (no _ e2)
  · rw [hL.1] at c0
    refine g0_isLead_20 (k0 (fun he => c0 ?_))
    rw [he]
    omega
theorem c0_endsEven {st : Int} {l : List Int × List Int} (hd : agd M g) (hg : okG g) (hs : 0 ≤ st ∧ st < 216) (hL : LD M st l) (k : ∀ M', fF M M' → Q (some (vi (if l.1 ++ wl (ea g st) = l.2 ++ wl (eb g st) then 1 else 0))) M') : am_CallN m0_endsEven [vr 75, vi st] KS M Q := by
  have hlen := hL.2.2.1
  rw [List.length_append] at hlen
  have hwa := hg.2.2.1.2.2 (st / 6 % 6) (by omega)
  have hwb := hg.2.2.2.2.2 (st % 6) (by omega)
  have hwa2 : -1 ≤ ea g st ∧ ea g st ≤ 20 := by
    rcases hwa with h | h
    · unfold ea
      omega
    · have := h.1
      have := h.2.1
      unfold ea
      omega
  have hwb2 : -1 ≤ eb g st ∧ eb g st ≤ 20 := by
    rcases hwb with h | h
    · unfold eb
      omega
    · have := h.1
      have := h.2.1
      unfold eb
      omega
  have l1 := wl_len (ea g st)
  have l2 := wl_len (eb g st)
  refine am_callN_of (by decide +kernel) rfl rfl (Nat.le_of_ble_eq_true rfl) ?_
  refine g0_endsEven_0 ?_
  refine c0_fetch hs hL (fun M1 hA hB hf1 => ?_)
  have hd1 := hd.of hf1.a
  obtain ⟨r2, kd2⟩ := hd1.2.1.kd
  refine g0_endsEven_5 ?_
  refine c0_oneSpot hs.1 ?_
  refine g0_endsEven_17 kd2 ?_
  refine q4_endOf hd1.2.1 (by omega) ?_
  refine g0_endsEven_20 kd80 ?_
  refine c5_addWord (w := ea g st) kd80 kd81 (by omega) hA hwa2 (by omega) (fun M2 hA2 hf2 => ?_)
  have hd2 := hd1.of hf2.f80.a
  obtain ⟨r3, kd3⟩ := hd2.2.2.1.kd
  have hB2 := hB.of hf2 (by omega) (by omega) (by omega) (by omega)
  refine g0_endsEven_23 ?_
  refine c0_otherSpot hs.1 ?_
  refine g0_endsEven_35 kd3 ?_
  refine q4_endOf hd2.2.2.1 (by omega) ?_
  refine g0_endsEven_38 kd82 ?_
  refine c5_addWord (w := eb g st) kd82 kd83 (by omega) hB2 hwb2 (by omega) (fun M3 hB3 hf3 => ?_)
  have hA3 := hA2.of hf3 (by omega) (by omega) (by omega) (by omega)
  refine g0_endsEven_41 ?_
  refine c5_isLike kd80 kd81 (by omega) hA3 kd82 kd83 (by omega) hB3 (by rw [List.length_append]; omega) (by rw [List.length_append]; omega) ?_
  refine g0_endsEven_52 (by split <;> omega) ?_
  exact k M3 ((hf1.tr hf2.f80).tr hf3.f82)
end
