/-! ===== programs that agree: the reference, a lead kept ===== -/
section
variable {M : am_M} {Q : Option am_V → am_M → Prop}
theorem h9_keep {st z : Int} {A B : List Int} (hA : rA M A) (hB : rB M B) (hAl : A.length ≤ 450) (hBl : B.length ≤ 450)
    (k : ∀ less first n : Int, (first = if (ct A B).1 = [] then 0 else 1) → n = ((ct A B).1 ++ (ct A B).2).length → 0 ≤ less → less + n ≤ 450 → (∀ i : Nat, (i : Int) < n → (if first = 0 then M 107 (less + i) else M 106 (less + i)) = ((ct A B).1 ++ (ct A B).2).getD i 0) → (z = 0 → am_AtN m9_keep 81 [some (vr 86), some (vi st), some (vi z), some (vi less), some (vi first), some (vi n), none, none, none] [] KS M Q) ∧ (¬ z = 0 → am_AtN m9_keep 65 [some (vr 86), some (vi st), some (vi z), some (vi less), some (vi first), some (vi n), none, none, none] [] KS M Q)) : am_AtN m9_keep 0 [some (vr 86), some (vi st), some (vi z), none, none, none, none, none, none] [] KS M Q := by
  have a0 := hA.1
  have b0 := hB.1
  have hc1 : (ct A B).1.length = A.length - B.length := List.length_drop
  have hc2 : (ct A B).2.length = B.length - A.length := List.length_drop
  by_cases hgt : B.length < A.length
  · have e1 : (ct A B).2 = [] := List.eq_nil_of_length_eq_zero (by omega)
    have n1 : ¬ (ct A B).1 = [] := fun h => by rw [h] at hc1; simp at hc1; omega
    have e2 : (ct A B).1 ++ (ct A B).2 = A.drop B.length := by
      rw [e1, List.append_nil]
      rfl
    have hk := k B.length 1 ((A.length : Int) - B.length) (by rw [if_neg n1]) (by rw [List.length_append]; omega) (by omega) (by omega) (fun i hi => by
      rw [if_neg (by omega), e2, getD_drop]
      have := hA.2 (B.length + i) (by omega)
      rw [show ((B.length + i : Nat) : Int) = B.length + i by omega] at this
      exact this)
    refine g9_keep_0 (fun _ => ?_) (fun c => by exfalso; omega)
    refine g9_keep_18 ?_
    refine g9_keep_22 (fun c => by exfalso; omega) (fun _ => ?_)
    refine g9_keep_34 ?_
    refine g9_keep_39 (fun c => by exfalso; omega) (fun _ => ?_)
    refine g9_keep_46 ?_
    rw [a0, b0]
    exact g9_keep_57 (by omega) hk.1 hk.2
  · have e1 : (ct A B).1 = [] := List.eq_nil_of_length_eq_zero (by omega)
    have e2 : (ct A B).1 ++ (ct A B).2 = B.drop A.length := by
      rw [e1, List.nil_append]
      rfl
    have hk := k A.length 0 ((B.length : Int) - A.length) (by rw [if_pos e1]) (by rw [List.length_append]; omega) (by omega) (by omega) (fun i hi => by
      rw [if_pos rfl, e2, getD_drop]
      have := hB.2 (A.length + i) (by omega)
      rw [show ((A.length + i : Nat) : Int) = A.length + i by omega] at this
      exact this)
    have rest : am_AtN m9_keep 22 [some (vr 86), some (vi st), some (vi z), none, none, none, none, none, none] [vi A.length] KS M Q := by
      refine g9_keep_22 (fun _ => ?_) (fun c => by exfalso; omega)
      refine g9_keep_38 ?_
      refine g9_keep_39 (fun _ => ?_) (fun c => by exfalso; omega)
      refine g9_keep_53 ?_
      rw [b0]
      exact g9_keep_57 (by omega) hk.1 hk.2
    refine g9_keep_0 (fun c => ?_) (fun c => ?_)
    · refine g9_keep_18 ?_
      rw [b0, show ((B.length : Nat) : Int) = A.length by omega]
      exact rest
    · refine g9_keep_11 ?_
      rw [a0]
      exact rest
theorem z9_keep {st z less first n i : Int} (hi : 0 ≤ i) (k : Q (some (vi 0)) M) : am_AtN m9_keep 118 [some (vr 86), some (vi st), some (vi z), some (vi less), some (vi first), some (vi n), some (vi 0), some (vi i), none] [] KS M Q := by
  have fin : am_AtN m9_keep 208 [some (vr 86), some (vi st), some (vi z), some (vi less), some (vi first), some (vi n), some (vi 0), some (vi i), none] [] KS M Q := g9_keep_208 (by omega) k
  exact g9_keep_118 (fun _ => fin) (fun _ => g9_keep_125 (fun _ => fin) (fun c => by exfalso; omega))
theorem c9_keep0 {st : Int} {A B : List Int} {l : List Int × List Int} (hs : 0 ≤ st ∧ st < 216) (hL : LM M st l) (hA : rA M A) (hB : rB M B) (hAl : A.length ≤ 432) (hBl : B.length ≤ 432) (k1 : l = ct A B → Q (some (vi 1)) M) (k0 : l ≠ ct A B → Q (some (vi 0)) M) : am_CallN m9_keep [vr 86, vi st, vi 0] KS M Q := by
  have hc1 : (ct A B).1.length = A.length - B.length := List.length_drop
  have hc2 : (ct A B).2.length = B.length - A.length := List.length_drop
  refine am_callN_of (by decide +kernel) rfl rfl (Nat.le_of_ble_eq_true rfl) ?_
  refine h9_keep hA hB (by omega) (by omega) (fun less first n hf hn hl0 hl hlet => ⟨fun _ => ?_, fun c => absurd rfl c⟩)
  have no : l ≠ ct A B → am_AtN m9_keep 112 [some (vr 86), some (vi st), some (vi 0), some (vi less), some (vi first), some (vi n), none, none, none] [] KS M Q := fun h => g9_keep_112 (g9_keep_113 (z9_keep (by omega) (k0 h)))
  have hn0 : 0 ≤ n := by omega
  have hn1 : n ≤ 432 := by rw [List.length_append] at hn; omega
  have yes : M 103 st = n → (n = 0 ∨ M 104 st = first) → am_AtN m9_keep 108 [some (vr 86), some (vi st), some (vi 0), some (vi less), some (vi first), some (vi n), none, none, none] [] KS M Q := by
    intro h103 h104
    have hlen : (l.1 ++ l.2).length = ((ct A B).1 ++ (ct A B).2).length := by
      have := hL.1
      omega
    have hside : (l.1.length : Int) - l.2.length = ((ct A B).1.length : Int) - (ct A B).2.length := by
      have hlen2 := hlen
      rw [List.length_append, List.length_append] at hlen2
      by_cases hz : n = 0
      · rw [List.length_append] at hn
        omega
      · have h1 : M 104 st = first := by omega
        have hne : l.1 ++ l.2 ≠ [] := fun h => by
          rw [h] at hlen
          rw [List.length_nil] at hlen
          omega
        have h2 := hL.2.2.2.1 hne
        rw [h1, hf] at h2
        by_cases e1 : l.1 = []
        · rw [if_pos e1] at h2
          have e2 : (ct A B).1 = [] := by
            by_cases e2 : (ct A B).1 = []
            · exact e2
            · rw [if_neg e2] at h2
              omega
          rw [e1, e2] at hlen2 ⊢
          simp only [List.length_nil] at hlen2 ⊢
          omega
        · rw [if_neg e1] at h2
          have e2 : ¬ (ct A B).1 = [] := fun e2 => by
            rw [if_pos e2] at h2
            omega
          have e3 : l.2 = [] := hL.2.1.resolve_left e1
          have e4 : (ct A B).2 = [] := (ct_one A B).resolve_left e2
          rw [e3, e4] at hlen2 ⊢
          simp only [List.length_nil] at hlen2 ⊢
          omega
    refine g9_keep_108 ?_
    refine g9_keep_113 ?_
    refine am_forI (fun i => [some (vr 86), some (vi st), some (vi 0), some (vi less), some (vi first), some (vi n), some (vi 1), some (vi i), none]) (fun _ => M) (fun i => ∀ j : Nat, (j : Int) < i → M 102 (440 * st + j) = ((ct A B).1 ++ (ct A B).2).getD j 0) 0 n hn0 rfl rfl (fun j hj => by exfalso; omega) (fun hI => ?_) (fun i hi0 hi1 hI ih => ?_)
    · refine g9_keep_118 (fun _ => ?_) (fun c => by exfalso; omega)
      refine g9_keep_208 (by omega) (k1 (ld_same hL.2.1 (ct_one A B) hside (ls_ext hlen (fun j hj => ?_))))
      rw [← hL.2.2.2.2 j (by omega)]
      exact hI j (by omega)
    · have hv := hlet i.toNat (by omega)
      rw [show ((i.toNat : Nat) : Int) = i by omega] at hv
      have cmp : am_AtN m9_keep 156 [some (vr 86), some (vi st), some (vi 0), some (vi less), some (vi first), some (vi n), some (vi 1), some (vi i), none] [vi (((ct A B).1 ++ (ct A B).2).getD i.toNat 0)] KS M Q := by
        refine g9_keep_156 (fun _ => ?_) (fun c => absurd rfl c)
        refine g9_keep_177 (by omega) (by omega) (by omega) (by omega) (fun c => ?_) (fun c => ?_)
        · refine g9_keep_199 (g9_keep_200 (by omega) (z9_keep (by omega) (k0 (fun he => c ?_))))
          have := hL.2.2.2.2 i.toNat (by omega)
          rw [show ((i.toNat : Nat) : Int) = i by omega, he] at this
          exact this
        · refine g9_keep_195 (g9_keep_200 (by omega) (ih (fun j hj => ?_)))
          by_cases e : (j : Int) = i
          · rw [e, c, show i.toNat = j by omega]
          · exact hI j (by omega)
      refine g9_keep_118 (fun c => by exfalso; omega) (fun _ => ?_)
      refine g9_keep_125 (fun c => by exfalso; omega) (fun _ => ?_)
      refine g9_keep_130 (fun c => ?_) (fun c => ?_)
      · rw [if_pos c] at hv
        refine g9_keep_147 (by omega) (by omega) (by omega) ?_
        rw [hv]
        exact cmp
      · rw [if_neg c] at hv
        refine g9_keep_135 (by omega) (by omega) (by omega) ?_
        rw [hv]
        exact cmp
  refine g9_keep_81 hs.1 hs.2 (fun c => no (fun he => c ?_)) (fun c => ?_)
  · rw [hL.1, he, hn]
  · refine g9_keep_92 (fun c2 => yes c (Or.inl c2)) (fun c2 => ?_)
    refine g9_keep_97 hs.1 hs.2 (fun c3 => no (fun he => c3 ?_)) (fun c3 => yes c (Or.inr c3))
    have hne : l.1 ++ l.2 ≠ [] := fun h => by
      rw [← he, h] at hn
      rw [List.length_nil] at hn
      omega
    rw [hL.2.2.2.1 hne, hf, he]
theorem c9_keep1 {st : Int} {A B : List Int} (hs : 0 ≤ st ∧ st < 216) (hA : rA M A) (hB : rB M B) (hAl : A.length ≤ 432) (hBl : B.length ≤ 432) (k : ∀ M', LM M' st (ct A B) → (∀ st' : Int, st' ≠ st → M' 103 st' = M 103 st' ∧ M' 104 st' = M 104 st' ∧ ∀ i : Int, 0 ≤ i ∧ i < 440 → M' 102 (440 * st' + i) = M 102 (440 * st' + i)) → (∀ b j : Int, b ≠ 102 → b ≠ 103 → b ≠ 104 → M' b j = M b j) → Q (some (vi 1)) M') : am_CallN m9_keep [vr 86, vi st, vi 1] KS M Q := by
  have hc1 : (ct A B).1.length = A.length - B.length := List.length_drop
  have hc2 : (ct A B).2.length = B.length - A.length := List.length_drop
  refine am_callN_of (by decide +kernel) rfl rfl (Nat.le_of_ble_eq_true rfl) ?_
  refine h9_keep hA hB (by omega) (by omega) (fun less first n hf hn hl0 hl hlet => ⟨fun c => by exfalso; omega, fun _ => ?_⟩)
  have hn0 : 0 ≤ n := by omega
  have hn1 : n ≤ 432 := by rw [List.length_append] at hn; omega
  have hf01 : first = 0 ∨ first = 1 := by
    rw [hf]
    split <;> omega
  refine g9_keep_65 hs.1 hs.2 hs.1 hs.2 hf01 ?_
  have e103 : am_up (am_up M 103 st n) 104 st first 103 st = n := by rw [am_upn (Or.inl (by omega)), am_up_hit]
  have e104 : am_up (am_up M 103 st n) 104 st first 104 st = first := am_up_hit
  have yes : am_AtN m9_keep 108 [some (vr 86), some (vi st), some (vi 1), some (vi less), some (vi first), some (vi n), none, none, none] [] KS (am_up (am_up M 103 st n) 104 st first) Q := by
    refine g9_keep_108 ?_
    refine g9_keep_113 ?_
    refine am_forR (fun i ls M' => ls = [some (vr 86), some (vi st), some (vi 1), some (vi less), some (vi first), some (vi n), some (vi 1), some (vi i), none] ∧ (∀ j : Nat, (j : Int) < i → M' 102 (440 * st + j) = ((ct A B).1 ++ (ct A B).2).getD j 0) ∧ ∀ b j : Int, (b ≠ 102 ∨ ¬ (440 * st ≤ j ∧ j < 440 * st + 440)) → M' b j = am_up (am_up M 103 st n) 104 st first b j) 0 n hn0 ⟨rfl, fun j hj => by exfalso; omega, fun _ _ _ => rfl⟩ ?_ ?_
    · rintro ls M' ⟨rfl, h1, h2⟩
      refine g9_keep_118 (fun _ => ?_) (fun c => by exfalso; omega)
      refine g9_keep_208 (by omega) (k M' ⟨?_, ct_one A B, ?_, fun _ => ?_, fun i hi => h1 i (by omega)⟩ (fun st' hne => ⟨?_, ?_, fun i hi => ?_⟩) (fun b j h3 h4 h5 => ?_))
      · rw [h2 103 st (Or.inl (by omega)), e103, hn]
      · rw [List.length_append]
        omega
      · rw [h2 104 st (Or.inl (by omega)), e104, hf]
      · rw [h2 103 st' (Or.inl (by omega)), am_upn (Or.inl (by omega)), am_upn (Or.inr hne)]
      · rw [h2 104 st' (Or.inl (by omega)), am_upn (Or.inr hne), am_upn (Or.inl (by omega))]
      · rw [h2 102 _ (Or.inr (by omega)), am_upn (Or.inl (by omega)), am_upn (Or.inl (by omega))]
      · rw [h2 b j (Or.inl h3), am_upn (Or.inl h5), am_upn (Or.inl h4)]
    · rintro i ls M' hi0 hi1 ⟨rfl, h1, h2⟩ ih
      have hv := hlet i.toNat (by omega)
      rw [show ((i.toNat : Nat) : Int) = i by omega] at hv
      have e6 : ∀ j : Int, M' 106 j = M 106 j := fun j => by rw [h2 106 j (Or.inl (by omega)), am_upn (Or.inl (by omega)), am_upn (Or.inl (by omega))]
      have e7 : ∀ j : Int, M' 107 j = M 107 j := fun j => by rw [h2 107 j (Or.inl (by omega)), am_upn (Or.inl (by omega)), am_upn (Or.inl (by omega))]
      have cmp : am_AtN m9_keep 156 [some (vr 86), some (vi st), some (vi 1), some (vi less), some (vi first), some (vi n), some (vi 1), some (vi i), none] [vi (((ct A B).1 ++ (ct A B).2).getD i.toNat 0)] KS M' Q := by
        refine g9_keep_156 (fun c => by exfalso; omega) (fun _ => ?_)
        refine g9_keep_162 (by omega) (by omega) (by omega) (by omega) ?_
        refine g9_keep_177 (by omega) (by omega) (by omega) (by omega) (fun c => absurd am_up_hit c) (fun _ => ?_)
        refine g9_keep_195 (g9_keep_200 (by omega) (ih _ _ ⟨rfl, fun j hj => ?_, fun b j hb => ?_⟩))
        · by_cases e : (j : Int) = i
          · rw [e, am_up_hit, show i.toNat = j by omega]
          · rw [am_upn (Or.inr (by omega))]
            exact h1 j (by omega)
        · rw [am_upn (by omega)]
          exact h2 b j hb
      refine g9_keep_118 (fun c => by exfalso; omega) (fun _ => ?_)
      refine g9_keep_125 (fun c => by exfalso; omega) (fun _ => ?_)
      refine g9_keep_130 (fun c => ?_) (fun c => ?_)
      · rw [if_pos c, ← e7] at hv
        refine g9_keep_147 (by omega) (by omega) (by omega) ?_
        rw [hv]
        exact cmp
      · rw [if_neg c, ← e6] at hv
        refine g9_keep_135 (by omega) (by omega) (by omega) ?_
        rw [hv]
        exact cmp
  refine g9_keep_81 hs.1 hs.2 (fun c => absurd e103 c) (fun _ => ?_)
  refine g9_keep_92 (fun _ => yes) (fun _ => ?_)
  exact g9_keep_97 hs.1 hs.2 (fun c => absurd e104 c) (fun _ => yes)
end
