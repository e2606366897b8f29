/-! ===== the reference: sentences, told and written ===== -/

theorem c9_point {M : am_M} {Q : Option am_V → am_M → Prop} {s p x t : Int} (hk : 2 ≤ M 86 1 ∧ M 86 1 ≤ 4) (k1 : (0 ≤ s ∧ s ≤ 7) ∧ (0 ≤ p ∧ p ≤ 5) ∧ (0 ≤ x ∧ x < M 86 1) ∧ (0 ≤ t ∧ t ≤ 5) → Q (some (vi (M 87 (24 * s + 4 * p + x)))) (am_up (am_up M 86 0 0) 87 (24 * s + 4 * p + x) t)) (k0 : ¬ ((0 ≤ s ∧ s ≤ 7) ∧ (0 ≤ p ∧ p ≤ 5) ∧ (0 ≤ x ∧ x < M 86 1) ∧ (0 ≤ t ∧ t ≤ 5)) → Q (some (vi (-1))) (am_up M 86 0 0)) : am_CallN m9_point [vr 86, vi s, vi p, vi x, vi t] KS M Q := by
  have ek : am_up M 86 0 0 86 1 = M 86 1 := am_upn (Or.inr (by omega))
  refine am_callN_of (by decide +kernel) rfl rfl (Nat.le_of_ble_eq_true rfl) ?_
  refine g9_point_0 ?_
  refine c9_noSentence ?_
  by_cases hg0 : 0 ≤ s ∧ s ≤ 7
  · rw [if_pos (by first | exact hg0 | omega)]
    refine g9_point_9 (fun c => by exfalso; omega) (fun _ => ?_)
    refine g9_point_12 ?_
    refine c9_noPoint ?_
    by_cases hg1 : 0 ≤ p ∧ p ≤ 5
    · rw [if_pos (by first | exact hg1 | omega)]
      refine g9_point_16 (fun c => by exfalso; omega) (fun _ => ?_)
      refine g9_point_19 ?_
      refine c9_noLetter (by omega) ?_
      by_cases hg2 : 0 ≤ x ∧ x < M 86 1
      · rw [if_pos (by first | exact hg2 | omega)]
        refine g9_point_24 (fun c => by exfalso; omega) (fun _ => ?_)
        refine g9_point_27 ?_
        refine c9_noPoint ?_
        by_cases hg3 : 0 ≤ t ∧ t ≤ 5
        · rw [if_pos (by first | exact hg3 | omega)]
          refine g9_point_32 (fun _ => ?_) (fun c => by exfalso; omega)
          have e : am_up M 86 0 0 87 (24 * s + 4 * p + x) = M 87 (24 * s + 4 * p + x) := am_upn (Or.inl (by omega))
          refine g9_point_37 (by omega) (by omega) (by omega) (by omega) (by omega) (by omega) (by omega) (by omega) ?_
          rw [e]
          exact k1 ⟨hg0, hg1, hg2, hg3⟩
        · rw [if_neg (by first | exact hg3 | omega)]
          refine g9_point_32 (fun c => by exfalso; omega) (fun _ => ?_)
          exact g9_point_35 (k0 (fun h => hg3 h.2.2.2))
      · rw [if_neg (by first | exact hg2 | omega)]
        refine g9_point_24 (fun _ => ?_) (fun c => by exfalso; omega)
        exact g9_point_35 (k0 (fun h => hg2 h.2.2.1))
    · rw [if_neg (by first | exact hg1 | omega)]
      refine g9_point_16 (fun _ => ?_) (fun c => by exfalso; omega)
      exact g9_point_35 (k0 (fun h => hg1 h.2.1))
  · rw [if_neg (by first | exact hg0 | omega)]
    refine g9_point_9 (fun _ => ?_) (fun c => by exfalso; omega)
    exact g9_point_35 (k0 (fun h => hg0 h.1))

theorem c9_holds {M : am_M} {Q : Option am_V → am_M → Prop} {s p v : Int} (hH : ∀ j : Int, 0 ≤ j ∧ j < 48 → M 88 j = 0 ∨ M 88 j = 1) (hv : v = 0 ∨ v = 1) (k1 : (0 ≤ s ∧ s ≤ 7) ∧ (0 ≤ p ∧ p ≤ 5) → Q (some (vi (M 88 (6 * s + p)))) (am_up (am_up M 86 0 0) 88 (6 * s + p) v)) (k0 : ¬ ((0 ≤ s ∧ s ≤ 7) ∧ (0 ≤ p ∧ p ≤ 5)) → Q (some (vi (-1))) (am_up M 86 0 0)) : am_CallN m9_holds [vr 86, vi s, vi p, vi v] KS M Q := by
  refine am_callN_of (by decide +kernel) rfl rfl (Nat.le_of_ble_eq_true rfl) ?_
  refine g9_holds_0 ?_
  refine c9_noSentence ?_
  by_cases hg0 : 0 ≤ s ∧ s ≤ 7
  · rw [if_pos (by first | exact hg0 | omega)]
    refine g9_holds_9 (fun c => by exfalso; omega) (fun _ => ?_)
    refine g9_holds_12 ?_
    refine c9_noPoint ?_
    by_cases hg1 : 0 ≤ p ∧ p ≤ 5
    · rw [if_pos (by first | exact hg1 | omega)]
      refine g9_holds_16 (fun _ => ?_) (fun c => by exfalso; omega)
      have e : am_up M 86 0 0 88 (6 * s + p) = M 88 (6 * s + p) := am_upn (Or.inl (by omega))
      have h01 := hH (6 * s + p) (by omega)
      have k1 := k1 ⟨hg0, hg1⟩
      refine g9_holds_21 (by omega) (by omega) (by omega) (by omega) (fun c => ?_) (fun c => ?_)
      · refine g9_holds_39 ?_
        refine g9_holds_40 (by omega) (by omega) (by omega) (by omega) hv ?_
        rw [show M 88 (6 * s + p) = 0 by omega] at k1
        exact k1
      · refine g9_holds_35 ?_
        refine g9_holds_40 (by omega) (by omega) (by omega) (by omega) hv ?_
        rw [show M 88 (6 * s + p) = 1 by omega] at k1
        exact k1
    · rw [if_neg (by first | exact hg1 | omega)]
      refine g9_holds_16 (fun c => by exfalso; omega) (fun _ => ?_)
      exact g9_holds_19 (k0 (fun h => hg1 h.2))
  · rw [if_neg (by first | exact hg0 | omega)]
    refine g9_holds_9 (fun _ => ?_) (fun c => by exfalso; omega)
    exact g9_holds_19 (k0 (fun h => hg0 h.1))

theorem c9_about {M : am_M} {Q : Option am_V → am_M → Prop} {s p x : Int} (hk : 2 ≤ M 86 1 ∧ M 86 1 ≤ 4) (hH : ∀ j : Int, 0 ≤ j ∧ j < 48 → M 88 j = 0 ∨ M 88 j = 1) (k1 : (0 ≤ s ∧ s ≤ 7) ∧ (0 ≤ p ∧ p ≤ 5) ∧ (0 ≤ x ∧ x ≤ M 86 1) → Q (some (vi (if x = M 86 1 then M 88 (6 * s + p) else M 87 (24 * s + 4 * p + x)))) (am_up M 86 0 0)) (k0 : ¬ ((0 ≤ s ∧ s ≤ 7) ∧ (0 ≤ p ∧ p ≤ 5) ∧ (0 ≤ x ∧ x ≤ M 86 1)) → Q (some (vi (-1))) (am_up M 86 0 0)) : am_CallN m9_about [vr 86, vi s, vi p, vi x] KS M Q := by
  have ek : am_up M 86 0 0 86 1 = M 86 1 := am_upn (Or.inr (by omega))
  refine am_callN_of (by decide +kernel) rfl rfl (Nat.le_of_ble_eq_true rfl) ?_
  refine g9_about_0 ?_
  refine c9_noSentence ?_
  by_cases hg0 : 0 ≤ s ∧ s ≤ 7
  · rw [if_pos (by first | exact hg0 | omega)]
    refine g9_about_9 (fun c => by exfalso; omega) (fun _ => ?_)
    refine g9_about_12 ?_
    refine c9_noPoint ?_
    by_cases hg1 : 0 ≤ p ∧ p ≤ 5
    · rw [if_pos (by first | exact hg1 | omega)]
      refine g9_about_16 (fun c => by exfalso; omega) (fun _ => ?_)
      refine g9_about_19 ?_
      refine c9_in ?_
      by_cases hg2 : 0 ≤ x ∧ x ≤ M 86 1
      · rw [if_pos (by first | exact hg2 | omega)]
        refine g9_about_30 (fun _ => ?_) (fun c => by exfalso; omega)
        have e : am_up M 86 0 0 88 (6 * s + p) = M 88 (6 * s + p) := am_upn (Or.inl (by omega))
        have e2 : am_up M 86 0 0 87 (24 * s + 4 * p + x) = M 87 (24 * s + 4 * p + x) := am_upn (Or.inl (by omega))
        have h01 := hH (6 * s + p) (by omega)
        have k1 := k1 ⟨hg0, hg1, hg2⟩
        refine g9_about_35 (fun c => ?_) (fun c => ?_)
        · rw [if_neg (by omega)] at k1
          refine g9_about_65 (by omega) (by omega) (by omega) (by omega) (by omega) (by omega) ?_
          refine g9_about_80 ?_
          rw [e2]
          exact k1
        · rw [if_pos (by omega)] at k1
          refine g9_about_43 (by omega) (by omega) (by omega) (by omega) (fun c => ?_) (fun c => ?_)
          · refine g9_about_61 ?_
            refine g9_about_80 ?_
            rw [show M 88 (6 * s + p) = 0 by omega] at k1
            exact k1
          · refine g9_about_57 ?_
            refine g9_about_80 ?_
            rw [show M 88 (6 * s + p) = 1 by omega] at k1
            exact k1
      · rw [if_neg (by first | exact hg2 | omega)]
        refine g9_about_30 (fun c => by exfalso; omega) (fun _ => ?_)
        exact g9_about_33 (k0 (fun h => hg2 h.2.2))
    · rw [if_neg (by first | exact hg1 | omega)]
      refine g9_about_16 (fun _ => ?_) (fun c => by exfalso; omega)
      exact g9_about_33 (k0 (fun h => hg1 h.2.1))
  · rw [if_neg (by first | exact hg0 | omega)]
    refine g9_about_9 (fun _ => ?_) (fun c => by exfalso; omega)
    exact g9_about_33 (k0 (fun h => hg0 h.1))

def isw (k w : Int) : Prop := w = 0 ∨ (1 ≤ w ∧ w ≤ k) ∨ ((5 ≤ w ∧ w ≤ 20) ∧ (w - 5) / 4 < k ∧ (w - 5) % 4 < k)
theorem c9_isWord {M : am_M} {Q : Option am_V → am_M → Prop} {w : Int} (hk : 2 ≤ M 86 1 ∧ M 86 1 ≤ 4) (k1 : isw (M 86 1) w → Q (some (vi 1)) M) (k0 : ¬ isw (M 86 1) w → Q (some (vi 0)) M) : am_CallN m9_isWord [vr 86, vi w] KS M Q := by
  unfold isw at k1 k0
  refine am_callN_of (by decide +kernel) rfl rfl (Nat.le_of_ble_eq_true rfl) ?_
  have yes : isw (M 86 1) w → am_AtN m9_isWord 56 [some (vr 86), some (vi w)] [] KS M Q := fun h => by
    refine g9_isWord_56 ?_
    exact g9_isWord_61 (by omega) (k1 h)
  have no : ¬ isw (M 86 1) w → am_AtN m9_isWord 60 [some (vr 86), some (vi w)] [] KS M Q := fun h => by
    refine g9_isWord_60 ?_
    exact g9_isWord_61 (by omega) (k0 h)
  unfold isw at yes no
  refine g9_isWord_0 (fun c => yes (by omega)) (fun c => ?_)
  refine g9_isWord_4 ?_
  refine c9_in ?_
  by_cases h1 : 1 ≤ w ∧ w ≤ M 86 1
  · rw [if_pos h1]
    exact g9_isWord_15 (fun _ => yes (by omega)) (fun c => by exfalso; omega)
  · rw [if_neg h1]
    refine g9_isWord_15 (fun c => by exfalso; omega) (fun _ => ?_)
    refine g9_isWord_18 ?_
    refine c9_in ?_
    by_cases h2 : 5 ≤ w ∧ w ≤ 20
    · rw [if_pos h2]
      refine g9_isWord_29 (fun c => by exfalso; omega) (fun _ => ?_)
      refine g9_isWord_32 (by omega) (by omega) (fun c => no (by omega)) (fun c => ?_)
      exact g9_isWord_44 (by omega) (by omega) (fun c => no (by omega)) (fun c => yes (by omega))
    · rw [if_neg h2]
      exact g9_isWord_29 (fun _ => no (by omega)) (fun c => by exfalso; omega)
def mn (kind a at_ x : Int) : Int := if kind = 1 then (if at_ = 8 ∨ x < at_ then 8 else x) else if kind = 2 then (if at_ = 9 ∨ x = a then 9 else 0) else if kind = 3 then (at_ + 1) % a else if kind = 4 then (if at_ = 8 ∨ x = a then 8 else 0) else if kind = 5 then (if at_ ≠ 0 then at_ else if x = a then 9 else 8) else if kind = 6 then (if x = a then 9 else 0) else if kind = 7 then (if at_ = 8 ∨ at_ = x + 1 then 8 else x + 1) else 0
def mh (kind at_ : Int) : Int := if kind = 2 ∨ kind = 5 ∨ kind = 6 then (if at_ = 9 then 1 else 0) else if kind = 3 then (if at_ = 0 then 1 else 0) else if at_ = 8 then 0 else 1

theorem c9_leads {M : am_M} {Q : Option am_V → am_M → Prop} {kind a at_ x : Int} (ha : kind = 3 → 0 < a) (hr : 0 ≤ at_ ∧ at_ < 100) (hx : 0 ≤ x ∧ x < 4) (k : Q (some (vi (mn kind a at_ x))) M) : am_CallN m9_leads [vr 86, vi kind, vi a, vi at_, vi x] KS M Q := by
  refine am_callN_of (by decide +kernel) rfl rfl (Nat.le_of_ble_eq_true rfl) ?_
  refine g9_leads_0 (fun c1 => ?_) (fun c2 => ?_) (fun c3 => ?_) (fun c4 => ?_) (fun c5 => ?_) (fun c6 => ?_) (fun c7 => ?_) (fun c8 => ?_)
  · first
    | (exfalso; omega)
    | (refine g9_leads_167 ?_
       refine am_qv ?_ k
       unfold mn
       (repeat' split) <;> first | rfl | omega)
  · first
    | (exfalso; omega)
    | (refine g9_leads_44 (fun c9 => ?_) (fun c10 => ?_)
       · first
         | (exfalso; omega)
         | (refine g9_leads_56 ?_
            refine g9_leads_63 ?_
            refine am_qv ?_ k
            unfold mn
            (repeat' split) <;> first | rfl | omega)
       · first
         | (exfalso; omega)
         | (refine g9_leads_50 (fun c11 => ?_) (fun c12 => ?_)
            · first
              | (exfalso; omega)
              | (refine g9_leads_61 ?_
                 refine g9_leads_63 ?_
                 refine am_qv ?_ k
                 unfold mn
                 (repeat' split) <;> first | rfl | omega)
            · first
              | (exfalso; omega)
              | (refine g9_leads_56 ?_
                 refine g9_leads_63 ?_
                 refine am_qv ?_ k
                 unfold mn
                 (repeat' split) <;> first | rfl | omega)))
  · first
    | (exfalso; omega)
    | (refine g9_leads_64 (fun c13 => ?_) (fun c14 => ?_)
       · first
         | (exfalso; omega)
         | (refine g9_leads_76 ?_
            refine g9_leads_82 ?_
            refine am_qv ?_ k
            unfold mn
            (repeat' split) <;> first | rfl | omega)
       · first
         | (exfalso; omega)
         | (refine g9_leads_70 (fun c15 => ?_) (fun c16 => ?_)
            · first
              | (exfalso; omega)
              | (refine g9_leads_81 ?_
                 refine g9_leads_82 ?_
                 refine am_qv ?_ k
                 unfold mn
                 (repeat' split) <;> first | rfl | omega)
            · first
              | (exfalso; omega)
              | (refine g9_leads_76 ?_
                 refine g9_leads_82 ?_
                 refine am_qv ?_ k
                 unfold mn
                 (repeat' split) <;> first | rfl | omega)))
  · first
    | (exfalso; omega)
    | (refine g9_leads_83 (by first | assumption | omega | exact ha (by omega)) (by first | assumption | omega | exact ha (by omega)) (by first | assumption | omega | exact ha (by omega)) ?_
       refine am_qv ?_ k
       unfold mn
       (repeat' split) <;> first | rfl | omega)
  · first
    | (exfalso; omega)
    | (refine g9_leads_89 (fun c17 => ?_) (fun c18 => ?_)
       · first
         | (exfalso; omega)
         | (refine g9_leads_101 ?_
            refine g9_leads_107 ?_
            refine am_qv ?_ k
            unfold mn
            (repeat' split) <;> first | rfl | omega)
       · first
         | (exfalso; omega)
         | (refine g9_leads_95 (fun c19 => ?_) (fun c20 => ?_)
            · first
              | (exfalso; omega)
              | (refine g9_leads_106 ?_
                 refine g9_leads_107 ?_
                 refine am_qv ?_ k
                 unfold mn
                 (repeat' split) <;> first | rfl | omega)
            · first
              | (exfalso; omega)
              | (refine g9_leads_101 ?_
                 refine g9_leads_107 ?_
                 refine am_qv ?_ k
                 unfold mn
                 (repeat' split) <;> first | rfl | omega)))
  · first
    | (exfalso; omega)
    | (refine g9_leads_108 (fun c21 => ?_) (fun c22 => ?_)
       · first
         | (exfalso; omega)
         | (refine g9_leads_116 (fun c23 => ?_) (fun c24 => ?_)
            · first
              | (exfalso; omega)
              | (refine g9_leads_127 ?_
                 refine g9_leads_129 ?_
                 refine am_qv ?_ k
                 unfold mn
                 (repeat' split) <;> first | rfl | omega)
            · first
              | (exfalso; omega)
              | (refine g9_leads_122 ?_
                 refine g9_leads_129 ?_
                 refine am_qv ?_ k
                 unfold mn
                 (repeat' split) <;> first | rfl | omega))
       · first
         | (exfalso; omega)
         | (refine g9_leads_112 ?_
            refine g9_leads_129 ?_
            refine am_qv ?_ k
            unfold mn
            (repeat' split) <;> first | rfl | omega))
  · first
    | (exfalso; omega)
    | (refine g9_leads_130 (fun c25 => ?_) (fun c26 => ?_)
       · first
         | (exfalso; omega)
         | (refine g9_leads_141 ?_
            refine g9_leads_142 ?_
            refine am_qv ?_ k
            unfold mn
            (repeat' split) <;> first | rfl | omega)
       · first
         | (exfalso; omega)
         | (refine g9_leads_136 ?_
            refine g9_leads_142 ?_
            refine am_qv ?_ k
            unfold mn
            (repeat' split) <;> first | rfl | omega))
  · first
    | (exfalso; omega)
    | (refine g9_leads_143 (fun c27 => ?_) (fun c28 => ?_)
       · first
         | (exfalso; omega)
         | (refine g9_leads_157 ?_
            refine g9_leads_166 ?_
            refine am_qv ?_ k
            unfold mn
            (repeat' split) <;> first | rfl | omega)
       · first
         | (exfalso; omega)
         | (refine g9_leads_149 (by first | assumption | omega | exact ha (by omega)) (fun c29 => ?_) (fun c30 => ?_)
            · first
              | (exfalso; omega)
              | (refine g9_leads_162 (by first | assumption | omega | exact ha (by omega)) ?_
                 refine g9_leads_166 ?_
                 refine am_qv ?_ k
                 unfold mn
                 (repeat' split) <;> first | rfl | omega)
            · first
              | (exfalso; omega)
              | (refine g9_leads_157 ?_
                 refine g9_leads_166 ?_
                 refine am_qv ?_ k
                 unfold mn
                 (repeat' split) <;> first | rfl | omega)))

theorem c9_isSoAt {K : am_K} {M : am_M} {Q : Option am_V → am_M → Prop} {kind at_ : Int} (k : Q (some (vi (mh kind at_))) M) : am_CallN m9_isSoAt [vi kind, vi at_] K M Q := by
  refine am_callN_of (by decide +kernel) rfl rfl (Nat.le_of_ble_eq_true rfl) ?_
  refine g9_isSoAt_0 (fun c1 => ?_) (fun c2 => ?_)
  · first
    | (exfalso; omega)
    | (refine g9_isSoAt_16 ?_
       refine g9_isSoAt_21 (fun c3 => ?_) (fun c4 => ?_)
       · first
         | (exfalso; omega)
         | (refine g9_isSoAt_40 (fun c5 => ?_) (fun c6 => ?_)
            · first
              | (exfalso; omega)
              | (refine g9_isSoAt_57 (fun c7 => ?_) (fun c8 => ?_)
                 · first
                   | (exfalso; omega)
                   | (refine g9_isSoAt_67 ?_
                      refine g9_isSoAt_68 (by first | assumption | omega) ?_
                      refine am_qv ?_ k
                      unfold mh
                      (repeat' split) <;> omega)
                 · first
                   | (exfalso; omega)
                   | (refine g9_isSoAt_63 ?_
                      refine g9_isSoAt_68 (by first | assumption | omega) ?_
                      refine am_qv ?_ k
                      unfold mh
                      (repeat' split) <;> omega))
            · first
              | (exfalso; omega)
              | (refine g9_isSoAt_45 (fun c9 => ?_) (fun c10 => ?_)
                 · first
                   | (exfalso; omega)
                   | (refine g9_isSoAt_53 ?_
                      refine g9_isSoAt_68 (by first | assumption | omega) ?_
                      refine am_qv ?_ k
                      unfold mh
                      (repeat' split) <;> omega)
                 · first
                   | (exfalso; omega)
                   | (refine g9_isSoAt_49 ?_
                      refine g9_isSoAt_68 (by first | assumption | omega) ?_
                      refine am_qv ?_ k
                      unfold mh
                      (repeat' split) <;> omega)))
       · first
         | (exfalso; omega)
         | (refine g9_isSoAt_26 (fun c11 => ?_) (fun c12 => ?_)
            · first
              | (exfalso; omega)
              | (refine g9_isSoAt_36 ?_
                 refine g9_isSoAt_68 (by first | assumption | omega) ?_
                 refine am_qv ?_ k
                 unfold mh
                 (repeat' split) <;> omega)
            · first
              | (exfalso; omega)
              | (refine g9_isSoAt_32 ?_
                 refine g9_isSoAt_68 (by first | assumption | omega) ?_
                 refine am_qv ?_ k
                 unfold mh
                 (repeat' split) <;> omega)))
  · first
    | (exfalso; omega)
    | (refine g9_isSoAt_5 (fun c13 => ?_) (fun c14 => ?_)
       · first
         | (exfalso; omega)
         | (refine g9_isSoAt_16 ?_
            refine g9_isSoAt_21 (fun c15 => ?_) (fun c16 => ?_)
            · first
              | (exfalso; omega)
              | (refine g9_isSoAt_40 (fun c17 => ?_) (fun c18 => ?_)
                 · first
                   | (exfalso; omega)
                   | (refine g9_isSoAt_57 (fun c19 => ?_) (fun c20 => ?_)
                      · first
                        | (exfalso; omega)
                        | (refine g9_isSoAt_67 ?_
                           refine g9_isSoAt_68 (by first | assumption | omega) ?_
                           refine am_qv ?_ k
                           unfold mh
                           (repeat' split) <;> omega)
                      · first
                        | (exfalso; omega)
                        | (refine g9_isSoAt_63 ?_
                           refine g9_isSoAt_68 (by first | assumption | omega) ?_
                           refine am_qv ?_ k
                           unfold mh
                           (repeat' split) <;> omega))
                 · first
                   | (exfalso; omega)
                   | (refine g9_isSoAt_45 (fun c21 => ?_) (fun c22 => ?_)
                      · first
                        | (exfalso; omega)
                        | (refine g9_isSoAt_53 ?_
                           refine g9_isSoAt_68 (by first | assumption | omega) ?_
                           refine am_qv ?_ k
                           unfold mh
                           (repeat' split) <;> omega)
                      · first
                        | (exfalso; omega)
                        | (refine g9_isSoAt_49 ?_
                           refine g9_isSoAt_68 (by first | assumption | omega) ?_
                           refine am_qv ?_ k
                           unfold mh
                           (repeat' split) <;> omega)))
            · first
              | (exfalso; omega)
              | (refine g9_isSoAt_26 (fun c23 => ?_) (fun c24 => ?_)
                 · first
                   | (exfalso; omega)
                   | (refine g9_isSoAt_36 ?_
                      refine g9_isSoAt_68 (by first | assumption | omega) ?_
                      refine am_qv ?_ k
                      unfold mh
                      (repeat' split) <;> omega)
                 · first
                   | (exfalso; omega)
                   | (refine g9_isSoAt_32 ?_
                      refine g9_isSoAt_68 (by first | assumption | omega) ?_
                      refine am_qv ?_ k
                      unfold mh
                      (repeat' split) <;> omega)))
       · first
         | (exfalso; omega)
         | (refine g9_isSoAt_10 (fun c25 => ?_) (fun c26 => ?_)
            · first
              | (exfalso; omega)
              | (refine g9_isSoAt_20 ?_
                 refine g9_isSoAt_21 (fun c27 => ?_) (fun c28 => ?_)
                 · first
                   | (exfalso; omega)
                   | (refine g9_isSoAt_40 (fun c29 => ?_) (fun c30 => ?_)
                      · first
                        | (exfalso; omega)
                        | (refine g9_isSoAt_57 (fun c31 => ?_) (fun c32 => ?_)
                           · first
                             | (exfalso; omega)
                             | (refine g9_isSoAt_67 ?_
                                refine g9_isSoAt_68 (by first | assumption | omega) ?_
                                refine am_qv ?_ k
                                unfold mh
                                (repeat' split) <;> omega)
                           · first
                             | (exfalso; omega)
                             | (refine g9_isSoAt_63 ?_
                                refine g9_isSoAt_68 (by first | assumption | omega) ?_
                                refine am_qv ?_ k
                                unfold mh
                                (repeat' split) <;> omega))
                      · first
                        | (exfalso; omega)
                        | (refine g9_isSoAt_45 (fun c33 => ?_) (fun c34 => ?_)
                           · first
                             | (exfalso; omega)
                             | (refine g9_isSoAt_53 ?_
                                refine g9_isSoAt_68 (by first | assumption | omega) ?_
                                refine am_qv ?_ k
                                unfold mh
                                (repeat' split) <;> omega)
                           · first
                             | (exfalso; omega)
                             | (refine g9_isSoAt_49 ?_
                                refine g9_isSoAt_68 (by first | assumption | omega) ?_
                                refine am_qv ?_ k
                                unfold mh
                                (repeat' split) <;> omega)))
                 · first
                   | (exfalso; omega)
                   | (refine g9_isSoAt_26 (fun c35 => ?_) (fun c36 => ?_)
                      · first
                        | (exfalso; omega)
                        | (refine g9_isSoAt_36 ?_
                           refine g9_isSoAt_68 (by first | assumption | omega) ?_
                           refine am_qv ?_ k
                           unfold mh
                           (repeat' split) <;> omega)
                      · first
                        | (exfalso; omega)
                        | (refine g9_isSoAt_32 ?_
                           refine g9_isSoAt_68 (by first | assumption | omega) ?_
                           refine am_qv ?_ k
                           unfold mh
                           (repeat' split) <;> omega)))
            · first
              | (exfalso; omega)
              | (refine g9_isSoAt_16 ?_
                 refine g9_isSoAt_21 (fun c37 => ?_) (fun c38 => ?_)
                 · first
                   | (exfalso; omega)
                   | (refine g9_isSoAt_40 (fun c39 => ?_) (fun c40 => ?_)
                      · first
                        | (exfalso; omega)
                        | (refine g9_isSoAt_57 (fun c41 => ?_) (fun c42 => ?_)
                           · first
                             | (exfalso; omega)
                             | (refine g9_isSoAt_67 ?_
                                refine g9_isSoAt_68 (by first | assumption | omega) ?_
                                refine am_qv ?_ k
                                unfold mh
                                (repeat' split) <;> omega)
                           · first
                             | (exfalso; omega)
                             | (refine g9_isSoAt_63 ?_
                                refine g9_isSoAt_68 (by first | assumption | omega) ?_
                                refine am_qv ?_ k
                                unfold mh
                                (repeat' split) <;> omega))
                      · first
                        | (exfalso; omega)
                        | (refine g9_isSoAt_45 (fun c43 => ?_) (fun c44 => ?_)
                           · first
                             | (exfalso; omega)
                             | (refine g9_isSoAt_53 ?_
                                refine g9_isSoAt_68 (by first | assumption | omega) ?_
                                refine am_qv ?_ k
                                unfold mh
                                (repeat' split) <;> omega)
                           · first
                             | (exfalso; omega)
                             | (refine g9_isSoAt_49 ?_
                                refine g9_isSoAt_68 (by first | assumption | omega) ?_
                                refine am_qv ?_ k
                                unfold mh
                                (repeat' split) <;> omega)))
                 · first
                   | (exfalso; omega)
                   | (refine g9_isSoAt_26 (fun c45 => ?_) (fun c46 => ?_)
                      · first
                        | (exfalso; omega)
                        | (refine g9_isSoAt_36 ?_
                           refine g9_isSoAt_68 (by first | assumption | omega) ?_
                           refine am_qv ?_ k
                           unfold mh
                           (repeat' split) <;> omega)
                      · first
                        | (exfalso; omega)
                        | (refine g9_isSoAt_32 ?_
                           refine g9_isSoAt_68 (by first | assumption | omega) ?_
                           refine am_qv ?_ k
                           unfold mh
                           (repeat' split) <;> omega)))))
