/-! ===== letters that stay: the class ===== -/
theorem tmi_eq {w l : Int} (hw : 0 ≤ w) : tmi w l = if w < 1 then 0 else if w < 5 then (if wlet w 0 = l then 1 else 0) else (if wlet w 0 = l then 1 else 0) + (if wlet w (0 + 1) = l then 1 else 0) := by
  unfold tmi wlet
  by_cases h1 : w < 1
  · rw [if_pos h1, if_pos h1]
  · rw [if_neg h1, if_neg h1]
    by_cases h5 : w < 5
    · rw [if_pos h5, if_pos h5, if_pos h5]
    · rw [if_neg h5, if_neg h5, if_neg h5, if_pos rfl, if_neg h5, if_neg (show ¬ (0 : Int) + 1 = 0 by omega)]
section
variable {K : am_K} {M : am_M} {Q : Option am_V → am_M → Prop}
theorem n8_timesIn {w l t i : Int} (hw : 0 ≤ w ∧ w ≤ 20) (hi : 0 ≤ i ∧ i < wlen w) (hi2 : i < 3) (ht : 0 ≤ t ∧ t < 100) (k : am_AtN m8_timesIn 4 [some (vi w), some (vi l), some (vi (t + (if wlet w i = l then 1 else 0))), some (vi (i + 1))] [] K M Q) : am_AtN m8_timesIn 4 [some (vi w), some (vi l), some (vi t), some (vi i)] [] K M Q := by
  refine g8_timesIn_4 ?_
  refine c8_wordLength ?_
  refine g8_timesIn_9 (fun c => by exfalso; omega) (fun _ => ?_)
  refine g8_timesIn_12 ?_
  refine c8_wordLetter hw ?_
  refine g8_timesIn_17 (fun c => ?_) (fun c => ?_)
  · rw [if_neg c, Int.add_zero] at k
    exact g8_timesIn_24 (by omega) k
  · rw [if_pos c] at k
    exact g8_timesIn_21 (by omega) (g8_timesIn_24 (by omega) k)
theorem z8_timesIn {w l t i : Int} (hi : wlen w ≤ i) (k : Q (some (vi t)) M) : am_AtN m8_timesIn 4 [some (vi w), some (vi l), some (vi t), some (vi i)] [] K M Q := by
  refine g8_timesIn_4 ?_
  refine c8_wordLength ?_
  refine g8_timesIn_9 (fun _ => ?_) (fun c => by exfalso; omega)
  exact g8_timesIn_30 k
theorem c8_timesIn {w l : Int} (hw : 0 ≤ w ∧ w ≤ 20) (k : Q (some (vi (tmi w l))) M) : am_CallN m8_timesIn [vi w, vi l] K M Q := by
  refine am_callN_of (by decide +kernel) rfl rfl (Nat.le_of_ble_eq_true rfl) ?_
  refine g8_timesIn_0 ?_
  rw [tmi_eq hw.1] at k
  by_cases h1 : w < 1
  · have hl : wlen w = 0 := by unfold wlen; rw [if_pos h1]
    rw [if_pos h1] at k
    exact z8_timesIn (by omega) k
  · rw [if_neg h1] at k
    by_cases h5 : w < 5
    · have hl : wlen w = 1 := by unfold wlen; rw [if_neg h1, if_pos h5]
      rw [if_pos h5] at k
      refine n8_timesIn hw (by omega) (by omega) (by omega) ?_
      refine z8_timesIn (by omega) ?_
      rw [Int.zero_add]
      exact k
    · have hl : wlen w = 2 := by unfold wlen; rw [if_neg h1, if_neg h5]
      rw [if_neg h5] at k
      refine n8_timesIn hw (by omega) (by omega) (by omega) ?_
      refine n8_timesIn hw (by omega) (by omega) (by split <;> omega) ?_
      refine z8_timesIn (by omega) ?_
      rw [Int.zero_add]
      exact k
end
section
variable {M : am_M} {Q : Option am_V → am_M → Prop}
theorem c1_endsUneven {o p w l ov : Int} {A : Sn} (h : isS M o A) (hp : 0 ≤ p ∧ p < 6) (hw : w = -1 ∨ (0 ≤ w ∧ w ≤ 20)) (hov : -1000 ≤ ov ∧ ov ≤ 1000) (k1 : A.2 p = 1 → w ≠ -1 → ov + tmi w l ≠ 0 → Q (some (vi 1)) M) (k0 : ¬ (A.2 p = 1 ∧ w ≠ -1 ∧ ov + tmi w l ≠ 0) → Q (some (vi 0)) M) : am_CallN m1_endsUneven [vr o, vi p, vi w, vi l, vi ov] KS M Q := by
  obtain ⟨r, kd⟩ := h.kd
  refine am_callN_of (by decide +kernel) rfl rfl (Nat.le_of_ble_eq_true rfl) ?_
  refine g1_endsUneven_0 kd ?_
  refine q6_holdsAt h hp ?_
  by_cases e1 : A.2 p = 1
  · rw [if_pos e1]
    refine g1_endsUneven_5 (fun c => by exfalso; omega) (fun _ => ?_)
    refine g1_endsUneven_8 (fun c => ?_) (fun c => ?_)
    · refine g1_endsUneven_28 ?_
      exact g1_endsUneven_29 (by omega) (k0 (fun h => h.2.1 c))
    · refine g1_endsUneven_13 ?_
      refine c8_timesIn (by omega) ?_
      have ht := tmi_rng w l
      refine g1_endsUneven_20 (by omega) (fun c2 => ?_) (fun c2 => ?_)
      · refine g1_endsUneven_28 ?_
        exact g1_endsUneven_29 (by omega) (k0 (fun h => h.2.2 c2))
      · refine g1_endsUneven_24 ?_
        exact g1_endsUneven_29 (by omega) (k1 e1 c c2)
  · rw [if_neg e1]
    refine g1_endsUneven_5 (fun _ => ?_) (fun c => by exfalso; omega)
    refine g1_endsUneven_28 ?_
    exact g1_endsUneven_29 (by omega) (k0 (fun h => e1 h.1))
def RB (M : am_M) (q : List Nd) : Prop := M 69 5 = q.length ∧ (∀ (j : Nat) (e : Nd), q[j]? = some e → M 72 j = e.1 ∧ M 73 j = e.2.1 ∧ M 74 j = e.2.2) ∧ ∀ st : Int, 0 ≤ st ∧ st < 36 → M 70 st = cn q st ∧ (1 ≤ cn q st → M 71 st = fov q st)
def fB (M M' : am_M) : Prop := ∀ b j : Int, b ≠ 70 → b ≠ 71 → b ≠ 72 → b ≠ 73 → b ≠ 74 → (b ≠ 69 ∨ j ≠ 5) → M' b j = M b j
theorem fB.rf {M : am_M} : fB M M := fun _ _ _ _ _ _ _ _ => rfl
theorem fB.tr {M M' M'' : am_M} (h : fB M M') (h' : fB M' M'') : fB M M'' := fun b j h1 h2 h3 h4 h5 h6 => (h' b j h1 h2 h3 h4 h5 h6).trans (h b j h1 h2 h3 h4 h5 h6)
theorem fB.tab {M M' : am_M} (h : fB M M') : ∀ a j : Int, tab a → M' a j = M a j := fun a j ht => by
  have := tab_ne ht
  exact h a j (by omega) (by omega) (by omega) (by omega) (by omega) (Or.inl (by omega))
def ku (M : am_M) (c n st ov L : Int) : am_M := am_up (am_up (am_up (am_up (am_up M 70 st (c + 1)) 72 n st) 73 n ov) 74 n L) 69 5 (n + 1)
theorem n1_keep {n c st ov L : Int} (hst : 0 ≤ st ∧ st < 36) (hl : 0 ≤ n ∧ n < 72) (h5 : M 69 5 = n) (h70 : M 70 st = c) (hc : 0 ≤ c ∧ c < 2) (k : Q none (ku M c n st ov L)) : am_AtN m1_keep 62 [some (vr 69), some (vi st), some (vi ov), some (vi L)] [] KS M Q := by
  have f1 : am_up M 70 st (M 70 st + 1) 69 5 = n := by rw [am_upn (Or.inl (by omega)), h5]
  have f2 : am_up (am_up M 70 st (M 70 st + 1)) 72 (am_up M 70 st (M 70 st + 1) 69 5) st 69 5 = n := by rw [am_upn (Or.inl (by omega)), f1]
  have f3 : am_up (am_up (am_up M 70 st (M 70 st + 1)) 72 (am_up M 70 st (M 70 st + 1) 69 5) st) 73 (am_up (am_up M 70 st (M 70 st + 1)) 72 (am_up M 70 st (M 70 st + 1) 69 5) st 69 5) ov 69 5 = n := by rw [am_upn (Or.inl (by omega)), f2]
  have f4 : am_up (am_up (am_up (am_up M 70 st (M 70 st + 1)) 72 (am_up M 70 st (M 70 st + 1) 69 5) st) 73 (am_up (am_up M 70 st (M 70 st + 1)) 72 (am_up M 70 st (M 70 st + 1) 69 5) st 69 5) ov) 74 (am_up (am_up (am_up M 70 st (M 70 st + 1)) 72 (am_up M 70 st (M 70 st + 1) 69 5) st) 73 (am_up (am_up M 70 st (M 70 st + 1)) 72 (am_up M 70 st (M 70 st + 1) 69 5) st 69 5) ov 69 5) L 69 5 = n := by rw [am_upn (Or.inl (by omega)), f3]
  refine g1_keep_62 hst.1 hst.2 (by omega) hst.1 hst.2 (by rw [f1]; omega) (by rw [f1]; omega) (by rw [f2]; omega) (by rw [f2]; omega) (by rw [f3]; omega) (by rw [f3]; omega) (by rw [f4]; omega) ?_
  rw [f4, f3, f2, f1, h70]
  exact k
theorem RB_ku {M M0 : am_M} {q : List Nd} {st ov L : Int} (hR : RB M0 q) (hst : 0 ≤ st ∧ st < 36) (h71 : M 71 st = if cn q st = 0 then ov else fov q st) (hE : ∀ b j : Int, (b ≠ 71 ∨ j ≠ st) → M b j = M0 b j) : RB (ku M (cn q st) q.length st ov L) (q ++ [(st, ov, L)]) := by
  unfold ku
  refine ⟨by rw [am_up_hit]; simp, fun j e he => ?_, fun s hs => ?_⟩
  · by_cases hj : j < q.length
    · rw [List.getElem?_append_left hj] at he
      have h := hR.2.1 j e he
      rw [am_upn (Or.inl (by omega)), am_upn (Or.inl (by omega)), am_upn (Or.inl (by omega)), am_upn (Or.inr (by omega)), am_upn (Or.inl (by omega)), am_upn (Or.inl (by omega)), am_upn (Or.inl (by omega)), am_upn (Or.inr (by omega)), am_upn (Or.inl (by omega)), am_upn (Or.inl (by omega)), am_upn (Or.inl (by omega)), am_upn (Or.inr (by omega)), am_upn (Or.inl (by omega)), am_upn (Or.inl (by omega)), am_upn (Or.inl (by omega)), hE _ _ (Or.inl (by omega)), hE _ _ (Or.inl (by omega)), hE _ _ (Or.inl (by omega))]
      exact h
    · have hj2 : j < (q ++ [(st, ov, L)]).length := (List.getElem?_eq_some_iff.mp he).1
      simp at hj2
      have : j = q.length := by omega
      subst this
      simp at he
      subst he
      refine ⟨?_, ?_, ?_⟩
      · rw [am_upn (Or.inl (by omega)), am_upn (Or.inl (by omega)), am_upn (Or.inl (by omega)), am_up_hit]
      · rw [am_upn (Or.inl (by omega)), am_upn (Or.inl (by omega)), am_up_hit]
      · rw [am_upn (Or.inl (by omega)), am_up_hit]
  · have h := hR.2.2 s hs
    have hn := cn_nn (st := s) q
    rw [cn_app, fov_app]
    refine ⟨?_, fun _ => ?_⟩
    · rw [am_upn (Or.inl (by omega)), am_upn (Or.inl (by omega)), am_upn (Or.inl (by omega)), am_upn (Or.inl (by omega))]
      by_cases e : st = s
      · subst e
        rw [am_up_hit, if_pos rfl]
      · rw [am_upn (Or.inr (by omega)), hE _ _ (Or.inl (by omega)), if_neg e, h.1]
        omega
    · rw [am_upn (Or.inl (by omega)), am_upn (Or.inl (by omega)), am_upn (Or.inl (by omega)), am_upn (Or.inl (by omega)), am_upn (Or.inl (by omega))]
      by_cases e : st = s
      · subst e
        rw [h71]
        by_cases h0 : cn q st = 0
        · rw [if_pos h0, if_pos h0, if_pos rfl]
        · rw [if_neg h0, if_neg h0]
      · rw [hE _ _ (Or.inr (by omega))]
        rename_i hc
        rw [if_neg (show ¬ (st, ov, L).1 = s from e)] at hc
        rw [if_neg (show ¬ cn q s = 0 by omega), h.2 (by omega)]
theorem fB_ku {M M0 : am_M} {c n st ov L : Int} (hE : ∀ b j : Int, (b ≠ 71 ∨ j ≠ st) → M b j = M0 b j) : fB M0 (ku M c n st ov L) := by
  intro b j h1 h2 h3 h4 h5 h6
  unfold ku
  rw [am_upn (by omega), am_upn (Or.inl h5), am_upn (Or.inl h4), am_upn (Or.inl h3), am_upn (Or.inl h1)]
  exact hE b j (Or.inl h2)
theorem c1_keep {q : List Nd} {st ov L : Int} (hR : RB M q) (hst : 0 ≤ st ∧ st < 36) (hl : ¬ 2 ≤ cn q st → ¬ (cn q st = 1 ∧ fov q st = ov) → (q.length : Int) < 72) (hl2 : (q.length : Int) ≤ 72) (k : ∀ M', RB M' (ky q (st, ov, L)) → fB M M' → Q none M') : am_CallN m1_keep [vr 69, vi st, vi ov, vi L] KS M Q := by
  have hc := hR.2.2 st hst
  have hn := cn_nn (st := st) q
  have e0 := hR.1
  refine am_callN_of (by decide +kernel) rfl rfl (Nat.le_of_ble_eq_true rfl) ?_
  refine g1_keep_0 ?_
  refine c8_in hst ?_
  refine g1_keep_6 (fun c => by exfalso; omega) (fun _ => ?_)
  refine g1_keep_9 ?_
  by_cases hfull : (q.length : Int) < 72
  · refine c8_in (by omega) ?_
    refine g1_keep_18 (fun c => by exfalso; omega) (fun _ => ?_)
    refine g1_keep_21 hst.1 hst.2 (fun c => ?_) (fun c => ?_)
    · rw [hc.1] at c
      refine g1_keep_32 hst.1 hst.2 (fun c0 => ?_) (fun c0 => ?_)
      · rw [hc.1] at c0
        have h71 := hc.2 (by omega)
        refine g1_keep_51 hst.1 hst.2 (fun c1 => ?_) (fun c1 => ?_)
        · rw [h71] at c1
          refine n1_keep hst (by omega) e0 hc.1 (by omega) (k _ ?_ (fB_ku (fun _ _ _ => rfl)))
          unfold ky
          rw [if_neg (by show ¬ 2 ≤ cn q st; omega), if_neg (by show ¬ (cn q st = 1 ∧ fov q st = ov); exact fun h => c1 h.2)]
          exact RB_ku hR hst (by rw [if_neg c0]; exact h71) (fun _ _ _ => rfl)
        · rw [h71] at c1
          refine g1_keep_61 (k _ ?_ fB.rf)
          unfold ky
          rw [if_neg (by show ¬ 2 ≤ cn q st; omega), if_pos (by show cn q st = 1 ∧ fov q st = ov; exact ⟨by omega, c1⟩)]
          exact hR
      · rw [hc.1] at c0
        refine g1_keep_41 hst.1 hst.2 ?_
        have hE : ∀ b j : Int, (b ≠ 71 ∨ j ≠ st) → am_up M 71 st ov b j = M b j := fun b j h => am_upn h
        refine n1_keep (n := q.length) (c := cn q st) hst (by omega) (by rw [hE _ _ (Or.inl (by omega))]; exact e0) (by rw [hE _ _ (Or.inl (by omega))]; exact hc.1) (by omega) (k _ ?_ (fB_ku hE))
        unfold ky
        rw [if_neg (by show ¬ 2 ≤ cn q st; omega), if_neg (by show ¬ (cn q st = 1 ∧ fov q st = ov); exact fun h => by omega)]
        exact RB_ku hR hst (by rw [if_pos c0, am_up_hit]) hE
    · rw [hc.1] at c
      refine g1_keep_31 (k _ ?_ fB.rf)
      unfold ky
      rw [if_pos (by show 2 ≤ cn q st; omega)]
      exact hR
  · refine c8_out (by omega) ?_
    refine g1_keep_18 (fun _ => ?_) (fun c => by exfalso; omega)
    refine g1_keep_31 (k _ ?_ fB.rf)
    unfold ky
    by_cases h2 : 2 ≤ cn q st
    · rw [if_pos (show 2 ≤ cn q (st, ov, L).1 from h2)]
      exact hR
    · rw [if_neg (show ¬ 2 ≤ cn q (st, ov, L).1 from h2)]
      by_cases h1 : cn q st = 1 ∧ fov q st = ov
      · rw [if_pos (show cn q (st, ov, L).1 = 1 ∧ fov q (st, ov, L).1 = (st, ov, L).2.1 from h1)]
        exact hR
      · exact absurd (hl h2 h1) hfull
end
