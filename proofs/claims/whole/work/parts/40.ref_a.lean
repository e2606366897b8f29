/-! ===== the reference: helpers, words, claims ===== -/

theorem c9_in {K : am_K} {M : am_M} {Q : Option am_V → am_M → Prop} {a b c : Int} (k : Q (some (vi (if b ≤ a ∧ a ≤ c then 1 else 0))) M) : am_CallN m9_in [vl a, vl b, vl c] K M Q := by
  refine am_callN_of (by decide +kernel) rfl rfl (Nat.le_of_ble_eq_true rfl) ?_
  refine g9_in_0 (fun c1 => ?_) (fun c2 => ?_)
  · first
    | (exfalso; omega)
    | (refine g9_in_17 ?_
       refine g9_in_18 (by first | assumption | omega) ?_
       exact am_qv (by (repeat' split) <;> omega) k)
  · first
    | (exfalso; omega)
    | (refine g9_in_6 (fun c3 => ?_) (fun c4 => ?_)
       · first
         | (exfalso; omega)
         | (refine g9_in_17 ?_
            refine g9_in_18 (by first | assumption | omega) ?_
            exact am_qv (by (repeat' split) <;> omega) k)
       · first
         | (exfalso; omega)
         | (refine g9_in_13 ?_
            refine g9_in_18 (by first | assumption | omega) ?_
            exact am_qv (by (repeat' split) <;> omega) k))

theorem c9_noSentence {K : am_K} {M : am_M} {Q : Option am_V → am_M → Prop} {a : Int} (k : Q (some (vi (if 0 ≤ a ∧ a ≤ 7 then 0 else 1))) M) : am_CallN m9_noSentence [vi a] K M Q := by
  refine am_callN_of (by decide +kernel) rfl rfl (Nat.le_of_ble_eq_true rfl) ?_
  refine g9_noSentence_0 ?_
  refine c9_in ?_
  by_cases h : 0 ≤ a ∧ a ≤ 7
  · rw [if_pos h] at k ⊢
    refine g9_noSentence_9 (fun _ => ?_) (fun c => by exfalso; omega)
    refine g9_noSentence_16 ?_
    exact g9_noSentence_17 (by omega) k
  · rw [if_neg h] at k ⊢
    refine g9_noSentence_9 (fun c => by exfalso; omega) (fun _ => ?_)
    refine g9_noSentence_12 ?_
    exact g9_noSentence_17 (by omega) k

theorem c9_noPoint {K : am_K} {M : am_M} {Q : Option am_V → am_M → Prop} {a : Int} (k : Q (some (vi (if 0 ≤ a ∧ a ≤ 5 then 0 else 1))) M) : am_CallN m9_noPoint [vi a] K M Q := by
  refine am_callN_of (by decide +kernel) rfl rfl (Nat.le_of_ble_eq_true rfl) ?_
  refine g9_noPoint_0 ?_
  refine c9_in ?_
  by_cases h : 0 ≤ a ∧ a ≤ 5
  · rw [if_pos h] at k ⊢
    refine g9_noPoint_9 (fun _ => ?_) (fun c => by exfalso; omega)
    refine g9_noPoint_16 ?_
    exact g9_noPoint_17 (by omega) k
  · rw [if_neg h] at k ⊢
    refine g9_noPoint_9 (fun c => by exfalso; omega) (fun _ => ?_)
    refine g9_noPoint_12 ?_
    exact g9_noPoint_17 (by omega) k

theorem c9_noProgram {K : am_K} {M : am_M} {Q : Option am_V → am_M → Prop} {a : Int} (k : Q (some (vi (if 0 ≤ a ∧ a ≤ 3 then 0 else 1))) M) : am_CallN m9_noProgram [vi a] K M Q := by
  refine am_callN_of (by decide +kernel) rfl rfl (Nat.le_of_ble_eq_true rfl) ?_
  refine g9_noProgram_0 ?_
  refine c9_in ?_
  by_cases h : 0 ≤ a ∧ a ≤ 3
  · rw [if_pos h] at k ⊢
    refine g9_noProgram_9 (fun _ => ?_) (fun c => by exfalso; omega)
    refine g9_noProgram_16 ?_
    exact g9_noProgram_17 (by omega) k
  · rw [if_neg h] at k ⊢
    refine g9_noProgram_9 (fun c => by exfalso; omega) (fun _ => ?_)
    refine g9_noProgram_12 ?_
    exact g9_noProgram_17 (by omega) k

theorem c9_noLetter {M : am_M} {Q : Option am_V → am_M → Prop} {a : Int} (hk : 2 ≤ M 86 1 ∧ M 86 1 ≤ 4) (k : Q (some (vi (if 0 ≤ a ∧ a < M 86 1 then 0 else 1))) M) : am_CallN m9_noLetter [vr 86, vi a] KS M Q := by
  refine am_callN_of (by decide +kernel) rfl rfl (Nat.le_of_ble_eq_true rfl) ?_
  refine g9_noLetter_0 (by omega) ?_
  refine c9_in ?_
  by_cases h : 0 ≤ a ∧ a < M 86 1
  · rw [if_pos h] at k
    rw [if_pos (by omega)]
    refine g9_noLetter_13 (fun _ => ?_) (fun c => by exfalso; omega)
    refine g9_noLetter_20 ?_
    exact g9_noLetter_21 (by omega) k
  · rw [if_neg h] at k
    rw [if_neg (by omega)]
    refine g9_noLetter_13 (fun c => by exfalso; omega) (fun _ => ?_)
    refine g9_noLetter_16 ?_
    exact g9_noLetter_21 (by omega) k

theorem c9_noClaim {K : am_K} {M : am_M} {Q : Option am_V → am_M → Prop} {a p q b : Int} (k : Q (some (vi (if (0 ≤ a ∧ a ≤ 7) ∧ (0 ≤ p ∧ p ≤ 3) ∧ (-1 ≤ q ∧ q ≤ 3) ∧ (0 ≤ b ∧ b ≤ 7) then 0 else 1))) M) : am_CallN m9_noClaim [vi a, vi p, vi q, vi b] K M Q := by
  refine am_callN_of (by decide +kernel) rfl rfl (Nat.le_of_ble_eq_true rfl) ?_
  refine g9_noClaim_0 ?_
  refine c9_noSentence ?_
  refine g9_noClaim_4 (fun c1 => ?_) (fun c2 => ?_)
  · first
    | (exfalso; (first | omega | (split at * <;> omega)))
    | (refine g9_noClaim_35 ?_
       refine g9_noClaim_40 (by first | assumption | omega) ?_
       exact am_qv (by (repeat' (split at *)) <;> omega) k)
  · first
    | (exfalso; (first | omega | (split at * <;> omega)))
    | (refine g9_noClaim_7 ?_
       refine c9_noProgram ?_
       refine g9_noClaim_11 (fun c3 => ?_) (fun c4 => ?_)
       · first
         | (exfalso; (first | omega | (split at * <;> omega)))
         | (refine g9_noClaim_35 ?_
            refine g9_noClaim_40 (by first | assumption | omega) ?_
            exact am_qv (by (repeat' (split at *)) <;> omega) k)
       · first
         | (exfalso; (first | omega | (split at * <;> omega)))
         | (refine g9_noClaim_14 ?_
            refine c9_in ?_
            refine g9_noClaim_25 (fun c5 => ?_) (fun c6 => ?_)
            · first
              | (exfalso; (first | omega | (split at * <;> omega)))
              | (refine g9_noClaim_35 ?_
                 refine g9_noClaim_40 (by first | assumption | omega) ?_
                 exact am_qv (by (repeat' (split at *)) <;> omega) k)
            · first
              | (exfalso; (first | omega | (split at * <;> omega)))
              | (refine g9_noClaim_28 ?_
                 refine c9_noSentence ?_
                 refine g9_noClaim_32 (fun c7 => ?_) (fun c8 => ?_)
                 · first
                   | (exfalso; (first | omega | (split at * <;> omega)))
                   | (refine g9_noClaim_39 ?_
                      refine g9_noClaim_40 (by first | assumption | omega) ?_
                      exact am_qv (by (repeat' (split at *)) <;> omega) k)
                 · first
                   | (exfalso; (first | omega | (split at * <;> omega)))
                   | (refine g9_noClaim_35 ?_
                      refine g9_noClaim_40 (by first | assumption | omega) ?_
                      exact am_qv (by (repeat' (split at *)) <;> omega) k))))

theorem c9_longOf {K : am_K} {M : am_M} {Q : Option am_V → am_M → Prop} {w : Int} (hw : 0 ≤ w) (k : Q (some (vi (wlen w))) M) : am_CallN m9_longOf [vi w] K M Q := by
  refine am_callN_of (by decide +kernel) rfl rfl (Nat.le_of_ble_eq_true rfl) ?_
  refine g9_longOf_0 (fun c1 => ?_) (fun c2 => ?_)
  · first
    | (exfalso; omega)
    | (refine g9_longOf_8 (fun c3 => ?_) (fun c4 => ?_)
       · first
         | (exfalso; omega)
         | (refine g9_longOf_17 ?_
            refine g9_longOf_18 ?_
            exact am_qv (by unfold wlen; (repeat' split) <;> omega) k)
       · first
         | (exfalso; omega)
         | (refine g9_longOf_13 ?_
            refine g9_longOf_18 ?_
            exact am_qv (by unfold wlen; (repeat' split) <;> omega) k))
  · first
    | (exfalso; omega)
    | (refine g9_longOf_4 ?_
       refine g9_longOf_18 ?_
       exact am_qv (by unfold wlen; (repeat' split) <;> omega) k)

theorem c9_letterOf {K : am_K} {M : am_M} {Q : Option am_V → am_M → Prop} {w i : Int} (hw : 0 ≤ w ∧ w ≤ 20) (k : Q (some (vi (wlet w i))) M) : am_CallN m9_letterOf [vi w, vi i] K M Q := by
  refine am_callN_of (by decide +kernel) rfl rfl (Nat.le_of_ble_eq_true rfl) ?_
  refine g9_letterOf_0 (fun c1 => ?_) (fun c2 => ?_)
  · first
    | (exfalso; omega)
    | (refine g9_letterOf_11 (fun c3 => ?_) (fun c4 => ?_)
       · first
         | (exfalso; omega)
         | (refine g9_letterOf_23 (by first | assumption | omega) (by first | assumption | omega) ?_
            refine g9_letterOf_28 ?_
            exact am_qv (by unfold wlet; (repeat' split) <;> omega) k)
       · first
         | (exfalso; omega)
         | (refine g9_letterOf_15 (by first | assumption | omega) (by first | assumption | omega) ?_
            refine g9_letterOf_28 ?_
            exact am_qv (by unfold wlet; (repeat' split) <;> omega) k))
  · first
    | (exfalso; omega)
    | (refine g9_letterOf_5 (by first | assumption | omega) ?_
       refine g9_letterOf_28 ?_
       exact am_qv (by unfold wlet; (repeat' split) <;> omega) k)

/-- the reference's tables -/
def sm (M : am_M) (a : Int) : Sn := (fun p x => M 87 (24 * a + 4 * p + x), fun p => M 88 (6 * a + p))
def pm (M : am_M) (p : Int) : Pg := (fun s x => M 92 (24 * p + 4 * s + x), fun s x => M 93 (24 * p + 4 * s + x), fun s => M 94 (6 * p + s))
def qm (M : am_M) (q : Int) : Option Pg := if q < 0 then none else some (pm M q)
def cm (M : am_M) (a p q b : Int) : CD := (sm M a, pm M p, qm M q, sm M b)
/-- its second spot and last point -/
def st_ (M : am_M) (s p : Int) : am_M := fun b j => if b = 86 ∧ j = 16 then s else if b = 86 ∧ j = 17 then p else M b j
theorem st_self (M : am_M) : st_ M (M 86 16) (M 86 17) = M := by
  funext b j
  unfold st_
  split
  · rename_i h
    rw [h.1, h.2]
  · split
    · rename_i h
      rw [h.1, h.2]
    · rfl
theorem st_16 {M : am_M} {s p v : Int} : am_up (st_ M s p) 86 16 v = st_ M v p := by
  funext b j
  unfold am_up st_
  (repeat' split) <;> first | rfl | (exfalso; omega) | omega
theorem st_17 {M : am_M} {s p v : Int} : am_up (st_ M s p) 86 17 v = st_ M s v := by
  funext b j
  unfold am_up st_
  (repeat' split) <;> first | rfl | (exfalso; omega) | omega
theorem st_s {M : am_M} {s p : Int} : st_ M s p 86 16 = s := by simp [st_]
theorem st_p {M : am_M} {s p : Int} : st_ M s p 86 17 = p := by simp [st_]
theorem st_o {M : am_M} {s p b j : Int} (h : b ≠ 86 ∨ (j ≠ 16 ∧ j ≠ 17)) : st_ M s p b j = M b j := by
  unfold st_
  rw [if_neg (by omega), if_neg (by omega)]
theorem st_st {M : am_M} {s p s' p' : Int} : st_ (st_ M s p) s' p' = st_ M s' p' := by
  funext b j
  unfold st_
  (repeat' split) <;> first | rfl | (exfalso; omega) | omega
theorem st_sm {M : am_M} {s p : Int} : sm (st_ M s p) = sm M := by
  funext a
  unfold sm
  congr 1 <;> funext <;> exact st_o (Or.inl (by omega))
theorem st_pm {M : am_M} {s p : Int} : pm (st_ M s p) = pm M := by
  funext a
  refine Prod.ext ?_ (Prod.ext ?_ ?_)
  · funext x y
    exact st_o (M := M) (s := s) (p := p) (b := 92) (Or.inl (by omega))
  · funext x y
    exact st_o (M := M) (s := s) (p := p) (b := 93) (Or.inl (by omega))
  · funext x
    exact st_o (M := M) (s := s) (p := p) (b := 94) (Or.inl (by omega))
theorem st_cm {M : am_M} {s p a b c d : Int} : cm (st_ M s p) a b c d = cm M a b c d := by
  unfold cm qm
  rw [st_sm, st_pm]
section MD
variable {M : am_M} {Q : Option am_V → am_M → Prop} {k : Int}
theorem c9_say {b w s p : Int} (hB : okS (sm M b)) (hb : 0 ≤ b ∧ b ≤ 7) (hw : 0 ≤ w ∧ w ≤ 20) (hp : 0 ≤ p ∧ p < 6) (kk : Q none (st_ M s (aw (sm M b).1 p w))) : am_CallN m9_say [vr 86, vi w, vi b] KS (st_ M s p) Q := by
  have one : ∀ (p x : Int), st_ M s p 87 (24 * b + 4 * p + x) = (sm M b).1 p x := fun p x => st_o (Or.inl (by omega))
  refine am_callN_of (by decide +kernel) rfl rfl (Nat.le_of_ble_eq_true rfl) ?_
  refine g9_say_0 ?_
  refine g9_say_2 ?_
  refine c9_longOf hw.1 ?_
  by_cases h1 : w < 1
  · have hl : wlen w = 0 := by unfold wlen; rw [if_pos h1]
    refine g9_say_7 (fun _ => ?_) (fun c => by exfalso; rw [hl] at c; omega)
    refine g9_say_42 ?_
    unfold aw at kk
    rw [if_pos h1] at kk
    exact kk
  · by_cases h5 : w < 5
    · have hl : wlen w = 1 := by unfold wlen; rw [if_neg h1, if_pos h5]
      have h0 : wlet w 0 = w - 1 := by unfold wlet; rw [if_pos h5]
      unfold aw at kk
      rw [if_neg h1, if_pos h5] at kk
      refine g9_say_7 (fun c => by exfalso; rw [hl] at c; omega) (fun _ => ?_)
      refine g9_say_10 (by omega) (by rw [st_p]; omega) (by rw [st_p]; omega) ?_
      refine c9_letterOf hw ?_
      rw [h0, st_p]
      refine g9_say_31 (by omega) kd87 (by omega) (by omega) kd86 (by omega) ?_
      rw [one, st_17]
      refine g9_say_2 ?_
      refine c9_longOf hw.1 ?_
      refine g9_say_7 (fun _ => ?_) (fun c => by exfalso; rw [hl] at c; omega)
      exact g9_say_42 kk
    · have hl : wlen w = 2 := by unfold wlen; rw [if_neg h1, if_neg h5]
      have h0 : wlet w 0 = (w - 5) / 4 := by unfold wlet; rw [if_neg h5, if_pos rfl]
      have h1' : wlet w (0 + 1) = (w - 5) % 4 := by unfold wlet; rw [if_neg h5, if_neg (by omega)]
      have hq := hB p ((w - 5) / 4) hp (by omega)
      unfold aw at kk
      rw [if_neg h1, if_neg h5] at kk
      refine g9_say_7 (fun c => by exfalso; rw [hl] at c; omega) (fun _ => ?_)
      refine g9_say_10 (by omega) (by rw [st_p]; omega) (by rw [st_p]; omega) ?_
      refine c9_letterOf hw ?_
      rw [h0, st_p]
      refine g9_say_31 (by omega) kd87 (by omega) (by omega) kd86 (by omega) ?_
      rw [one, st_17]
      refine g9_say_2 ?_
      refine c9_longOf hw.1 ?_
      refine g9_say_7 (fun c => by exfalso; rw [hl] at c; omega) (fun _ => ?_)
      refine g9_say_10 (by omega) (by rw [st_p]; omega) (by rw [st_p]; omega) ?_
      refine c9_letterOf hw ?_
      rw [h1', st_p]
      refine g9_say_31 (by omega) kd87 (by omega) (by omega) kd86 (by omega) ?_
      rw [one, st_17]
      refine g9_say_2 ?_
      refine c9_longOf hw.1 ?_
      refine g9_say_7 (fun _ => ?_) (fun c => by exfalso; rw [hl] at c; omega)
      exact g9_say_42 kk
/-- one letter by the second program, or by the sentence behind -/
theorem c9_read1 {b q w i x s p : Int} (hk : 2 ≤ k ∧ k ≤ 4) (hB : okS (sm M b)) (hb : 0 ≤ b ∧ b ≤ 7) (hq : -1 ≤ q ∧ q ≤ 3) (hP : ∀ P, qm M q = some P → okP k P) (hs : 0 ≤ s ∧ s < 6) (hp : 0 ≤ p ∧ p < 6) (hw : 0 ≤ w ∧ w ≤ 20) (hi : 0 ≤ i ∧ i < 2) (hx : wlet w i = x) (hxk : 0 ≤ x ∧ x < k)
    (kk : am_AtN m9_read 3 [some (vr 86), some (vi w), some (vi q), some (vi b), some (vi (i + 1)), none, none] [] KS (match qm M q with | none => st_ M s ((sm M b).1 p x) | some P => st_ M (P.1 s x) (aw (sm M b).1 p (P.2.1 s x))) Q) :
    am_AtN m9_read 12 [some (vr 86), some (vi w), some (vi q), some (vi b), some (vi i), none, none] [] KS (st_ M s p) Q := by
  refine g9_read_12 ?_
  refine c9_letterOf hw ?_
  rw [hx]
  by_cases hq0 : q < 0
  · have e : qm M q = none := by unfold qm; rw [if_pos hq0]
    rw [e] at kk
    dsimp only at kk
    refine g9_read_18 (fun c => by exfalso; omega) (fun _ => ?_)
    refine g9_read_24 (by omega) (by rw [st_p]; omega) (by rw [st_p]; omega) (by rw [st_p]; omega) (by rw [st_p]; omega) (by rw [st_p]; omega) ?_
    rw [st_17, st_p, st_o (Or.inl (by omega))]
    exact g9_read_89 (by omega) kk
  · have e : qm M q = some (pm M q) := by unfold qm; rw [if_neg hq0]
    have hPP := hP _ e
    rw [e] at kk
    dsimp only at kk
    have hww := hPP.2.1 s x hs hxk
    refine g9_read_18 (fun _ => ?_) (fun c => by exfalso; omega)
    refine g9_read_50 (by omega) (by rw [st_s]; omega) (by rw [st_s]; omega) (by rw [st_s]; omega) (by rw [st_s]; omega) (by rw [st_s]; omega) (by rw [st_s]; omega) (by rw [st_s]; omega) ?_
    rw [st_16, st_s, st_o (Or.inl (by omega)), st_o (Or.inl (by omega))]
    refine c9_say hB hb ⟨hww.1, hww.2.1⟩ hp ?_
    exact g9_read_89 (by omega) kk
theorem c9_read {b q w s p : Int} (hk : 2 ≤ k ∧ k ≤ 4) (hB : okS (sm M b)) (hb : 0 ≤ b ∧ b ≤ 7) (hq : -1 ≤ q ∧ q ≤ 3) (hP : ∀ P, qm M q = some P → okP k P) (hs : 0 ≤ s ∧ s < 6) (hp : 0 ≤ p ∧ p < 6) (hw : wv k w) (kk : Q none (st_ M (tl (qm M q) (sm M b) s p w).1 (tl (qm M q) (sm M b) s p w).2)) : am_CallN m9_read [vr 86, vi w, vi q, vi b] KS (st_ M s p) Q := by
  have hw0 : 0 ≤ w ∧ w ≤ 20 := ⟨hw.1, hw.2.1⟩
  refine am_callN_of (by decide +kernel) rfl rfl (Nat.le_of_ble_eq_true rfl) ?_
  refine g9_read_0 ?_
  refine g9_read_3 ?_
  refine c9_longOf hw.1 ?_
  by_cases h1 : w < 1
  · have hl : wlen w = 0 := by unfold wlen; rw [if_pos h1]
    refine g9_read_9 (fun _ => ?_) (fun c => by exfalso; rw [hl] at c; omega)
    refine g9_read_95 ?_
    have e : tl (qm M q) (sm M b) s p w = (s, p) := by
      unfold tl
      split
      · unfold aw
        rw [if_pos h1]
      · rw [if_pos h1]
    rw [e] at kk
    exact kk
  · by_cases h5 : w < 5
    · have hl : wlen w = 1 := by unfold wlen; rw [if_neg h1, if_pos h5]
      have h0 : wlet w 0 = w - 1 := by unfold wlet; rw [if_pos h5]
      refine g9_read_9 (fun c => by exfalso; rw [hl] at c; omega) (fun _ => ?_)
      refine c9_read1 hk hB hb hq hP hs hp hw0 (by omega) h0 (wv_1 hw h1 h5) ?_
      refine g9_read_3 ?_
      refine c9_longOf hw.1 ?_
      refine g9_read_9 (fun _ => ?_) (fun c => by exfalso; rw [hl] at c; omega)
      refine g9_read_95 ?_
      unfold tl aw at kk
      cases hqm : qm M q with
      | none =>
        rw [hqm] at kk
        dsimp only at kk ⊢
        rw [if_neg h1, if_pos h5] at kk
        exact kk
      | some P =>
        rw [hqm] at kk
        dsimp only at kk ⊢
        rw [if_neg h1, if_pos h5] at kk
        exact kk
    · have hl : wlen w = 2 := by unfold wlen; rw [if_neg h1, if_neg h5]
      have h0 : wlet w 0 = (w - 5) / 4 := by unfold wlet; rw [if_neg h5, if_pos rfl]
      have h1' : wlet w (0 + 1) = (w - 5) % 4 := by unfold wlet; rw [if_neg h5, if_neg (by omega)]
      obtain ⟨hx, hy⟩ := wv_2 hw h5
      refine g9_read_9 (fun c => by exfalso; rw [hl] at c; omega) (fun _ => ?_)
      refine c9_read1 hk hB hb hq hP hs hp hw0 (by omega) h0 hx ?_
      refine g9_read_3 ?_
      refine c9_longOf hw.1 ?_
      refine g9_read_9 (fun c => by exfalso; rw [hl] at c; omega) (fun _ => ?_)
      unfold tl aw at kk
      cases hqm : qm M q with
      | none =>
        rw [hqm] at kk
        dsimp only at kk ⊢
        rw [if_neg h1, if_neg h5] at kk
        refine c9_read1 hk hB hb hq hP hs (hB p _ hp (by omega)) hw0 (by omega) h1' hy ?_
        rw [hqm]
        dsimp only
        refine g9_read_3 ?_
        refine c9_longOf hw.1 ?_
        refine g9_read_9 (fun _ => ?_) (fun c => by exfalso; rw [hl] at c; omega)
        exact g9_read_95 kk
      | some P =>
        have hPP := hP P hqm
        have hw1 := hPP.2.1 s ((w - 5) / 4) hs hx
        rw [hqm] at kk
        dsimp only at kk ⊢
        rw [if_neg h1, if_neg h5] at kk
        refine c9_read1 hk hB hb hq hP (hPP.1 s _ hs (by omega)) (aw_rng hB hp ⟨hw1.1, hw1.2.1⟩) hw0 (by omega) h1' hy ?_
        rw [hqm]
        dsimp only
        refine g9_read_3 ?_
        refine c9_longOf hw.1 ?_
        refine g9_read_9 (fun _ => ?_) (fun c => by exfalso; rw [hl] at c; omega)
        exact g9_read_95 kk
theorem c9_leadsTo {a p q b pl x : Int} (ha : 0 ≤ a ∧ a ≤ 7) (hp : 0 ≤ p ∧ p ≤ 3) (hq : -1 ≤ q ∧ q ≤ 3) (hb : 0 ≤ b ∧ b ≤ 7) (hok : okC k (cm M a p q b)) (hpl : 0 ≤ pl ∧ pl < 1296) (hx : 0 ≤ x ∧ x < k) (kk : ∀ s t, Q (some (vi (af (cm M a p q b) pl x))) (st_ M s t)) : am_CallN m9_leadsTo [vr 86, vi pl, vi x, vi a, vi p, vi q, vi b] KS M Q := by
  obtain ⟨hk, hA, hP, hQ, hB⟩ := id hok
  have hww := hP.2.1 (pl / 36 % 6) x (by omega) hx
  have h1 := hA (pl / 216) x (by omega) (by omega)
  have h2 := hP.1 (pl / 36 % 6) x (by omega) (by omega)
  have h3 := tl_rng hk hQ hB (sp := pl / 6 % 6) (pt := pl % 6) (by omega) (by omega) hww
  have e0 : am_up (am_up M 86 16 (pl / 6 % 6)) 86 17 (pl % 6) = st_ M (pl / 6 % 6) (pl % 6) := by
    rw [← st_self M, st_16, st_17, st_st]
  have ew : st_ M (pl / 6 % 6) (pl % 6) 93 (24 * p + 4 * (pl / 36 % 6) + x) = (pm M p).2.1 (pl / 36 % 6) x := st_o (Or.inl (by omega))
  refine am_callN_of (by decide +kernel) rfl rfl (Nat.le_of_ble_eq_true rfl) ?_
  refine g9_leadsTo_0 hpl.1 (by omega) hpl.1 (by omega) hpl.1 (by omega) (by omega) (by omega) (by omega) (by omega) (by omega) ?_
  rw [e0, ew]
  refine c9_read hk hB hb hq hQ (by omega) (by omega) hww ?_
  have f1 : ∀ (s t : Int), st_ M s t 87 (24 * a + 4 * (pl / 216) + x) = (sm M a).1 (pl / 216) x := fun s t => st_o (Or.inl (by omega))
  have f2 : ∀ (s t : Int), st_ M s t 92 (24 * p + 4 * (pl / 36 % 6) + x) = (pm M p).1 (pl / 36 % 6) x := fun s t => st_o (Or.inl (by omega))
  have h1' : 0 ≤ (sm M a).1 (pl / 216) x ∧ (sm M a).1 (pl / 216) x < 6 := h1
  have h2' : 0 ≤ (pm M p).1 (pl / 36 % 6) x ∧ (pm M p).1 (pl / 36 % 6) x < 6 := h2
  have h3' : (0 ≤ (tl (qm M q) (sm M b) (pl / 6 % 6) (pl % 6) ((pm M p).2.1 (pl / 36 % 6) x)).1 ∧ (tl (qm M q) (sm M b) (pl / 6 % 6) (pl % 6) ((pm M p).2.1 (pl / 36 % 6) x)).1 < 6) ∧ (0 ≤ (tl (qm M q) (sm M b) (pl / 6 % 6) (pl % 6) ((pm M p).2.1 (pl / 36 % 6) x)).2 ∧ (tl (qm M q) (sm M b) (pl / 6 % 6) (pl % 6) ((pm M p).2.1 (pl / 36 % 6) x)).2 < 6) := h3
  refine g9_leadsTo_57 (by omega) hpl.1 (by omega) (by omega) (by omega) (by omega) (by omega) (by rw [f1]; omega) (by omega) (by omega) (by rw [f2]; omega) (by rw [f1, f2]; omega) (by rw [st_s]; omega) (by rw [f1, f2, st_s]; omega) (by rw [f1, f2, st_s, st_p]; omega) ?_
  rw [f1, f2, st_s, st_p]
  exact kk _ _
theorem c9_isBad {a p q b pl : Int} (ha : 0 ≤ a ∧ a ≤ 7) (hp : 0 ≤ p ∧ p ≤ 3) (hq : -1 ≤ q ∧ q ≤ 3) (hb : 0 ≤ b ∧ b ≤ 7) (hok : okC k (cm M a p q b)) (hH : ∀ j : Int, 0 ≤ j ∧ j < 48 → M 88 j = 0 ∨ M 88 j = 1) (hpl : 0 ≤ pl ∧ pl < 1296) (kk : ∀ s t, Q (some (vi (bd (cm M a p q b) pl))) (st_ M s t)) : am_CallN m9_isBad [vr 86, vi pl, vi a, vi p, vi q, vi b] KS M Q := by
  obtain ⟨hk, hA, hP, hQ, hB⟩ := id hok
  have hHa := hH (6 * a + pl / 216) (by omega)
  refine am_callN_of (by decide +kernel) rfl rfl (Nat.le_of_ble_eq_true rfl) ?_
  unfold bd at kk
  refine g9_isBad_0 (by omega) hpl.1 (by omega) (by omega) (by omega) (fun c0 => ?_) (fun c0 => ?_)
  · have hA1 : (cm M a p q b).1.2 (pl / 216) = 1 := by
      show M 88 (6 * a + pl / 216) = 1
      omega
    rw [if_pos hA1] at kk
    have e0 : am_up (am_up M 86 16 (pl / 6 % 6)) 86 17 (pl % 6) = st_ M (pl / 6 % 6) (pl % 6) := by
      rw [← st_self M, st_16, st_17, st_st]
    have ee : st_ M (pl / 6 % 6) (pl % 6) 94 (6 * p + pl / 36 % 6) = (pm M p).2.2 (pl / 36 % 6) := st_o (Or.inl (by omega))
    refine g9_isBad_20 hpl.1 (by omega) hpl.1 (by omega) hpl.1 (by omega) (by omega) (by omega) (by omega) (fun c1 => ?_) (fun c1 => ?_)
    · rw [e0, ee] at c1 ⊢
      have c1' : (cm M a p q b).2.1.2.2 (pl / 36 % 6) ≠ -1 := c1
      rw [if_neg c1'] at kk
      have hww : wv k ((pm M p).2.2 (pl / 36 % 6)) := (hP.2.2 (pl / 36 % 6) (by omega)).resolve_left c1
      refine g9_isBad_66 ?_
      refine c9_read hk hB hb hq hQ (by omega) (by omega) hww ?_
      have h3 := tl_rng hk hQ hB (sp := pl / 6 % 6) (pt := pl % 6) (by omega) (by omega) hww
      change ∀ s t, Q (some (vi (bd2 (qm M q) (sm M b) (tl (qm M q) (sm M b) (pl / 6 % 6) (pl % 6) ((pm M p).2.2 (pl / 36 % 6)))))) (st_ M s t) at kk
      have h3 : (0 ≤ (tl (qm M q) (sm M b) (pl / 6 % 6) (pl % 6) ((pm M p).2.2 (pl / 36 % 6))).1 ∧ (tl (qm M q) (sm M b) (pl / 6 % 6) (pl % 6) ((pm M p).2.2 (pl / 36 % 6))).1 < 6) ∧ (0 ≤ (tl (qm M q) (sm M b) (pl / 6 % 6) (pl % 6) ((pm M p).2.2 (pl / 36 % 6))).2 ∧ (tl (qm M q) (sm M b) (pl / 6 % 6) (pl % 6) ((pm M p).2.2 (pl / 36 % 6))).2 < 6) := h3
      generalize tl (qm M q) (sm M b) (pl / 6 % 6) (pl % 6) ((pm M p).2.2 (pl / 36 % 6)) = t at kk h3 ⊢
      have last : ∀ (s v r : Int), (0 ≤ v ∧ v < 6) → r = (if (sm M b).2 v = 1 then 0 else 1) → (∀ s t, Q (some (vi r)) (st_ M s t)) → ∀ (o7 : Int), am_AtN m9_isBad 114 [some (vr 86), some (vi pl), some (vi a), some (vi p), some (vi q), some (vi b), some (vi ((pm M p).2.2 (pl / 36 % 6))), none] [] KS (st_ M s v) Q := by
        intro s v r hv hr kr o7
        have hHb := hH (6 * b + v) (by omega)
        have f1 : st_ M s v 88 (6 * b + v) = M 88 (6 * b + v) := st_o (Or.inl (by omega))
        refine g9_isBad_114 (by omega) (by rw [st_p]; omega) (by rw [st_p]; omega) (by rw [st_p]; omega) (fun c => ?_) (fun c => ?_)
        · rw [st_p, f1] at c
          have : (sm M b).2 v = 1 := by show M 88 (6 * b + v) = 1; omega
          rw [if_pos this] at hr
          refine g9_isBad_136 ?_
          refine g9_isBad_137 (by omega) ?_
          rw [hr] at kr
          exact kr _ _
        · rw [st_p, f1] at c
          have : ¬ (sm M b).2 v = 1 := by show ¬ M 88 (6 * b + v) = 1; omega
          rw [if_neg this] at hr
          refine g9_isBad_132 ?_
          refine g9_isBad_137 (by omega) ?_
          rw [hr] at kr
          exact kr _ _
      by_cases hq0 : q < 0
      · have e : qm M q = none := by unfold qm; rw [if_pos hq0]
        rw [e] at kk
        refine g9_isBad_76 (fun _ => ?_) (fun c => by exfalso; omega)
        exact last _ _ _ h3.2 rfl kk 0
      · have e : qm M q = some (pm M q) := by unfold qm; rw [if_neg hq0]
        have hPP := hQ _ e
        have f3 : st_ M t.1 t.2 94 (6 * q + t.1) = (pm M q).2.2 t.1 := st_o (Or.inl (by omega))
        rw [e] at kk
        unfold bd2 at kk
        dsimp only at kk
        refine g9_isBad_76 (fun c => by exfalso; omega) (fun _ => ?_)
        refine g9_isBad_81 (by omega) (by rw [st_s]; omega) (by rw [st_s]; omega) (by rw [st_s]; omega) (fun c2 => ?_) (fun c2 => ?_)
        · rw [st_s, f3] at c2 ⊢
          rw [if_neg c2] at kk
          have hw2 : wv k ((pm M q).2.2 t.1) := (hPP.2.2 t.1 h3.1).resolve_left c2
          refine g9_isBad_106 ?_
          refine c9_say hB hb ⟨hw2.1, hw2.2.1⟩ h3.2 ?_
          exact last _ _ _ (aw_rng hB h3.2 ⟨hw2.1, hw2.2.1⟩) rfl kk 0
        · rw [st_s, f3] at c2
          rw [if_pos c2] at kk
          exact g9_isBad_104 (kk _ _)
    · rw [e0, ee] at c1
      rw [e0]
      have c1' : (cm M a p q b).2.1.2.2 (pl / 36 % 6) = -1 := c1
      rw [if_pos c1'] at kk
      exact g9_isBad_64 (kk _ _)
  · have hA1 : ¬ (cm M a p q b).1.2 (pl / 216) = 1 := by
      show ¬ M 88 (6 * a + pl / 216) = 1
      omega
    rw [if_neg hA1] at kk
    refine g9_isBad_18 ?_
    have := kk (M 86 16) (M 86 17)
    rw [st_self] at this
    exact this
end MD
