/-! ===== the reference: begins, not, programs told and written ===== -/
def ba (M : am_M) (s : Int) : am_M := am_fl (am_fl M 87 (24 * s) (24 * s + 24) (fun _ => 0)) 88 (6 * s) (6 * s + 6) (fun _ => 1)
theorem am_fl_t {M : am_M} {a lo n : Int} {f : Int → Int} {v : Int} (h : lo ≤ n) (hv : v = f n) : am_up (am_fl M a lo n f) a n v = am_fl M a lo (n + 1) f := by
  rw [hv]
  exact am_fl_s h
theorem c9_bare {M : am_M} {Q : Option am_V → am_M → Prop} {s : Int} (hs : 0 ≤ s ∧ s ≤ 7) (k : Q none (ba M s)) : am_CallN m9_bare [vr 86, vi s] KS M Q := by
  refine am_callN_of (by decide +kernel) rfl rfl (Nat.le_of_ble_eq_true rfl) ?_
  refine g9_bare_0 ?_
  refine am_for (fun i => [some (vr 86), some (vi s), some (vi i)]) (fun i => am_fl M 87 (24 * s) (24 * s + i) (fun _ => 0)) 0 24 (by omega) rfl (by rw [show 24 * s + 0 = 24 * s by omega]; exact am_fl_0.symm) ?_ (fun i h0 h1 ih => ?_)
  · refine g9_bare_2 (fun _ => ?_) (fun c => by exfalso; omega)
    refine g9_bare_26 ?_
    refine am_for (fun i => [some (vr 86), some (vi s), some (vi i)]) (fun i => am_fl (am_fl M 87 (24 * s) (24 * s + 24) (fun _ => 0)) 88 (6 * s) (6 * s + i) (fun _ => 1)) 0 6 (by omega) rfl (by rw [show 6 * s + 0 = 6 * s by omega]; exact am_fl_0.symm) ?_ (fun i h0 h1 ih => ?_)
    · refine g9_bare_28 (fun _ => ?_) (fun c => by exfalso; omega)
      exact g9_bare_52 k
    · refine g9_bare_28 (fun c => by exfalso; omega) (fun _ => ?_)
      refine g9_bare_34 (by omega) (by omega) (by omega) (by omega) (by omega) ?_
      refine am_mem (am_fl_t (f := fun _ => 1) (by omega) rfl) ?_
      rw [show 6 * s + i + 1 = 6 * s + (i + 1) by omega]
      exact ih
  · refine g9_bare_2 (fun c => by exfalso; omega) (fun _ => ?_)
    refine g9_bare_8 (by omega) (by omega) (by omega) (by omega) (by omega) ?_
    refine am_mem (am_fl_t (f := fun _ => 0) (by omega) rfl) ?_
    rw [show 24 * s + i + 1 = 24 * s + (i + 1) by omega]
    exact ih
def bg1 (M : am_M) (k : Int) : am_M := am_fl (am_fl (am_up M 86 1 k) 87 0 192 (fun _ => 0)) 88 0 48 (fun _ => 1)
def bg2 (M : am_M) (k : Int) : am_M := am_fl (am_fl (bg1 M k) 92 0 96 (fun _ => 0)) 93 0 96 (fun j => 1 + j % 4)
def bg (M : am_M) (k : Int) : am_M := am_up (am_fl (am_fl (bg2 M k) 94 0 24 (fun _ => 0)) 99 0 1296 (fun _ => 0)) 86 31 0
theorem c9_begin {M : am_M} {Q : Option am_V → am_M → Prop} {k : Int} (kk : Q none (bg M k)) : am_CallN m9_begin [vr 86, vi k] KS M Q := by
  refine am_callN_of (by decide +kernel) rfl rfl (Nat.le_of_ble_eq_true rfl) ?_
  refine g9_begin_0 ?_
  refine am_for (fun i => [some (vr 86), some (vi k), some (vi i)]) (fun i => am_fl (am_fl (am_up M 86 1 k) 87 0 (24 * i) (fun _ => 0)) 88 0 (6 * i) (fun _ => 1)) 0 8 (by omega) rfl (by rw [show 24 * (0 : Int) = 0 by omega, show 6 * (0 : Int) = 0 by omega, am_fl_0, am_fl_0]) ?_ (fun i h0 h1 ih => ?_)
  · refine g9_begin_7 (fun _ => ?_) (fun c => by exfalso; omega)
    refine g9_begin_24 ?_
    refine am_mem (show _ = bg1 M k from rfl) ?_
    refine am_for (fun i => [some (vr 86), some (vi k), some (vi i)]) (fun i => am_fl (am_fl (bg1 M k) 92 0 i (fun _ => 0)) 93 0 i (fun j => 1 + j % 4)) 0 96 (by omega) rfl (by rw [am_fl_0, am_fl_0]) ?_ (fun i h0 h1 ih => ?_)
    · refine g9_begin_26 (fun _ => ?_) (fun c => by exfalso; omega)
      refine g9_begin_56 ?_
      refine am_mem (show _ = bg2 M k from rfl) ?_
      refine am_for (fun i => [some (vr 86), some (vi k), some (vi i)]) (fun i => am_fl (bg2 M k) 94 0 i (fun _ => 0)) 0 24 (by omega) rfl am_fl_0.symm ?_ (fun i h0 h1 ih => ?_)
      · refine g9_begin_58 (fun _ => ?_) (fun c => by exfalso; omega)
        refine g9_begin_77 ?_
        refine am_for (fun i => [some (vr 86), some (vi k), some (vi i)]) (fun i => am_fl (am_fl (bg2 M k) 94 0 24 (fun _ => 0)) 99 0 i (fun _ => 0)) 0 1296 (by omega) rfl am_fl_0.symm ?_ (fun i h0 h1 ih => ?_)
        · refine g9_begin_79 (fun _ => ?_) (fun c => by exfalso; omega)
          exact g9_begin_99 kk
        · refine g9_begin_79 (fun c => by exfalso; omega) (fun _ => ?_)
          refine g9_begin_86 (by omega) (by omega) (by omega) ?_
          exact am_mem (am_fl_t (f := fun _ => 0) (by omega) rfl) ih
      · refine g9_begin_58 (fun c => by exfalso; omega) (fun _ => ?_)
        refine g9_begin_64 (by omega) (by omega) (by omega) ?_
        exact am_mem (am_fl_t (f := fun _ => 0) (by omega) rfl) ih
    · refine g9_begin_26 (fun c => by exfalso; omega) (fun _ => ?_)
      refine g9_begin_32 (by omega) (by omega) (by omega) (by omega) (by omega) (by omega) (by omega) ?_
      refine am_mem ?_ ih
      have e1 : am_up (am_fl (am_fl (bg1 M k) 92 0 i (fun _ => 0)) 93 0 i (fun j => 1 + j % 4)) 92 i 0 = am_fl (am_fl (bg1 M k) 92 0 (i + 1) (fun _ => 0)) 93 0 i (fun j => 1 + j % 4) := by
        funext b j
        unfold am_up am_fl
        (repeat' split) <;> first | rfl | (exfalso; omega)
      rw [e1]
      exact am_fl_t (by omega) rfl
  · refine g9_begin_7 (fun c => by exfalso; omega) (fun _ => ?_)
    refine g9_begin_13 ?_
    refine c9_bare (by omega) ?_
    refine g9_begin_18 (by omega) ?_
    refine am_mem ?_ ih
    funext b j
    unfold ba am_fl
    (repeat' split) <;> first | rfl | (exfalso; omega) | omega
theorem c9_letters {M : am_M} {Q : Option am_V → am_M → Prop} {k : Int} (k1 : 2 ≤ k ∧ k ≤ 4 → Q (some (vi (M 86 1))) (bg (am_up M 86 0 0) k)) (k0 : ¬ (2 ≤ k ∧ k ≤ 4) → Q (some (vi (-2))) (am_up M 86 0 0)) : am_CallN m9_letters [vr 86, vi k] KS M Q := by
  have ek : am_up M 86 0 0 86 1 = M 86 1 := am_upn (Or.inr (by omega))
  refine am_callN_of (by decide +kernel) rfl rfl (Nat.le_of_ble_eq_true rfl) ?_
  refine g9_letters_0 ?_
  refine c9_in ?_
  by_cases h : 2 ≤ k ∧ k ≤ 4
  · rw [if_pos h]
    refine g9_letters_16 (fun _ => ?_) (fun c => by exfalso; omega)
    refine g9_letters_22 ?_
    refine c9_begin ?_
    refine g9_letters_32 ?_
    rw [ek]
    exact k1 h
  · rw [if_neg h]
    refine g9_letters_16 (fun c => by exfalso; omega) (fun _ => ?_)
    exact g9_letters_19 (k0 h)
def nt1 (M : am_M) (s o n : Int) : am_M := am_fl M 87 (24 * s) (24 * s + n) (fun j => M 87 (24 * o + (j - 24 * s)))
def nt2 (M : am_M) (s o n : Int) : am_M := am_fl (nt1 M s o 24) 88 (6 * s) (6 * s + n) (fun j => 1 - M 88 (6 * o + (j - 6 * s)))
theorem n9_not {M : am_M} {Q : Option am_V → am_M → Prop} {s o : Int} (hs : 0 ≤ s ∧ s ≤ 7) (ho : 0 ≤ o ∧ o ≤ 7) (hH : ∀ j : Int, 0 ≤ j ∧ j < 48 → M 88 j = 0 ∨ M 88 j = 1) (k : Q (some (vi (am_sm (fun j => 1 - M 88 (6 * o + j)) 6))) (nt2 M s o 6)) : am_AtN m9_not 26 [some (vr 86), some (vi s), some (vi o), some (vi 0), some (vi 0)] [] KS M Q := by
  refine am_for (fun i => [some (vr 86), some (vi s), some (vi o), some (vi 0), some (vi i)]) (fun i => nt1 M s o i) 0 24 (by omega) rfl (by unfold nt1; rw [show 24 * s + 0 = 24 * s by omega]; exact am_fl_0.symm) ?_ (fun i h0 h1 ih => ?_)
  · refine g9_not_26 (fun _ => ?_) (fun c => by exfalso; omega)
    refine g9_not_63 ?_
    refine am_for (fun i => [some (vr 86), some (vi s), some (vi o), some (vi (am_sm (fun j => 1 - M 88 (6 * o + j)) i.toNat)), some (vi i)]) (fun i => nt2 M s o i) 0 6 (by omega) rfl (by unfold nt2; rw [show 6 * s + 0 = 6 * s by omega]; exact am_fl_0.symm) ?_ (fun i h0 h1 ih => ?_)
    · refine g9_not_66 (fun _ => ?_) (fun c => by exfalso; omega)
      exact g9_not_134 k
    · have e1 : nt2 M s o i 88 (6 * o + i) = M 88 (6 * o + i) := by
        unfold nt2 nt1
        rw [am_fl_out (by omega), am_fl_out (by omega)]
      have hb := hH (6 * o + i) (by omega)
      have hsm := am_sm_bnd (f := fun j => 1 - M 88 (6 * o + j)) (c := 1) i.toNat (fun j h2 h3 => by have := hH (6 * o + j) (by omega); omega)
      have e2 : am_up (nt2 M s o i) 88 (6 * s + i) (1 - M 88 (6 * o + i)) = nt2 M s o (i + 1) := by
        unfold nt2
        rw [show 6 * s + (i + 1) = 6 * s + i + 1 by omega]
        exact am_fl_t (by omega) (by rw [show 6 * s + i - 6 * s = i by omega])
      have tail : ∀ v : Int, v = 1 - M 88 (6 * o + i) → am_AtN m9_not 104 [some (vr 86), some (vi s), some (vi o), some (vi (am_sm (fun j => 1 - M 88 (6 * o + j)) i.toNat)), some (vi i)] [vi v, vi (6 * s + i), vr 88] KS (nt2 M s o i) Q := by
        intro v hv
        have fin : ∀ u : Int, u = 1 - M 88 (6 * o + i) → am_AtN m9_not 126 [some (vr 86), some (vi s), some (vi o), some (vi (am_sm (fun j => 1 - M 88 (6 * o + j)) i.toNat)), some (vi i)] [vi u, vi (am_sm (fun j => 1 - M 88 (6 * o + j)) i.toNat)] KS (am_up (nt2 M s o i) 88 (6 * s + i) v) Q := by
          intro u hu
          refine g9_not_126 (by omega) (by omega) ?_
          rw [hv, e2, hu, am_sm_s (f := fun j => 1 - M 88 (6 * o + j)) h0]
          exact ih
        refine g9_not_104 kd88 (by omega) (by omega) (by omega) (by omega) (by omega) (by omega) (by omega) (fun c => ?_) (fun c => ?_)
        · rw [am_up_hit] at c
          exact g9_not_125 (fin 0 (by omega))
        · rw [am_up_hit] at c
          exact g9_not_121 (fin 1 (by omega))
      refine g9_not_66 (fun c => by exfalso; omega) (fun _ => ?_)
      refine g9_not_73 (by omega) (by omega) (by omega) (by omega) (by omega) (by omega) (fun c => ?_) (fun c => ?_)
      · rw [e1] at c
        exact g9_not_103 (tail 0 (by omega))
      · rw [e1] at c
        exact g9_not_99 (tail 1 (by omega))
  · have e1 : nt1 M s o i 87 (24 * o + i) = M 87 (24 * o + i) := by
      unfold nt1
      rw [am_fl_out (by omega)]
    refine g9_not_26 (fun c => by exfalso; omega) (fun _ => ?_)
    refine g9_not_33 (by omega) (by omega) (by omega) (by omega) (by omega) (by omega) (by omega) (by omega) (by omega) ?_
    rw [e1]
    refine am_mem ?_ ih
    unfold nt1
    rw [show 24 * s + (i + 1) = 24 * s + i + 1 by omega]
    exact am_fl_t (by omega) (by rw [show 24 * s + i - 24 * s = i by omega])
theorem c9_not {M : am_M} {Q : Option am_V → am_M → Prop} {s o : Int} (hH : ∀ j : Int, 0 ≤ j ∧ j < 48 → M 88 j = 0 ∨ M 88 j = 1) (k1 : (0 ≤ s ∧ s ≤ 7) ∧ (0 ≤ o ∧ o ≤ 7) → Q (some (vi (am_sm (fun j => 1 - M 88 (6 * o + j)) 6))) (nt2 (am_up M 86 0 0) s o 6)) (k0 : ¬ ((0 ≤ s ∧ s ≤ 7) ∧ (0 ≤ o ∧ o ≤ 7)) → Q (some (vi (-1))) (am_up M 86 0 0)) : am_CallN m9_not [vr 86, vi s, vi o] KS M Q := by
  have e : ∀ j : Int, am_up M 86 0 0 88 j = M 88 j := fun j => am_upn (Or.inl (by omega))
  refine am_callN_of (by decide +kernel) rfl rfl (Nat.le_of_ble_eq_true rfl) ?_
  refine g9_not_0 ?_
  refine c9_noSentence ?_
  by_cases hg0 : 0 ≤ s ∧ s ≤ 7
  · rw [if_pos (by first | exact hg0 | omega)]
    refine g9_not_9 (fun c => by exfalso; omega) (fun _ => ?_)
    refine g9_not_12 ?_
    refine c9_noSentence ?_
    by_cases hg1 : 0 ≤ o ∧ o ≤ 7
    · rw [if_pos (by first | exact hg1 | omega)]
      refine g9_not_16 (fun _ => ?_) (fun c => by exfalso; omega)
      refine g9_not_21 ?_
      refine n9_not hg0 hg1 (fun j hj => by rw [e]; exact hH j hj) ?_
      have k1 := k1 ⟨hg0, hg1⟩
      simp only [e]
      exact k1
    · rw [if_neg (by first | exact hg1 | omega)]
      refine g9_not_16 (fun c => by exfalso; omega) (fun _ => ?_)
      exact g9_not_19 (k0 (fun h => hg1 h.2))
  · rw [if_neg (by first | exact hg0 | omega)]
    refine g9_not_9 (fun _ => ?_) (fun c => by exfalso; omega)
    exact g9_not_19 (k0 (fun h => hg0 h.1))

theorem c9_spot {M : am_M} {Q : Option am_V → am_M → Prop} {p s x t w : Int} (hk : 2 ≤ M 86 1 ∧ M 86 1 ≤ 4) (k1 : (0 ≤ p ∧ p ≤ 3) ∧ (0 ≤ s ∧ s ≤ 5) ∧ (0 ≤ x ∧ x < M 86 1) ∧ (0 ≤ t ∧ t ≤ 5) → isw (M 86 1) w → Q (some (vi (M 93 (24 * p + 4 * s + x)))) (am_up (am_up (am_up M 86 0 0) 93 (24 * p + 4 * s + x) w) 92 (24 * p + 4 * s + x) t)) (k2 : (0 ≤ p ∧ p ≤ 3) ∧ (0 ≤ s ∧ s ≤ 5) ∧ (0 ≤ x ∧ x < M 86 1) ∧ (0 ≤ t ∧ t ≤ 5) → ¬ isw (M 86 1) w → Q (some (vi (-2))) (am_up M 86 0 0)) (k0 : ¬ ((0 ≤ p ∧ p ≤ 3) ∧ (0 ≤ s ∧ s ≤ 5) ∧ (0 ≤ x ∧ x < M 86 1) ∧ (0 ≤ t ∧ t ≤ 5)) → Q (some (vi (-1))) (am_up M 86 0 0)) : am_CallN m9_spot [vr 86, vi p, vi s, vi x, vi t, vi w] KS M Q := by
  have ek : am_up M 86 0 0 86 1 = M 86 1 := am_upn (Or.inr (by omega))
  refine am_callN_of (by decide +kernel) rfl rfl (Nat.le_of_ble_eq_true rfl) ?_
  refine g9_spot_0 ?_
  refine c9_noProgram ?_
  by_cases hg0 : 0 ≤ p ∧ p ≤ 3
  · rw [if_pos (by first | exact hg0 | omega)]
    refine g9_spot_9 (fun c => by exfalso; omega) (fun _ => ?_)
    refine g9_spot_12 ?_
    refine c9_noPoint ?_
    by_cases hg1 : 0 ≤ s ∧ s ≤ 5
    · rw [if_pos (by first | exact hg1 | omega)]
      refine g9_spot_16 (fun c => by exfalso; omega) (fun _ => ?_)
      refine g9_spot_19 ?_
      refine c9_noLetter (by omega) ?_
      by_cases hg2 : 0 ≤ x ∧ x < M 86 1
      · rw [if_pos (by first | exact hg2 | omega)]
        refine g9_spot_24 (fun c => by exfalso; omega) (fun _ => ?_)
        refine g9_spot_27 ?_
        refine c9_noPoint ?_
        by_cases hg3 : 0 ≤ t ∧ t ≤ 5
        · rw [if_pos (by first | exact hg3 | omega)]
          refine g9_spot_32 (fun _ => ?_) (fun c => by exfalso; omega)
          have e93 : am_up M 86 0 0 93 (24 * p + 4 * s + x) = M 93 (24 * p + 4 * s + x) := am_upn (Or.inl (by omega))
          refine g9_spot_37 ?_
          refine c9_isWord (by omega) (fun hw => ?_) (fun hw => ?_)
          · refine g9_spot_43 (fun _ => ?_) (fun c => by exfalso; omega)
            refine g9_spot_49 (by omega) (by omega) (by omega) (by omega) (by omega) (by omega) (by omega) (by omega) (by omega) (by omega) ?_
            rw [e93]
            rw [ek] at hw
            exact k1 ⟨hg0, hg1, hg2, hg3⟩ hw
          · refine g9_spot_43 (fun c => by exfalso; omega) (fun _ => ?_)
            rw [ek] at hw
            exact g9_spot_46 (k2 ⟨hg0, hg1, hg2, hg3⟩ hw)
        · rw [if_neg (by first | exact hg3 | omega)]
          refine g9_spot_32 (fun c => by exfalso; omega) (fun _ => ?_)
          exact g9_spot_35 (k0 (fun h => hg3 h.2.2.2))
      · rw [if_neg (by first | exact hg2 | omega)]
        refine g9_spot_24 (fun _ => ?_) (fun c => by exfalso; omega)
        exact g9_spot_35 (k0 (fun h => hg2 h.2.2.1))
    · rw [if_neg (by first | exact hg1 | omega)]
      refine g9_spot_16 (fun _ => ?_) (fun c => by exfalso; omega)
      exact g9_spot_35 (k0 (fun h => hg1 h.2.1))
  · rw [if_neg (by first | exact hg0 | omega)]
    refine g9_spot_9 (fun _ => ?_) (fun c => by exfalso; omega)
    exact g9_spot_35 (k0 (fun h => hg0 h.1))

theorem c9_end {M : am_M} {Q : Option am_V → am_M → Prop} {p s w : Int} (hk : 2 ≤ M 86 1 ∧ M 86 1 ≤ 4) (k1 : (0 ≤ p ∧ p ≤ 3) ∧ (0 ≤ s ∧ s ≤ 5) → (w = -1 ∨ isw (M 86 1) w) → Q (some (vi (M 94 (6 * p + s)))) (am_up (am_up M 86 0 0) 94 (6 * p + s) w)) (k2 : (0 ≤ p ∧ p ≤ 3) ∧ (0 ≤ s ∧ s ≤ 5) → ¬ (w = -1 ∨ isw (M 86 1) w) → Q (some (vi (-2))) (am_up M 86 0 0)) (k0 : ¬ ((0 ≤ p ∧ p ≤ 3) ∧ (0 ≤ s ∧ s ≤ 5)) → Q (some (vi (-1))) (am_up M 86 0 0)) : am_CallN m9_end [vr 86, vi p, vi s, vi w] KS M Q := by
  have ek : am_up M 86 0 0 86 1 = M 86 1 := am_upn (Or.inr (by omega))
  refine am_callN_of (by decide +kernel) rfl rfl (Nat.le_of_ble_eq_true rfl) ?_
  refine g9_end_0 ?_
  refine c9_noProgram ?_
  by_cases hg0 : 0 ≤ p ∧ p ≤ 3
  · rw [if_pos (by first | exact hg0 | omega)]
    refine g9_end_9 (fun c => by exfalso; omega) (fun _ => ?_)
    refine g9_end_12 ?_
    refine c9_noPoint ?_
    by_cases hg1 : 0 ≤ s ∧ s ≤ 5
    · rw [if_pos (by first | exact hg1 | omega)]
      refine g9_end_16 (fun _ => ?_) (fun c => by exfalso; omega)
      have e94 : am_up M 86 0 0 94 (6 * p + s) = M 94 (6 * p + s) := am_upn (Or.inl (by omega))
      have yes : (w = -1 ∨ isw (M 86 1) w) → am_AtN m9_end 37 [some (vr 86), some (vi p), some (vi s), some (vi w), none] [] KS (am_up M 86 0 0) Q := fun h => by
        refine g9_end_37 (by omega) (by omega) (by omega) (by omega) (by omega) (by omega) (by omega) (by omega) ?_
        rw [e94]
        exact k1 ⟨hg0, hg1⟩ h
      refine g9_end_21 (fun c => yes (Or.inl c)) (fun c => ?_)
      refine g9_end_26 ?_
      refine c9_isWord (by omega) (fun hw => ?_) (fun hw => ?_)
      · rw [ek] at hw
        exact g9_end_31 (fun _ => yes (Or.inr hw)) (fun c => by exfalso; omega)
      · rw [ek] at hw
        refine g9_end_31 (fun c => by exfalso; omega) (fun _ => ?_)
        exact g9_end_34 (k2 ⟨hg0, hg1⟩ (fun h => h.elim c hw))
    · rw [if_neg (by first | exact hg1 | omega)]
      refine g9_end_16 (fun c => by exfalso; omega) (fun _ => ?_)
      exact g9_end_19 (k0 (fun h => hg1 h.2))
  · rw [if_neg (by first | exact hg0 | omega)]
    refine g9_end_9 (fun _ => ?_) (fun c => by exfalso; omega)
    exact g9_end_19 (k0 (fun h => hg0 h.1))

theorem c9_of {M : am_M} {Q : Option am_V → am_M → Prop} {p s x w : Int} (hk : 2 ≤ M 86 1 ∧ M 86 1 ≤ 4) (k1 : (0 ≤ p ∧ p ≤ 3) ∧ (0 ≤ s ∧ s ≤ 5) ∧ (0 ≤ x ∧ x ≤ M 86 1) → ¬ (¬ (0 ≤ w ∧ w ≤ 1) ∨ (x = M 86 1 ∧ w = 0)) → Q (some (vi (if x = M 86 1 then M 94 (6 * p + s) else if w = 0 then M 92 (24 * p + 4 * s + x) else M 93 (24 * p + 4 * s + x)))) (am_up M 86 0 0)) (k2 : (0 ≤ p ∧ p ≤ 3) ∧ (0 ≤ s ∧ s ≤ 5) ∧ (0 ≤ x ∧ x ≤ M 86 1) → (¬ (0 ≤ w ∧ w ≤ 1) ∨ (x = M 86 1 ∧ w = 0)) → Q (some (vi (-2))) (am_up M 86 0 0)) (k0 : ¬ ((0 ≤ p ∧ p ≤ 3) ∧ (0 ≤ s ∧ s ≤ 5) ∧ (0 ≤ x ∧ x ≤ M 86 1)) → Q (some (vi (-1))) (am_up M 86 0 0)) : am_CallN m9_of [vr 86, vi p, vi s, vi x, vi w] KS M Q := by
  have ek : am_up M 86 0 0 86 1 = M 86 1 := am_upn (Or.inr (by omega))
  refine am_callN_of (by decide +kernel) rfl rfl (Nat.le_of_ble_eq_true rfl) ?_
  refine g9_of_0 ?_
  refine c9_noProgram ?_
  by_cases hg0 : 0 ≤ p ∧ p ≤ 3
  · rw [if_pos (by first | exact hg0 | omega)]
    refine g9_of_9 (fun c => by exfalso; omega) (fun _ => ?_)
    refine g9_of_12 ?_
    refine c9_noPoint ?_
    by_cases hg1 : 0 ≤ s ∧ s ≤ 5
    · rw [if_pos (by first | exact hg1 | omega)]
      refine g9_of_16 (fun c => by exfalso; omega) (fun _ => ?_)
      refine g9_of_19 ?_
      refine c9_in ?_
      by_cases hg2 : 0 ≤ x ∧ x ≤ M 86 1
      · rw [if_pos (by first | exact hg2 | omega)]
        refine g9_of_30 (fun _ => ?_) (fun c => by exfalso; omega)
        have e94 : am_up M 86 0 0 94 (6 * p + s) = M 94 (6 * p + s) := am_upn (Or.inl (by omega))
        have e93 : am_up M 86 0 0 93 (24 * p + 4 * s + x) = M 93 (24 * p + 4 * s + x) := am_upn (Or.inl (by omega))
        have e92 : am_up M 86 0 0 92 (24 * p + 4 * s + x) = M 92 (24 * p + 4 * s + x) := am_upn (Or.inl (by omega))
        have k1 := k1 ⟨hg0, hg1, hg2⟩
        have k2 := k2 ⟨hg0, hg1, hg2⟩
        have fin : ¬ (¬ (0 ≤ w ∧ w ≤ 1) ∨ (x = M 86 1 ∧ w = 0)) → am_AtN m9_of 62 [some (vr 86), some (vi p), some (vi s), some (vi x), some (vi w), none] [] KS (am_up M 86 0 0) Q := fun h => by
          have k1 := k1 h
          refine g9_of_62 (by omega) (by omega) (by omega) (by omega) (fun c => ?_) (fun c => ?_)
          · rw [if_neg (by omega)] at k1
            refine g9_of_96 (fun c2 => ?_) (fun c2 => ?_)
            · rw [if_neg c2] at k1
              refine g9_of_111 (by omega) (by omega) ?_
              rw [e93]
              exact g9_of_118 k1
            · rw [if_pos c2] at k1
              refine g9_of_101 (by omega) (by omega) ?_
              rw [e92]
              exact g9_of_118 k1
          · rw [if_pos (by omega)] at k1
            refine g9_of_82 (by omega) (by omega) (by omega) (by omega) ?_
            rw [e94]
            exact g9_of_118 k1
        refine g9_of_35 ?_
        refine c9_in ?_
        by_cases hw : 0 ≤ w ∧ w ≤ 1
        · rw [if_pos hw]
          refine g9_of_43 (fun c => by exfalso; omega) (fun _ => ?_)
          refine g9_of_46 (fun c => fin (by omega)) (fun c => ?_)
          exact g9_of_54 (fun c => fin (by omega)) (fun c => g9_of_59 (k2 (by omega)))
        · rw [if_neg hw]
          refine g9_of_43 (fun _ => ?_) (fun c => by exfalso; omega)
          exact g9_of_59 (k2 (by omega))
      · rw [if_neg (by first | exact hg2 | omega)]
        refine g9_of_30 (fun c => by exfalso; omega) (fun _ => ?_)
        exact g9_of_33 (k0 (fun h => hg2 h.2.2))
    · rw [if_neg (by first | exact hg1 | omega)]
      refine g9_of_16 (fun _ => ?_) (fun c => by exfalso; omega)
      exact g9_of_33 (k0 (fun h => hg1 h.2.1))
  · rw [if_neg (by first | exact hg0 | omega)]
    refine g9_of_9 (fun _ => ?_) (fun c => by exfalso; omega)
    exact g9_of_33 (k0 (fun h => hg0 h.1))
