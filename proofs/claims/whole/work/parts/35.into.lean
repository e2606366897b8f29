/-! ===== pairs: the sentence that is made ===== -/
def fQ (M M' : am_M) : Prop := ∀ b j : Int, b ≠ 61 → b ≠ 62 → b ≠ 64 → b ≠ 65 → (b ≠ 60 ∨ j ≠ 3) → M' b j = M b j
theorem fQ.rf {M : am_M} : fQ M M := fun _ _ _ _ _ _ _ => rfl
theorem fP.fq {M M' : am_M} (h : fP M M') : fQ M M' := fun b j h1 h2 _ _ h3 => h b j h1 h2 h3
theorem fQ.tr {M M' M'' : am_M} (h : fQ M M') (h' : fQ M' M'') : fQ M M'' := fun b j h1 h2 h3 h4 h5 => (h' b j h1 h2 h3 h4 h5).trans (h b j h1 h2 h3 h4 h5)
/-- a sentence whose cells are not those of the one that is being made -/
def isT (M : am_M) (o : Int) (A : Sn) : Prop := ∃ n h : Int, n ≠ 64 ∧ h ≠ 65 ∧ am_kd KS o = some (6, 2, [n, h]) ∧ am_kd KS n = some (11, 24, []) ∧ am_kd KS h = some (11, 6, []) ∧ (∀ p x : Int, 0 ≤ p ∧ p < 6 → 0 ≤ x ∧ x < 4 → M n (p * 4 + x) = A.1 p x) ∧ ∀ p : Int, 0 ≤ p ∧ p < 6 → M h p = A.2 p
theorem isT.s {M : am_M} {o : Int} {A : Sn} (h : isT M o A) : isS M o A := by
  obtain ⟨n, h, -, -, h'⟩ := h
  exact ⟨n, h, h'⟩
theorem isT.of {M M' : am_M} {o : Int} {A : Sn} (h : isT M o A) (hf : fQ M M') : isT M' o A := by
  obtain ⟨n, h, h1, h2, h3, h4, h5, h6, h7⟩ := h
  have t1 := tab_ne (Or.inl h4)
  have t2 := tab_ne (Or.inr h5)
  have n1 : n ≠ 65 := kd_ne h4 kd65 (by simp)
  have n2 : h ≠ 64 := kd_ne h5 kd64 (by simp)
  exact ⟨n, h, h1, h2, h3, h4, h5, fun p x hp hx => by rw [hf n _ (by omega) (by omega) h1 n1 (Or.inl (by omega))]; exact h6 p x hp hx, fun p hp => by rw [hf h _ (by omega) (by omega) n2 h2 (Or.inl (by omega))]; exact h7 p hp⟩
def bq (k : Int) (A B : Sn) : List (Int × Int) := bf (ap A B) k.toNat 36
def bn (A B : Sn) (q : List (Int × Int)) (p x : Int) : Int := nbr q (ap A B (q.getD p.toNat (0, 0)).1 x)
def bh (A B : Sn) (q : List (Int × Int)) (p : Int) : Int := if A.2 ((q.getD p.toNat (0, 0)).1 / 6) = 1 then (if B.2 ((q.getD p.toNat (0, 0)).1 % 6) = 1 then 1 else 0) else 0
def bo (k : Int) (A B : Sn) : Sn := (fun p x => if p < (bq k A B).length ∧ x < k then bn A B (bq k A B) p x else 0, fun p => if p < (bq k A B).length then bh A B (bq k A B) p else 1)
theorem c3_into {M : am_M} {Q : Option am_V → am_M → Prop} {k t nt ht a b : Int} {A B : Sn} (hk : 2 ≤ k ∧ k ≤ 4) (kt : am_kd KS t = some (6, 2, [nt, ht])) (knt : am_kd KS nt = some (11, 24, [])) (kht : am_kd KS ht = some (11, 6, [])) (tne : nt ≠ 64) (tne2 : ht ≠ 65) (hA : isT M a A) (hB : isT M b B) (oA : okS A) (oB : okS B)
    (k1 : (6 : Int) < (bq k A B).length → ∀ M', fQ M M' → Q (some (vi (-4))) M')
    (k2 : ((bq k A B).length : Int) ≤ 6 → ∀ M', (∀ p x : Int, 0 ≤ p ∧ p < 6 → 0 ≤ x ∧ x < 4 → M' nt (p * 4 + x) = (bo k A B).1 p x) → (∀ p : Int, 0 ≤ p ∧ p < 6 → M' ht p = (bo k A B).2 p) → (∀ b j : Int, b ≠ 61 → b ≠ 62 → b ≠ 64 → b ≠ 65 → (b ≠ 60 ∨ j ≠ 3) → b ≠ nt → b ≠ ht → M' b j = M b j) → Q (some (vi (bq k A B).length)) M') : am_CallN m3_into [vr 60, vr t, vr a, vr b, vi k] KS M Q := by
  have hsc : ∀ p x : Int, 0 ≤ p → p < ((36 : Nat) : Int) → 0 ≤ x → x < (k.toNat : Int) → 0 ≤ ap A B p x ∧ ap A B p x < ((36 : Nat) : Int) := fun p x h0 h1 h2 h3 => ap_rng oA oB ⟨h0, h1⟩ ⟨h2, by omega⟩
  have hB0 := bok_bf (NS := ((36 : Nat) : Int)) (sc := ap A B) (k := k.toNat) (by omega) (by omega) hsc 36
  refine am_callN_of (by decide +kernel) rfl rfl (Nat.le_of_ble_eq_true rfl) ?_
  refine g3_into_0 ?_
  refine c3_explore hk hA.s hB.s oA oB (fun M1 hR hf1 => ?_)
  have hl := hR.1
  change _ = ((bq k A B).length : Int) at hl
  refine g3_into_8 (fun c => ?_) (fun c => ?_)
  · rw [hl] at c
    refine g3_into_20 ?_
    refine c6_startAnew kd63 kd64 kd65 ?_
    refine g3_into_27 ?_
    have hq : ∀ i : Int, 0 ≤ i → i < (bq k A B).length → 0 ≤ ((bq k A B).getD i.toNat (0, 0)).1 ∧ ((bq k A B).getD i.toNat (0, 0)).1 < 36 := by
      intro i h0 h1
      have hi : i.toNat < (bq k A B).length := by omega
      have e : (bq k A B).getD i.toNat (0, 0) = (bq k A B)[i.toNat] := by simp [List.getD, List.getElem?_eq_getElem hi]
      rw [e]
      exact hB0.2.2.1 _ (List.getElem_mem hi)
    refine am_forR (fun i ls M' => ls = [some (vr 60), some (vr t), some (vr a), some (vr b), some (vi k), some (vi i), none, none] ∧ RP M' (bq k A B) ∧ fQ M M' ∧ (∀ p x : Int, 0 ≤ p ∧ p < 6 → 0 ≤ x ∧ x < 4 → M' 64 (p * 4 + x) = if p < i ∧ x < k then bn A B (bq k A B) p x else 0) ∧ ∀ p : Int, 0 ≤ p ∧ p < 6 → M' 65 p = if p < i then bh A B (bq k A B) p else 1) 0 (bq k A B).length (by omega) ⟨rfl, ⟨?_, ?_, ?_⟩, ?_, ?_, ?_⟩ ?_ ?_
    · rw [am_fl_out (by omega), am_fl_out (by omega)]
      exact hl
    · intro j hj
      rw [am_fl_out (by omega), am_fl_out (by omega)]
      exact hR.2.1 j hj
    · intro p hp
      rw [am_fl_out (by omega), am_fl_out (by omega)]
      exact hR.2.2 p hp
    · intro b j h1 h2 h3 h4 h5
      rw [am_fl_out (by omega), am_fl_out (by omega)]
      exact hf1 b j h1 h2 h5
    · intro p x hp hx
      rw [am_fl_out (by omega), am_fl_in (by omega), if_neg (by omega)]
    · intro p hp
      rw [am_fl_in (by omega), if_neg (by omega)]
    · rintro ls M2 ⟨rfl, hR2, hf2, hn2, hh2⟩
      refine g3_into_30 (fun _ => ?_) (fun c => by exfalso; rw [hR2.1] at c; omega)
      refine g3_into_132 kt ?_
      refine c6_copy kt knt kht kd63 kd64 kd65 ?_
      have n1 : nt ≠ 65 := kd_ne knt kd65 (by simp)
      have n2 : ht ≠ 64 := kd_ne kht kd64 (by simp)
      have n3 : nt ≠ ht := kd_ne knt kht (by simp)
      have t1 := tab_ne (Or.inl knt)
      have t2 := tab_ne (Or.inr kht)
      have e1 : am_cp (am_cp M2 nt 64 24) ht 65 6 60 3 = ((bq k A B).length : Int) := by
        unfold am_cp
        rw [if_neg (by omega), if_neg (by omega)]
        exact hR2.1
      refine g3_into_140 ?_
      rw [e1]
      refine k2 c _ (fun p x hp hx => ?_) (fun p hp => ?_) (fun b j h1 h2 h3 h4 h5 h6 h7 => ?_)
      · have : am_cp (am_cp M2 nt 64 24) ht 65 6 nt (p * 4 + x) = M2 64 (p * 4 + x) := by
          unfold am_cp
          rw [if_neg (by omega), if_pos (by omega)]
        rw [this, hn2 p x hp hx]
        rfl
      · have : am_cp (am_cp M2 nt 64 24) ht 65 6 ht p = M2 65 p := by
          unfold am_cp
          rw [if_pos (by omega), if_neg (by omega)]
        rw [this, hh2 p hp]
        rfl
      · have : am_cp (am_cp M2 nt 64 24) ht 65 6 b j = M2 b j := by
          unfold am_cp
          rw [if_neg (by omega), if_neg (by omega)]
        rw [this]
        exact hf2 b j h1 h2 h3 h4 h5
    · rintro i ls M2 hi0 hi1 ⟨rfl, hR2, hf2, hn2, hh2⟩ ih
      have hqi := hq i hi0 hi1
      have ei : M2 62 i = ((bq k A B).getD i.toNat (0, 0)).1 := by
        have := hR2.2.1 i.toNat (by omega)
        rw [show ((i.toNat : Nat) : Int) = i by omega] at this
        exact this
      obtain ⟨ra, ka⟩ := hA.s.kd
      obtain ⟨rb, kb⟩ := hB.s.kd
      have hA2 := hA.of hf2
      have hB2 := hB.of hf2
      refine g3_into_30 (fun c => by exfalso; rw [hR2.1] at c; omega) (fun _ => ?_)
      refine g3_into_39 hi0 (by omega) (by rw [ei]; omega) ka ?_
      rw [ei]
      generalize hpr : ((bq k A B).getD i.toNat (0, 0)).1 = pr at *
      refine q6_holdsAt hA2.s (by omega) ?_
      have goal2 : ∀ v : Int, v = bh A B (bq k A B) i → (v = 0 ∨ v = 1) → am_AtN m3_into 83 [some (vr 60), some (vr t), some (vr a), some (vr b), some (vi k), some (vi i), some (vi pr), none] [vi v, vi i, vr 63] KS M2 Q := by
        intro v hv hv01
        refine g3_into_83 kd63 ?_
        refine c6_hold kd63 kd64 kd65 (by omega) hv01 ?_
        refine g3_into_86 ?_
        refine am_forR (fun y ls M' => ls = [some (vr 60), some (vr t), some (vr a), some (vr b), some (vi k), some (vi i), some (vi pr), some (vi y)] ∧ RP M' (bq k A B) ∧ fQ M M' ∧ (∀ p x : Int, 0 ≤ p ∧ p < 6 → 0 ≤ x ∧ x < 4 → M' 64 (p * 4 + x) = if (p < i ∨ p = i ∧ x < y) ∧ x < k then bn A B (bq k A B) p x else 0) ∧ ∀ p : Int, 0 ≤ p ∧ p < 6 → M' 65 p = if p < i + 1 then bh A B (bq k A B) p else 1) 0 k (by omega) ⟨rfl, ⟨?_, ?_, ?_⟩, ?_, ?_, ?_⟩ ?_ ?_
        · rw [am_upn (Or.inl (by omega))]
          exact hR2.1
        · intro j hj
          rw [am_upn (Or.inl (by omega))]
          exact hR2.2.1 j hj
        · intro p hp
          rw [am_upn (Or.inl (by omega))]
          exact hR2.2.2 p hp
        · intro b j h1 h2 h3 h4 h5
          rw [am_upn (Or.inl (by omega))]
          exact hf2 b j h1 h2 h3 h4 h5
        · intro p x hp hx
          rw [am_upn (Or.inl (by omega)), hn2 p x hp hx]
          by_cases e : p < i ∧ x < k
          · rw [if_pos e, if_pos (by omega)]
          · rw [if_neg e, if_neg (by omega)]
        · intro p hp
          by_cases e : p = i
          · subst e
            rw [am_up_hit, if_pos (by omega)]
            exact hv
          · rw [am_upn (Or.inr e), hh2 p hp]
            by_cases e2 : p < i
            · rw [if_pos e2, if_pos (by omega)]
            · rw [if_neg e2, if_neg (by omega)]
        · rintro ls M3 ⟨rfl, hR3, hf3, hn3, hh3⟩
          refine g3_into_89 (fun _ => ?_) (fun c => by exfalso; omega)
          refine g3_into_126 (by omega) ?_
          refine ih _ M3 ⟨rfl, hR3, hf3, fun p x hp hx => ?_, hh3⟩
          rw [hn3 p x hp hx]
          by_cases e : (p < i ∨ p = i ∧ x < k) ∧ x < k
          · rw [if_pos e, if_pos (by omega)]
          · rw [if_neg e, if_neg (by omega)]
        · rintro y ls M3 hy0 hy1 ⟨rfl, hR3, hf3, hn3, hh3⟩ ihy
          have hap := ap_rng oA oB hqi (x := y) (by omega)
          refine g3_into_89 (fun c => by exfalso; omega) (fun _ => ?_)
          refine g3_into_96 ?_
          refine c3_after (hA.of hf3).s (hB.of hf3).s oA oB hqi (by omega) ?_
          refine g3_into_114 kd60 ?_
          refine c3_numberOf hap ?_
          refine g3_into_117 kd63 ?_
          rw [hR3.2.2 _ hap]
          refine c6_lead kd63 kd64 kd65 (by omega) (by omega) ?_
          refine g3_into_120 (by omega) ?_
          refine ihy _ _ ⟨rfl, ⟨?_, ?_, ?_⟩, ?_, ?_, ?_⟩
          · rw [am_upn (Or.inl (by omega))]
            exact hR3.1
          · intro j hj
            rw [am_upn (Or.inl (by omega))]
            exact hR3.2.1 j hj
          · intro p hp
            rw [am_upn (Or.inl (by omega))]
            exact hR3.2.2 p hp
          · intro b j h1 h2 h3 h4 h5
            rw [am_upn (Or.inl (by omega))]
            exact hf3 b j h1 h2 h3 h4 h5
          · intro p x hp hx
            by_cases e : p = i ∧ x = y
            · obtain ⟨rfl, rfl⟩ := e
              rw [am_up_hit, if_pos (by omega)]
              unfold bn
              rw [hpr]
            · rw [am_upn (Or.inr (by omega)), hn3 p x hp hx]
              by_cases e : (p < i ∨ p = i ∧ x < y) ∧ x < k
              · rw [if_pos e, if_pos (by omega)]
              · rw [if_neg e, if_neg (by omega)]
          · intro p hp
            rw [am_upn (Or.inl (by omega))]
            exact hh3 p hp
      by_cases e1 : A.2 (pr / 6) = 1
      · rw [if_pos e1]
        refine g3_into_63 (fun c => by exfalso; omega) (fun _ => ?_)
        refine g3_into_66 hqi.1 kb ?_
        refine q6_holdsAt hB2.s (by omega) ?_
        by_cases e2 : B.2 (pr % 6) = 1
        · rw [if_pos e2]
          refine g3_into_75 (fun c => by exfalso; omega) (fun _ => ?_)
          refine g3_into_78 ?_
          refine goal2 1 ?_ (Or.inr rfl)
          unfold bh
          rw [hpr, if_pos e1, if_pos e2]
        · rw [if_neg e2]
          refine g3_into_75 (fun _ => ?_) (fun c => by exfalso; omega)
          refine g3_into_82 ?_
          refine goal2 0 ?_ (Or.inl rfl)
          unfold bh
          rw [hpr, if_pos e1, if_neg e2]
      · rw [if_neg e1]
        refine g3_into_63 (fun _ => ?_) (fun c => by exfalso; omega)
        refine g3_into_82 ?_
        refine goal2 0 ?_ (Or.inl rfl)
        unfold bh
        rw [hpr, if_neg e1]
  · rw [hl] at c
    refine g3_into_17 (k1 (by omega) M1 hf1.fq)
