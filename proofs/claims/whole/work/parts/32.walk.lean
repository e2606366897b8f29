/-! ===== claims: the walk over the places ===== -/
def RC (M : am_M) (q : List (Int × Int)) : Prop := M 66 2 = q.length ∧ (∀ j : Nat, j < q.length → M 68 j = (q.getD j (0, 0)).1) ∧ ∀ p : Int, 0 ≤ p ∧ p < 1296 → M 67 p = hw q p
def fC (M M' : am_M) : Prop := ∀ b j : Int, b ≠ 67 → b ≠ 68 → (b ≠ 66 ∨ j ≠ 2) → M' b j = M b j
theorem fC.rf {M : am_M} : fC M M := fun _ _ _ _ _ => rfl
theorem fC.tr {M M' M'' : am_M} (h : fC M M') (h' : fC M' M'') : fC M M'' := fun b j h1 h2 h3 => (h' b j h1 h2 h3).trans (h b j h1 h2 h3)
theorem tab_ne {a : Int} (h : tab a) : a ≠ 0 ∧ a ≠ 1 ∧ a ≠ 54 ∧ a ≠ 55 ∧ a ≠ 56 ∧ a ≠ 57 ∧ a ≠ 58 ∧ a ≠ 59 ∧ a ≠ 60 ∧ a ≠ 61 ∧ a ≠ 62 ∧ a ≠ 66 ∧ a ≠ 67 ∧ a ≠ 68 ∧ a ≠ 69 ∧ a ≠ 70 ∧ a ≠ 71 ∧ a ≠ 72 ∧ a ≠ 73 ∧ a ≠ 74 ∧ a ≠ 75 ∧ a ≠ 76 ∧ a ≠ 77 ∧ a ≠ 78 ∧ a ≠ 79 ∧ a ≠ 80 ∧ a ≠ 81 ∧ a ≠ 82 ∧ a ≠ 83 ∧ a ≠ 84 ∧ a ≠ 85 := by
  have key : ∀ (b : Int) (e : am_C), am_kd KS b = some e → e ≠ (11, 24, []) → e ≠ (11, 6, []) → a ≠ b := by
    intro b e hb h1 h2
    rcases h with h | h
    · exact kd_ne h hb (fun x => h1 x.symm)
    · exact kd_ne h hb (fun x => h2 x.symm)
  exact ⟨key 0 _ kd0 (by simp) (by simp), key 1 _ kd1 (by simp) (by simp), key 54 _ kd54 (by simp) (by simp), key 55 _ kd55 (by simp) (by simp), key 56 _ kd56 (by simp) (by simp), key 57 _ kd57 (by simp) (by simp), key 58 _ kd58 (by simp) (by simp), key 59 _ kd59 (by simp) (by simp), key 60 _ kd60 (by simp) (by simp), key 61 _ kd61 (by simp) (by simp), key 62 _ kd62 (by simp) (by simp), key 66 _ kd66 (by simp) (by simp), key 67 _ kd67 (by simp) (by simp), key 68 _ kd68 (by simp) (by simp), key 69 _ kd69 (by simp) (by simp), key 70 _ kd70 (by simp) (by simp), key 71 _ kd71 (by simp) (by simp), key 72 _ kd72 (by simp) (by simp), key 73 _ kd73 (by simp) (by simp), key 74 _ kd74 (by simp) (by simp), key 75 _ kd75 (by simp) (by simp), key 76 _ kd76 (by simp) (by simp), key 77 _ kd77 (by simp) (by simp), key 78 _ kd78 (by simp) (by simp), key 79 _ kd79 (by simp) (by simp), key 80 _ kd80 (by simp) (by simp), key 81 _ kd81 (by simp) (by simp), key 82 _ kd82 (by simp) (by simp), key 83 _ kd83 (by simp) (by simp), key 84 _ kd84 (by simp) (by simp), key 85 _ kd85 (by simp) (by simp)⟩
theorem fC.tab {M M' : am_M} (h : fC M M') : ∀ a j : Int, tab a → M' a j = M a j := fun a j ht => by
  have := tab_ne ht
  exact h a j (by omega) (by omega) (Or.inl (by omega))
theorem clm.of {M M' : am_M} {k : Int} {c : CD} (h : clm M k c) (hf : fC M M') : clm M' k c := by
  obtain ⟨A, P, q, B⟩ := c
  obtain ⟨h1, h2, h3, h4, h5⟩ := h
  have e : ∀ j : Int, j ≠ 2 → M' 66 j = M 66 j := fun j hj => hf 66 j (by omega) (by omega) (Or.inr hj)
  refine ⟨by rw [e 3 (by omega)]; exact h1.of hf.tab, by rw [e 4 (by omega)]; exact h2.of hf.tab, ?_, by rw [e 6 (by omega)]; exact h4.of hf.tab, by rw [e 7 (by omega)]; exact h5⟩
  match q, h3 with
  | none, h3 =>
    show M' 66 5 = -1
    rw [e 5 (by omega)]
    exact h3
  | some P2, h3 =>
    show M' 66 5 ≠ -1 ∧ isP M' (M' 66 5) P2
    rw [e 5 (by omega)]
    exact ⟨h3.1, h3.2.of hf.tab⟩
theorem c2_meet {M : am_M} {Q : Option am_V → am_M → Prop} {p h : Int} {q : List (Int × Int)} (hR : RC M q) (hq : hok q) (hp : 0 ≤ p ∧ p < 1296) (hl : hw q p = -2 → (q.length : Int) < 1296) (k : ∀ M', RC M' (if hw q p = -2 then q ++ [(p, h)] else q) → fC M M' → Q none M') : am_CallN m2_meet [vr 66, vi p, vi h] KS M Q := by
  refine am_callN_of (by decide +kernel) rfl rfl (Nat.le_of_ble_eq_true rfl) ?_
  refine g2_meet_0 ?_
  refine c8_in hp ?_
  refine g2_meet_7 (fun c => by exfalso; omega) (fun _ => ?_)
  refine g2_meet_10 hp.1 hp.2 (fun c => ?_) (fun c => ?_)
  · rw [hR.2.2 p hp] at c
    refine g2_meet_34 (k M ?_ fC.rf)
    rw [if_neg c]
    exact hR
  · rw [hR.2.2 p hp] at c
    have hl := hl c
    have e0 := hR.1
    refine g2_meet_21 ?_
    refine c8_in (by omega) ?_
    refine g2_meet_31 (fun _ => ?_) (fun c => by exfalso; omega)
    have e1 : am_up M 67 p h 66 2 = q.length := by rw [am_upn (Or.inl (by omega)), e0]
    have e2 : am_up (am_up M 67 p h) 68 (am_up M 67 p h 66 2) p 66 2 = q.length := by rw [am_upn (Or.inl (by omega)), e1]
    refine g2_meet_35 hp.1 hp.2 (by rw [e1]; omega) (by rw [e1]; omega) (by rw [e2]; omega) ?_
    rw [e2, e1]
    refine k _ ?_ (fun b j h1 h2 h3 => ?_)
    · rw [if_pos c]
      refine ⟨by rw [am_up_hit]; simp, fun j hj => ?_, fun p' hp' => ?_⟩
      · rw [am_upn (Or.inl (by omega))]
        by_cases hjl : j = q.length
        · subst hjl
          rw [am_up_hit]
          simp [List.getD]
        · have hj' : j < q.length := by simp at hj; omega
          rw [am_upn (Or.inr (by omega)), am_upn (Or.inl (by omega)), hR.2.1 j hj']
          simp [List.getD, List.getElem?_append_left hj']
      · rw [am_upn (Or.inl (by omega)), am_upn (Or.inl (by omega)), hw_app hq]
        by_cases hpp : p' = p
        · subst hpp
          rw [am_up_hit, if_pos c, if_pos rfl]
        · rw [am_upn (Or.inr hpp), hR.2.2 p' hp']
          by_cases e : hw q p' = -2
          · rw [if_pos e, if_neg (fun e => hpp e.symm), e]
          · rw [if_neg e]
    · rw [am_upn (by omega), am_upn (Or.inl h2), am_upn (Or.inl h1)]
theorem c2_explore {M : am_M} {Q : Option am_V → am_M → Prop} {k : Int} {c : CD} (hc : clm M k c) (hok : okC k c) (kk : ∀ M', RC M' (bf (af c) k.toNat 1296) → fC M M' → Q none M') : am_CallN m2_explore [vr 66] KS M Q := by
  have hk := hok.1
  have hsc : ∀ p x : Int, 0 ≤ p → p < ((1296 : Nat) : Int) → 0 ≤ x → x < (k.toNat : Int) → 0 ≤ af c p x ∧ af c p x < ((1296 : Nat) : Int) := fun p x h0 h1 h2 h3 => af_rng hok ⟨h0, h1⟩ ⟨h2, by omega⟩
  have hB := bok_bf (NS := ((1296 : Nat) : Int)) (sc := af c) (k := k.toNat) (by omega) (by omega) hsc
  refine am_callN_of (by decide +kernel) rfl rfl (Nat.le_of_ble_eq_true rfl) ?_
  refine g2_explore_0 ?_
  refine cJ_fill kd67 (by omega) ?_
  refine g2_explore_9 ?_
  have hf0 : fC M (am_up (am_fl M 67 0 1296 (fun _ => -2)) 66 2 0) := fun b j h1 h2 h3 => by
    rw [am_upn (by omega), am_fl_out (by omega)]
  have hR0 : RC (am_up (am_fl M 67 0 1296 (fun _ => -2)) 66 2 0) [] := by
    refine ⟨am_up_hit, fun j hj => absurd hj (by simp), fun p hp => ?_⟩
    rw [am_upn (Or.inl (by omega)), am_fl_in hp]
    rfl
  refine c2_meet (q := []) hR0 (fun e he => by cases he) (by omega) (fun _ => by simp) (fun M1 hR1 hf1 => ?_)
  rw [if_pos (show hw [] 0 = -2 from rfl)] at hR1
  refine g2_explore_20 ?_
  have key : ∀ (d : Nat) (i : Nat) (M2 : am_M), i + d = 1296 → RC M2 (bf (af c) k.toNat i) → fC M M2 → am_AtN m2_explore 22 [some (vr 66), some (vi (i : Int)), none, none] [] KS M2 Q := by
    intro d
    induction d with
    | zero =>
      intro i M2 hi hR hf
      have hl := (hB i).bound
      refine g2_explore_22 (fun _ => ?_) (fun c => by exfalso; rw [hR.1] at c; omega)
      refine g2_explore_81 (kk M2 ?_ hf)
      rw [show (1296 : Nat) = i by omega]
      exact hR
    | succ d ih =>
      intro i M2 hi hR hf
      by_cases hlt : i < (bf (af c) k.toNat i).length
      · obtain ⟨e, he⟩ : ∃ e, (bf (af c) k.toNat i)[i]? = some e := ⟨_, List.getElem?_eq_getElem hlt⟩
        have heb := (hB i).2.2.1 e (List.mem_of_getElem? he)
        have em : M2 68 i = e.1 := by
          rw [hR.2.1 i hlt]
          simp [List.getD, he]
        refine g2_explore_22 (fun c => by exfalso; rw [hR.1] at c; omega) (fun _ => ?_)
        refine g2_explore_30 (fun c => by exfalso; omega) (fun _ => ?_)
        refine g2_explore_37 (by omega) (by omega) ?_
        rw [em]
        refine am_forR (fun x ls M3 => ls = [some (vr 66), some (vi (i : Int)), some (vi e.1), some (vi x)] ∧ RC M3 (br (af c) (bf (af c) k.toNat i) e.1 x.toNat) ∧ fC M M3) 0 k (by omega) ⟨rfl, hR, hf⟩ ?_ ?_
        · rintro ls M3 ⟨rfl, hR3, hf3⟩
          have ck := (hc.of hf3).2.2.2.2
          refine g2_explore_46 (fun _ => ?_) (fun c => by exfalso; omega)
          refine g2_explore_75 (by omega) ?_
          refine ih (i + 1) M3 (by omega) ?_ hf3
          rw [bf_s he]
          exact hR3
        · rintro x ls M3 hx0 hx1 ⟨rfl, hR3, hf3⟩ ihx
          have hc3 := hc.of hf3
          have ck := hc3.2.2.2.2
          have hbr := bok_br (h0 := e.2) (sc := af c) (hB i) he x.toNat (by omega) (fun y h0 h1 => hsc e.1 y heb.1 heb.2 h0 (by omega))
          have hbr2 := bok_br (h0 := e.2) (sc := af c) (hB i) he (x.toNat + 1) (by omega) (fun y h0 h1 => hsc e.1 y heb.1 heb.2 h0 (by omega))
          have ha := hsc e.1 x heb.1 heb.2 hx0 (by omega)
          have ebs : br (af c) (bf (af c) k.toNat i) e.1 (x.toNat + 1) = bs (af c) (br (af c) (bf (af c) k.toNat i) e.1 x.toNat) e.1 x := by
            rw [br, show ((x.toNat : Nat) : Int) = x by omega]
          rw [ebs] at hbr2
          refine g2_explore_46 (fun c => by exfalso; omega) (fun _ => ?_)
          refine g2_explore_54 ?_
          refine c2_after hc3 hok heb ⟨hx0, hx1⟩ ?_
          have heb2 : 0 ≤ e.1 ∧ e.1 < 1296 := heb
          refine g2_explore_61 (by omega) (by omega) kd66 ?_
          refine c2_meet hR3 hbr.1 ha (fun hn => ?_) (fun M4 hR4 hf4 => ?_)
          · have := hbr2.bound
            unfold bs at this
            rw [if_pos hn] at this
            simp at this
            omega
          · refine g2_explore_69 (by omega) ?_
            refine ihx _ M4 ⟨rfl, ?_, hf3.tr hf4⟩
            rw [show (x + 1).toNat = x.toNat + 1 by omega, ebs]
            exact hR4
      · refine g2_explore_22 (fun _ => ?_) (fun c => by exfalso; rw [hR.1] at c; omega)
        refine g2_explore_81 (kk M2 ?_ hf)
        rw [bf_end (i := i) (n := 1296) (by omega) (by omega)]
        exact hR
  exact key 1296 0 M1 (by omega) hR1 (hf0.tr hf1)
