/-! ===== pairs of points: the walk, and the sentence made of it ===== -/
def ix : List (Int × Int) → Int → Int
  | [], _ => 0
  | e :: l, p => if e.1 = p then 0 else ix l p + 1
def nbr (q : List (Int × Int)) (p : Int) : Int := if hw q p = -2 then -2 else ix q p
theorem ix_app {p : Int} {e : Int × Int} : ∀ {q : List (Int × Int)}, hok q → ix (q ++ [e]) p = if hw q p = -2 then (if e.1 = p then (q.length : Int) else q.length + 1) else ix q p
  | [], _ => by
    by_cases h : e.1 = p <;> simp [ix, hw, h]
  | d :: l, h => by
    have ih := ix_app (p := p) (e := e) (q := l) (fun x hx => h x (List.mem_cons_of_mem _ hx))
    have hd := h d List.mem_cons_self
    show (if d.1 = p then (0 : Int) else ix (l ++ [e]) p + 1) = if (if d.1 = p then d.2 else hw l p) = -2 then _ else (if d.1 = p then (0 : Int) else ix l p + 1)
    by_cases h1 : d.1 = p
    · rw [if_pos h1, if_pos h1, if_pos h1, if_neg (by omega)]
    · rw [if_neg h1, if_neg h1, if_neg h1, ih]
      by_cases h2 : hw l p = -2
      · rw [if_pos h2, if_pos h2]
        by_cases h3 : e.1 = p
        · rw [if_pos h3, if_pos h3]
          simp
        · rw [if_neg h3, if_neg h3]
          simp
      · rw [if_neg h2, if_neg h2]
theorem ix_rng {p : Int} : ∀ {q : List (Int × Int)}, 0 ≤ ix q p ∧ ix q p ≤ q.length
  | [] => by simp [ix]
  | d :: l => by
    have ih := ix_rng (p := p) (q := l)
    show 0 ≤ (if d.1 = p then (0 : Int) else ix l p + 1) ∧ (if d.1 = p then (0 : Int) else ix l p + 1) ≤ ((d :: l).length : Int)
    simp only [List.length_cons]
    split <;> omega
theorem ix_lt {p : Int} : ∀ {q : List (Int × Int)}, hw q p ≠ -2 → ix q p < q.length
  | [], h => by simp [hw] at h
  | d :: l, h => by
    show (if d.1 = p then (0 : Int) else ix l p + 1) < ((d :: l).length : Int)
    simp only [List.length_cons]
    by_cases h1 : d.1 = p
    · rw [if_pos h1]
      omega
    · rw [if_neg h1]
      have h2 : hw (d :: l) p = hw l p := by
        conv => lhs; unfold hw
        rw [if_neg h1]
      rw [h2] at h
      have := ix_lt h
      omega
def RP (M : am_M) (q : List (Int × Int)) : Prop := M 60 3 = q.length ∧ (∀ j : Nat, j < q.length → M 62 j = (q.getD j (0, 0)).1) ∧ ∀ p : Int, 0 ≤ p ∧ p < 36 → M 61 p = nbr q p
def fP (M M' : am_M) : Prop := ∀ b j : Int, b ≠ 61 → b ≠ 62 → (b ≠ 60 ∨ j ≠ 3) → M' b j = M b j
theorem fP.rf {M : am_M} : fP M M := fun _ _ _ _ _ => rfl
theorem fP.tr {M M' M'' : am_M} (h : fP M M') (h' : fP M' M'') : fP M M'' := fun b j h1 h2 h3 => (h' b j h1 h2 h3).trans (h b j h1 h2 h3)
theorem fP.tab {M M' : am_M} (h : fP M M') : ∀ a j : Int, tab a → M' a j = M a j := fun a j ht => by
  have := tab_ne ht
  exact h a j (by omega) (by omega) (Or.inl (by omega))
def ap (A B : Sn) (p x : Int) : Int := A.1 (p / 6) x * 6 + B.1 (p % 6) x
theorem ap_rng {A B : Sn} (hA : okS A) (hB : okS B) {p x : Int} (hp : 0 ≤ p ∧ p < 36) (hx : 0 ≤ x ∧ x < 4) : 0 ≤ ap A B p x ∧ ap A B p x < 36 := by
  have h1 := hA (p / 6) x (by omega) hx
  have h2 := hB (p % 6) x (by omega) hx
  unfold ap
  omega
theorem c3_after {M : am_M} {Q : Option am_V → am_M → Prop} {a b p x : Int} {A B : Sn} (hA : isS M a A) (hB : isS M b B) (oA : okS A) (oB : okS B) (hp : 0 ≤ p ∧ p < 36) (hx : 0 ≤ x ∧ x < 4) (k : Q (some (vi (ap A B p x))) M) : am_CallN m3_after [vi p, vi x, vr a, vr b] KS M Q := by
  obtain ⟨ra, ka⟩ := hA.kd
  obtain ⟨rb, kb⟩ := hB.kd
  have h1 := oA (p / 6) x (by omega) hx
  have h2 := oB (p % 6) x (by omega) hx
  refine am_callN_of (by decide +kernel) rfl rfl (Nat.le_of_ble_eq_true rfl) ?_
  refine g3_after_0 hp.1 ka ?_
  refine q6_nextOf hA (by omega) hx ?_
  refine g3_after_9 (by omega) hp.1 kb ?_
  refine q6_nextOf hB (by omega) hx ?_
  exact g3_after_21 (by omega) k
theorem c3_numberOf {M : am_M} {Q : Option am_V → am_M → Prop} {p : Int} (hp : 0 ≤ p ∧ p < 36) (k : Q (some (vi (M 61 p))) M) : am_CallN m3_numberOf [vr 60, vi p] KS M Q := by
  refine am_callN_of (by decide +kernel) rfl rfl (Nat.le_of_ble_eq_true rfl) ?_
  refine g3_numberOf_0 ?_
  refine c8_in hp ?_
  refine g3_numberOf_6 (fun c => by exfalso; omega) (fun _ => ?_)
  refine g3_numberOf_9 hp.1 hp.2 ?_
  exact g3_numberOf_19 k
theorem c3_meet {M : am_M} {Q : Option am_V → am_M → Prop} {p h : Int} {q : List (Int × Int)} (hR : RP M q) (hq : hok q) (hh : -1 ≤ h) (hp : 0 ≤ p ∧ p < 36) (hl : hw q p = -2 → (q.length : Int) < 36) (k : ∀ M', RP M' (if hw q p = -2 then q ++ [(p, h)] else q) → fP M M' → Q none M') : am_CallN m3_meet [vr 60, vi p] KS M Q := by
  refine am_callN_of (by decide +kernel) rfl rfl (Nat.le_of_ble_eq_true rfl) ?_
  refine g3_meet_0 ?_
  refine c8_in hp ?_
  refine g3_meet_6 (fun c => by exfalso; omega) (fun _ => ?_)
  refine g3_meet_9 hp.1 hp.2 (fun c => ?_) (fun c => ?_)
  · rw [hR.2.2 p hp] at c
    refine g3_meet_32 (k M ?_ fP.rf)
    rw [if_neg (fun e => c (by unfold nbr; rw [if_pos e]))]
    exact hR
  · rw [hR.2.2 p hp] at c
    have c : hw q p = -2 := by
      by_cases e : hw q p = -2
      · exact e
      · exfalso
        unfold nbr at c
        rw [if_neg e] at c
        have := ix_rng (p := p) (q := q)
        omega
    have hl := hl c
    have e0 := hR.1
    refine g3_meet_20 ?_
    refine c8_in (by omega) ?_
    refine g3_meet_29 (fun _ => ?_) (fun c => by exfalso; omega)
    have e1 : am_up M 61 p (M 60 3) 60 3 = q.length := by rw [am_upn (Or.inl (by omega)), e0]
    have e2 : am_up (am_up M 61 p (M 60 3)) 62 (am_up M 61 p (M 60 3) 60 3) p 60 3 = q.length := by rw [am_upn (Or.inl (by omega)), e1]
    refine g3_meet_33 hp.1 hp.2 (by rw [e1]; omega) (by rw [e1]; omega) (by rw [e2]; omega) ?_
    rw [e2, e1, e0]
    refine k _ ?_ (fun b j h1 h2 h3 => ?_)
    · rw [if_pos c]
      refine ⟨by rw [am_up_hit]; simp, fun j hj => ?_, fun p' hp' => ?_⟩
      · rw [am_upn (Or.inl (by omega))]
        by_cases hjl : j = q.length
        · subst hjl
          rw [am_up_hit]
          simp [List.getD]
        · have hj' : j < q.length := by simp at hj; omega
          rw [am_upn (Or.inr (by omega)), am_upn (Or.inl (by omega)), hR.2.1 j hj']
          simp [List.getD, List.getElem?_append_left hj']
      · rw [am_upn (Or.inl (by omega)), am_upn (Or.inl (by omega))]
        unfold nbr
        rw [hw_app hq, ix_app hq]
        by_cases hpp : p' = p
        · subst hpp
          rw [am_up_hit, if_pos c, if_pos rfl, if_pos c, if_pos rfl, if_neg (by omega)]
        · rw [am_upn (Or.inr hpp), hR.2.2 p' hp']
          unfold nbr
          by_cases e : hw q p' = -2
          · rw [if_pos e, if_pos e, if_neg (show ¬ p = p' from fun e => hpp e.symm), if_pos rfl]
          · rw [if_neg e, if_neg e, if_neg e, if_neg e]
    · rw [am_upn (by omega), am_upn (Or.inl h2), am_upn (Or.inl h1)]
theorem c3_explore {M : am_M} {Q : Option am_V → am_M → Prop} {k a b : Int} {A B : Sn} (hk : 2 ≤ k ∧ k ≤ 4) (hA : isS M a A) (hB' : isS M b B) (oA : okS A) (oB : okS B) (kk : ∀ M', RP M' (bf (ap A B) k.toNat 36) → fP M M' → Q none M') : am_CallN m3_explore [vr 60, vr a, vr b, vi k] KS M Q := by
  have hsc : ∀ p x : Int, 0 ≤ p → p < ((36 : Nat) : Int) → 0 ≤ x → x < (k.toNat : Int) → 0 ≤ ap A B p x ∧ ap A B p x < ((36 : Nat) : Int) := fun p x h0 h1 h2 h3 => ap_rng oA oB ⟨h0, h1⟩ ⟨h2, by omega⟩
  have hB := bok_bf (NS := ((36 : Nat) : Int)) (sc := ap A B) (k := k.toNat) (by omega) (by omega) hsc
  refine am_callN_of (by decide +kernel) rfl rfl (Nat.le_of_ble_eq_true rfl) ?_
  refine g3_explore_0 ?_
  refine cJ_fill kd61 (by omega) ?_
  refine g3_explore_9 ?_
  have hf0 : fP M (am_up (am_fl M 61 0 36 (fun _ => -2)) 60 3 0) := fun b j h1 h2 h3 => by
    rw [am_upn (by omega), am_fl_out (by omega)]
  have hR0 : RP (am_up (am_fl M 61 0 36 (fun _ => -2)) 60 3 0) [] := by
    refine ⟨am_up_hit, fun j hj => absurd hj (by simp), fun p hp => ?_⟩
    rw [am_upn (Or.inl (by omega)), am_fl_in hp]
    rfl
  refine c3_meet (q := []) (h := -1) hR0 (fun e he => by cases he) (by omega) (by omega) (fun _ => by simp) (fun M1 hR1 hf1 => ?_)
  rw [if_pos (show hw [] 0 = -2 from rfl)] at hR1
  refine g3_explore_19 ?_
  have key : ∀ (d : Nat) (i : Nat) (M2 : am_M), i + d = 36 → RP M2 (bf (ap A B) k.toNat i) → fP M M2 → am_AtN m3_explore 22 [some (vr 60), some (vr a), some (vr b), some (vi k), some (vi (i : Int)), none] [] KS M2 Q := by
    intro d
    induction d with
    | zero =>
      intro i M2 hi hR hf
      have hl := (hB i).bound
      refine g3_explore_22 (fun _ => ?_) (fun c => by exfalso; rw [hR.1] at c; omega)
      refine g3_explore_77 (kk M2 ?_ hf)
      rw [show (36 : Nat) = i by omega]
      exact hR
    | succ d ih =>
      intro i M2 hi hR hf
      by_cases hlt : i < (bf (ap A B) k.toNat i).length
      · obtain ⟨e, he⟩ : ∃ e, (bf (ap A B) k.toNat i)[i]? = some e := ⟨_, List.getElem?_eq_getElem hlt⟩
        have heb := (hB i).2.2.1 e (List.mem_of_getElem? he)
        refine g3_explore_22 (fun c => by exfalso; rw [hR.1] at c; omega) (fun _ => ?_)
        refine g3_explore_31 (fun c => by exfalso; omega) (fun _ => ?_)
        refine g3_explore_38 ?_
        refine am_forR (fun x ls M3 => ls = [some (vr 60), some (vr a), some (vr b), some (vi k), some (vi (i : Int)), some (vi x)] ∧ RP M3 (br (ap A B) (bf (ap A B) k.toNat i) e.1 x.toNat) ∧ fP M M3) 0 k (by omega) ⟨rfl, hR, hf⟩ ?_ ?_
        · rintro ls M3 ⟨rfl, hR3, hf3⟩
          refine g3_explore_41 (fun _ => ?_) (fun c => by exfalso; omega)
          refine g3_explore_71 (by omega) ?_
          refine ih (i + 1) M3 (by omega) ?_ hf3
          rw [bf_s he]
          exact hR3
        · rintro x ls M3 hx0 hx1 ⟨rfl, hR3, hf3⟩ ihx
          have hbr := bok_br (h0 := e.2) (sc := ap A B) (hB i) he x.toNat (by omega) (fun y h0 h1 => hsc e.1 y heb.1 heb.2 h0 (by omega))
          have hbr2 := bok_br (h0 := e.2) (sc := ap A B) (hB i) he (x.toNat + 1) (by omega) (fun y h0 h1 => hsc e.1 y heb.1 heb.2 h0 (by omega))
          have ha := hsc e.1 x heb.1 heb.2 hx0 (by omega)
          have ebs : br (ap A B) (bf (ap A B) k.toNat i) e.1 (x.toNat + 1) = bs (ap A B) (br (ap A B) (bf (ap A B) k.toNat i) e.1 x.toNat) e.1 x := by
            rw [br, show ((x.toNat : Nat) : Int) = x by omega]
          rw [ebs] at hbr2
          obtain ⟨l2, hl2⟩ := br_pre (ap A B) (bf (ap A B) k.toNat i) e.1 x.toNat
          have em : M3 62 i = e.1 := by
            rw [hR3.2.1 i (by rw [hl2]; simp; omega), hl2]
            simp [List.getD, List.getElem?_append_left hlt, he]
          refine g3_explore_41 (fun c => by exfalso; omega) (fun _ => ?_)
          refine g3_explore_47 (by omega) (by omega) ?_
          rw [em]
          have heb2 : 0 ≤ e.1 ∧ e.1 < 36 := heb
          refine c3_after (hA.of hf3.tab) (hB'.of hf3.tab) oA oB heb2 ⟨hx0, by omega⟩ ?_
          refine g3_explore_62 kd60 ?_
          refine c3_meet (h := e.1 * 4 + x) hR3 hbr.1 (by omega) ha (fun hn => ?_) (fun M4 hR4 hf4 => ?_)
          · have := hbr2.bound
            unfold bs at this
            rw [if_pos hn] at this
            simp at this
            omega
          · refine g3_explore_65 (by omega) ?_
            refine ihx _ M4 ⟨rfl, ?_, hf3.tr hf4⟩
            rw [show (x + 1).toNat = x.toNat + 1 by omega, ebs]
            exact hR4
      · refine g3_explore_22 (fun _ => ?_) (fun c => by exfalso; rw [hR.1] at c; omega)
        refine g3_explore_77 (kk M2 ?_ hf)
        rw [bf_end (i := i) (n := 36) (by omega) (by omega)]
        exact hR
  exact key 36 0 M1 (by omega) hR1 (hf0.tr hf1)
