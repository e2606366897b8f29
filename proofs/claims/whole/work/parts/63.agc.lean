/-! ===== programs that agree: the class, its walk ===== -/
def agd (M : am_M) (g : Gd) : Prop := isS M (M 75 7) g.1 ∧ isP M (M 75 8) g.2.1 ∧ isP M (M 75 9) g.2.2.1 ∧ M 75 10 = g.2.2.2
def fA (M M' : am_M) : Prop := ∀ b j : Int, b ≠ 76 → b ≠ 77 → b ≠ 78 → b ≠ 79 → b ≠ 81 → b ≠ 83 → (b ≠ 75 ∨ j ≠ 2) → b ≠ 80 → b ≠ 82 → M' b j = M b j
theorem fA.rf {M : am_M} : fA M M := fun _ _ _ _ _ _ _ _ _ _ _ => rfl
theorem fA.tr {M M' M'' : am_M} (h : fA M M') (h' : fA M' M'') : fA M M'' := fun b j h1 h2 h3 h4 h5 h6 h7 h8 h9 => (h' b j h1 h2 h3 h4 h5 h6 h7 h8 h9).trans (h b j h1 h2 h3 h4 h5 h6 h7 h8 h9)
theorem fA.tab {M M' : am_M} (h : fA M M') : ∀ a j : Int, tab a → M' a j = M a j := fun a j ht => by
  have := tab_ne ht
  exact h a j (by omega) (by omega) (by omega) (by omega) (by omega) (by omega) (Or.inl (by omega)) (by omega) (by omega)
theorem agd.of {M M' : am_M} {g : Gd} (h : agd M g) (hf : fA M M') : agd M' g := by
  have e : ∀ j : Int, j ≠ 2 → M' 75 j = M 75 j := fun j hj => hf 75 j (by omega) (by omega) (by omega) (by omega) (by omega) (by omega) (Or.inr hj) (by omega) (by omega)
  unfold agd
  rw [e 7 (by omega), e 8 (by omega), e 9 (by omega), e 10 (by omega)]
  exact ⟨h.1.of hf.tab, h.2.1.of hf.tab, h.2.2.1.of hf.tab, h.2.2.2⟩
section
variable {M : am_M} {Q : Option am_V → am_M → Prop} {g : Gd}
theorem c0_pointOf {K : am_K} {st : Int} (h : 0 ≤ st) (k : Q (some (vi (st / 36))) M) : am_CallN m0_pointOf [vi st] K M Q := by
  refine am_callN_of (by decide +kernel) rfl rfl (Nat.le_of_ble_eq_true rfl) ?_
  exact g0_pointOf_0 h k
theorem c0_oneSpot {K : am_K} {st : Int} (h : 0 ≤ st) (k : Q (some (vi (st / 6 % 6))) M) : am_CallN m0_oneSpot [vi st] K M Q := by
  refine am_callN_of (by decide +kernel) rfl rfl (Nat.le_of_ble_eq_true rfl) ?_
  exact g0_oneSpot_0 h (by omega) k
theorem c0_otherSpot {K : am_K} {st : Int} (h : 0 ≤ st) (k : Q (some (vi (st % 6))) M) : am_CallN m0_otherSpot [vi st] K M Q := by
  refine am_callN_of (by decide +kernel) rfl rfl (Nat.le_of_ble_eq_true rfl) ?_
  exact g0_otherSpot_0 h k
theorem c0_after {st x : Int} (hd : agd M g) (hg : okG g) (hs : 0 ≤ st ∧ st < 216) (hx : 0 ≤ x ∧ x < g.2.2.2) (k : Q (some (vi (gx g st x))) M) : am_CallN m0_after [vr 75, vi st, vi x] KS M Q := by
  have hk := hg.1
  obtain ⟨r1, k1⟩ := hd.1.kd
  obtain ⟨r2, k2⟩ := hd.2.1.kd
  obtain ⟨r3, k3⟩ := hd.2.2.1.kd
  have h1 := hg.2.1 (st / 36) x (by omega) (by omega)
  have h2 := hg.2.2.1.1 (st / 6 % 6) x (by omega) (by omega)
  have h3 := hg.2.2.2.1 (st % 6) x (by omega) (by omega)
  refine am_callN_of (by decide +kernel) rfl rfl (Nat.le_of_ble_eq_true rfl) ?_
  refine g0_after_0 ?_
  refine c0_oneSpot hs.1 ?_
  refine g0_after_8 k2 ?_
  refine q4_nextOf hd.2.1 (by omega) (by omega) ?_
  refine g0_after_12 (by omega) ?_
  refine c0_otherSpot hs.1 ?_
  refine g0_after_23 k3 ?_
  refine q4_nextOf hd.2.2.1 (by omega) (by omega) ?_
  refine g0_after_27 (by omega) ?_
  refine c0_pointOf hs.1 ?_
  refine g0_after_37 k1 ?_
  refine q6_nextOf hd.1 (by omega) (by omega) ?_
  refine g0_after_41 (by omega) (by omega) (by omega) ?_
  exact am_qv (by unfold gx; omega) k
theorem c0_bothWrite {st : Int} (hd : agd M g) (hs : 0 ≤ st ∧ st < 216) (k1 : bw g st → Q (some (vi 1)) M) (k0 : ¬ bw g st → Q (some (vi 0)) M) : am_CallN m0_bothWrite [vr 75, vi st] KS M Q := by
  obtain ⟨r1, kd1⟩ := hd.1.kd
  obtain ⟨r2, kd2⟩ := hd.2.1.kd
  obtain ⟨r3, kd3⟩ := hd.2.2.1.kd
  refine am_callN_of (by decide +kernel) rfl rfl (Nat.le_of_ble_eq_true rfl) ?_
  refine g0_bothWrite_0 ?_
  refine c0_pointOf hs.1 ?_
  refine g0_bothWrite_8 kd1 ?_
  refine q6_holdsAt hd.1 (by omega) ?_
  by_cases e1 : g.1.2 (st / 36) = 1
  · rw [if_pos e1]
    refine g0_bothWrite_11 (fun _ => ?_) (fun c => by exfalso; omega)
    refine g0_bothWrite_16 ?_
    refine c0_oneSpot hs.1 ?_
    refine g0_bothWrite_24 kd2 ?_
    refine q4_endOf hd.2.1 (by omega) ?_
    refine g0_bothWrite_27 (fun c => ?_) (fun c => ?_)
    · refine g0_bothWrite_50 ?_
      exact g0_bothWrite_51 (by omega) (k0 (fun h => h.2.1 c))
    · refine g0_bothWrite_31 ?_
      refine c0_otherSpot hs.1 ?_
      refine g0_bothWrite_39 kd3 ?_
      refine q4_endOf hd.2.2.1 (by omega) ?_
      refine g0_bothWrite_42 (fun c2 => ?_) (fun c2 => ?_)
      · refine g0_bothWrite_50 ?_
        exact g0_bothWrite_51 (by omega) (k0 (fun h => h.2.2 c2))
      · refine g0_bothWrite_46 ?_
        exact g0_bothWrite_51 (by omega) (k1 ⟨e1, c, c2⟩)
  · rw [if_neg e1]
    refine g0_bothWrite_11 (fun c => by exfalso; omega) (fun _ => ?_)
    exact g0_bothWrite_14 (k0 (fun h => e1 h.1))
def RA (M : am_M) (q : List (Int × Int)) : Prop := M 75 2 = q.length ∧ ∀ j : Nat, j < q.length → M 77 j = (q.getD j (0, 0)).1
def RX (M : am_M) (q : List (Int × Int)) : Prop := RA M q ∧ ∀ p : Int, 0 ≤ p ∧ p < 216 → M 76 p = if hw q p = -2 then -2 else 1
theorem c0_meet {p h : Int} {q : List (Int × Int)} (hR : RX M q) (hq : hok q) (hh : -1 ≤ h) (hp : 0 ≤ p ∧ p < 216) (hl : hw q p = -2 → (q.length : Int) < 216) (k : ∀ M', RX M' (if hw q p = -2 then q ++ [(p, h)] else q) → fA M M' → Q none M') : am_CallN m0_meet [vr 75, vi p] KS M Q := by
  have e76 := hR.2 p hp
  refine am_callN_of (by decide +kernel) rfl rfl (Nat.le_of_ble_eq_true rfl) ?_
  refine g0_meet_0 ?_
  refine c8_in hp ?_
  refine g0_meet_7 (fun c => by exfalso; omega) (fun _ => ?_)
  refine g0_meet_10 hp.1 hp.2 (fun c => ?_) (fun c => ?_)
  · refine g0_meet_34 (k M ?_ fA.rf)
    rw [if_neg (fun e => c (by rw [e76, if_pos e]))]
    exact hR
  · have c : hw q p = -2 := by
      by_cases e : hw q p = -2
      · exact e
      · rw [if_neg e] at e76
        omega
    have hl := hl c
    have e0 := hR.1.1
    refine g0_meet_21 ?_
    refine c8_in (by omega) ?_
    refine g0_meet_31 (fun _ => ?_) (fun c => by exfalso; omega)
    have e1 : am_up M 76 p 1 75 2 = q.length := by rw [am_upn (Or.inl (by omega)), e0]
    have e2 : am_up (am_up M 76 p 1) 77 (am_up M 76 p 1 75 2) p 75 2 = q.length := by rw [am_upn (Or.inl (by omega)), e1]
    refine g0_meet_35 hp.1 hp.2 (by rw [e1]; omega) (by rw [e1]; omega) (by rw [e2]; omega) ?_
    rw [e2, e1]
    refine k _ ?_ (fun b j h1 h2 h3 h4 h5 h6 h7 h8 h9 => ?_)
    · rw [if_pos c]
      refine ⟨⟨by rw [am_up_hit]; simp, fun j hj => ?_⟩, fun p' hp' => ?_⟩
      · rw [am_upn (Or.inl (by omega))]
        by_cases hjl : j = q.length
        · subst hjl
          rw [am_up_hit]
          simp [List.getD]
        · have hj' : j < q.length := by simp at hj; omega
          rw [am_upn (Or.inr (by omega)), am_upn (Or.inl (by omega)), hR.1.2 j hj']
          simp [List.getD, List.getElem?_append_left hj']
      · rw [am_upn (Or.inl (by omega)), am_upn (Or.inl (by omega)), hw_app hq]
        by_cases hpp : p' = p
        · subst hpp
          rw [am_up_hit, if_pos c, if_pos rfl, if_neg (by omega)]
        · rw [am_upn (Or.inr hpp), hR.2 p' hp']
          by_cases e : hw q p' = -2
          · rw [if_pos e, if_pos e, if_neg (show ¬ p = p' from fun e => hpp e.symm), if_pos rfl]
          · rw [if_neg e, if_neg e, if_neg e]
    · rw [am_upn (by omega), am_upn (Or.inl h2), am_upn (Or.inl h1)]
theorem gx_bok (hg : okG g) (i : Nat) : bok ((216 : Nat) : Int) (bf (gx g) g.2.2.2.toNat i) := by
  have hk := hg.1
  exact bok_bf (NS := ((216 : Nat) : Int)) (sc := gx g) (k := g.2.2.2.toNat) (by omega) (by omega) (fun p x h0 h1 h2 h3 => gx_rng hg ⟨h0, h1⟩ ⟨h2, by omega⟩) i
def aq (g : Gd) : List (Int × Int) := bf (gx g) g.2.2.2.toNat 216
theorem c0_explore (hd : agd M g) (hg : okG g) (kk : ∀ M', RX M' (aq g) → fA M M' → Q none M') : am_CallN m0_explore [vr 75] KS M Q := by
  have hk := hg.1
  have hsc : ∀ p x : Int, 0 ≤ p → p < ((216 : Nat) : Int) → 0 ≤ x → x < (g.2.2.2.toNat : Int) → 0 ≤ gx g p x ∧ gx g p x < ((216 : Nat) : Int) := fun p x h0 h1 h2 h3 => gx_rng hg ⟨h0, h1⟩ ⟨h2, by omega⟩
  have hB := gx_bok hg
  refine am_callN_of (by decide +kernel) rfl rfl (Nat.le_of_ble_eq_true rfl) ?_
  refine g0_explore_0 ?_
  refine cJ_fill kd76 (by omega) ?_
  refine g0_explore_9 ?_
  have hf0 : fA M (am_up (am_fl M 76 0 216 (fun _ => -2)) 75 2 0) := fun b j h1 h2 h3 h4 h5 h6 h7 h8 h9 => by
    rw [am_upn (by omega), am_fl_out (by omega)]
  have hR0 : RX (am_up (am_fl M 76 0 216 (fun _ => -2)) 75 2 0) [] := by
    refine ⟨⟨am_up_hit, fun j hj => absurd hj (by simp)⟩, fun p hp => ?_⟩
    rw [am_upn (Or.inl (by omega)), am_fl_in hp]
    rfl
  refine c0_meet (q := []) (h := -1) hR0 (fun e he => by cases he) (by omega) (by omega) (fun _ => by simp) (fun M1 hR1 hf1 => ?_)
  rw [if_pos (show hw [] 0 = -2 from rfl)] at hR1
  refine g0_explore_19 ?_
  have key : ∀ (d : Nat) (i : Nat) (M2 : am_M), i + d = 216 → RX M2 (bf (gx g) g.2.2.2.toNat i) → fA M M2 → am_AtN m0_explore 21 [some (vr 75), some (vi (i : Int)), none] [] KS M2 Q := by
    intro d
    induction d with
    | zero =>
      intro i M2 hi hR hf
      have hl := (hB i).bound
      refine g0_explore_21 (fun _ => ?_) (fun c => by exfalso; rw [hR.1.1] at c; omega)
      refine g0_explore_73 (kk M2 ?_ hf)
      unfold aq
      rw [show (216 : Nat) = i by omega]
      exact hR
    | succ d ih =>
      intro i M2 hi hR hf
      by_cases hlt : i < (bf (gx g) g.2.2.2.toNat i).length
      · obtain ⟨e, he⟩ : ∃ e, (bf (gx g) g.2.2.2.toNat i)[i]? = some e := ⟨_, List.getElem?_eq_getElem hlt⟩
        have heb := (hB i).2.2.1 e (List.mem_of_getElem? he)
        refine g0_explore_21 (fun c => by exfalso; rw [hR.1.1] at c; omega) (fun _ => ?_)
        refine g0_explore_29 (fun c => by exfalso; omega) (fun _ => ?_)
        refine g0_explore_36 ?_
        refine am_forR (fun x ls M3 => ls = [some (vr 75), some (vi (i : Int)), some (vi x)] ∧ RX M3 (br (gx g) (bf (gx g) g.2.2.2.toNat i) e.1 x.toNat) ∧ fA M M3) 0 g.2.2.2 (by omega) ⟨rfl, hR, hf⟩ ?_ ?_
        · rintro ls M3 ⟨rfl, hR3, hf3⟩
          have ck := (hd.of hf3).2.2.2
          refine g0_explore_38 (fun _ => ?_) (fun c => by exfalso; omega)
          refine g0_explore_67 (by omega) ?_
          refine ih (i + 1) M3 (by omega) ?_ hf3
          rw [bf_s he]
          exact hR3
        · rintro x ls M3 hx0 hx1 ⟨rfl, hR3, hf3⟩ ihx
          have ck := (hd.of hf3).2.2.2
          have hbr := bok_br (h0 := e.2) (sc := gx g) (hB i) he x.toNat (by omega) (fun y h0 h1 => hsc e.1 y heb.1 heb.2 h0 (by omega))
          have hbr2 := bok_br (h0 := e.2) (sc := gx g) (hB i) he (x.toNat + 1) (by omega) (fun y h0 h1 => hsc e.1 y heb.1 heb.2 h0 (by omega))
          have ha := hsc e.1 x heb.1 heb.2 hx0 (by omega)
          have ebs : br (gx g) (bf (gx g) g.2.2.2.toNat i) e.1 (x.toNat + 1) = bs (gx g) (br (gx g) (bf (gx g) g.2.2.2.toNat i) e.1 x.toNat) e.1 x := by
            rw [br, show ((x.toNat : Nat) : Int) = x by omega]
          rw [ebs] at hbr2
          obtain ⟨l2, hl2⟩ := br_pre (gx g) (bf (gx g) g.2.2.2.toNat i) e.1 x.toNat
          have em : M3 77 i = e.1 := by
            rw [hR3.1.2 i (by rw [hl2]; simp; omega), hl2]
            simp [List.getD, List.getElem?_append_left hlt, he]
          refine g0_explore_38 (fun c => by exfalso; omega) (fun _ => ?_)
          refine g0_explore_46 (by omega) (by omega) ?_
          rw [em]
          refine c0_after (hd.of hf3) hg heb ⟨hx0, hx1⟩ ?_
          refine g0_explore_58 kd75 ?_
          refine c0_meet (h := e.1 * 4 + x) hR3 hbr.1 (by omega) ha (fun hn => ?_) (fun M4 hR4 hf4 => ?_)
          · have := hbr2.bound
            unfold bs at this
            rw [if_pos hn] at this
            simp at this
            omega
          · refine g0_explore_61 (by omega) ?_
            refine ihx _ M4 ⟨rfl, ?_, hf3.tr hf4⟩
            rw [show (x + 1).toNat = x.toNat + 1 by omega, ebs]
            exact hR4
      · refine g0_explore_21 (fun _ => ?_) (fun c => by exfalso; rw [hR.1.1] at c; omega)
        refine g0_explore_73 (kk M2 ?_ hf)
        unfold aq
        rw [bf_end (i := i) (n := 216) (by omega) (by omega)]
        exact hR
  exact key 216 0 M1 (by omega) hR1 (hf0.tr hf1)
theorem RA_at {q : List (Int × Int)} (hR : RA M q) {i : Nat} {e : Int × Int} (he : q[i]? = some e) : M 77 i = e.1 := by
  rw [hR.2 i (List.getElem?_eq_some_iff.mp he).1]
  simp [List.getD, he]
theorem c0_oneStopsAlone {q : List (Int × Int)} (hd : agd M g) (hg : okG g) (hR : RA M q) (hB : bok ((216 : Nat) : Int) q) (k1 : (∃ e ∈ q, sa g e.1) → Q (some (vi 1)) M) (k0 : (∀ e ∈ q, ¬ sa g e.1) → Q (some (vi 0)) M) : am_CallN m0_oneStopsAlone [vr 75] KS M Q := by
  obtain ⟨r1, kd1⟩ := hd.1.kd
  obtain ⟨r2, kd2⟩ := hd.2.1.kd
  obtain ⟨r3, kd3⟩ := hd.2.2.1.kd
  have hl := hB.bound
  refine am_callN_of (by decide +kernel) rfl rfl (Nat.le_of_ble_eq_true rfl) ?_
  refine g0_oneStopsAlone_0 ?_
  refine am_forI (fun i => [some (vr 75), some (vi i), none, none, none]) (fun _ => M) (fun i => ∀ (j : Nat) (e : Int × Int), (j : Int) < i → q[j]? = some e → ¬ sa g e.1) 0 q.length (by omega) rfl rfl (fun j e hj => by exfalso; omega) (fun hI => ?_) (fun i h0 h1 hI ih => ?_)
  · refine g0_oneStopsAlone_2 (fun _ => ?_) (fun c => by exfalso; rw [hR.1] at c; omega)
    refine g0_oneStopsAlone_95 (k0 (fun e he => ?_))
    obtain ⟨j, hj⟩ := List.mem_iff_getElem?.mp he
    have := (List.getElem?_eq_some_iff.mp hj).1
    exact hI j e (by omega) hj
  · have hlt : i.toNat < q.length := by omega
    obtain ⟨e, he⟩ : ∃ e, q[i.toNat]? = some e := ⟨_, List.getElem?_eq_getElem hlt⟩
    have heb := hB.2.2.1 e (List.mem_of_getElem? he)
    have em := RA_at hR he
    rw [show ((i.toNat : Nat) : Int) = i by omega] at em
    have next : ∀ v w : Int, (sa g e.1 → ¬ v = w) → (v ≠ w → g.1.2 (e.1 / 36) = 1 → sa g e.1) → am_AtN m0_oneStopsAlone 65 [some (vr 75), some (vi i), some (vi e.1), some (vi v), none] [vi w] KS M Q := by
      intro v w hsa hsb
      refine g0_oneStopsAlone_65 ?_
      refine c0_pointOf heb.1 ?_
      refine g0_oneStopsAlone_75 kd1 ?_
      refine q6_holdsAt hd.1 (by omega) ?_
      have skip : ¬ sa g e.1 → am_AtN m0_oneStopsAlone 89 [some (vr 75), some (vi i), some (vi e.1), some (vi v), some (vi w)] [] KS M Q := by
        intro hns
        refine g0_oneStopsAlone_89 (by omega) (ih (fun j e' hj hj2 => ?_))
        by_cases hji : (j : Int) = i
        · have : j = i.toNat := by omega
          subst this
          rw [he] at hj2
          obtain rfl := Option.some.inj hj2
          exact hns
        · exact hI j e' (by omega) hj2
      by_cases e1 : g.1.2 (e.1 / 36) = 1
      · rw [if_pos e1]
        refine g0_oneStopsAlone_78 (fun c => by exfalso; omega) (fun _ => ?_)
        refine g0_oneStopsAlone_81 (fun c => skip (fun h => hsa h c)) (fun c => ?_)
        exact g0_oneStopsAlone_87 (k1 ⟨e, List.mem_of_getElem? he, hsb c e1⟩)
      · rw [if_neg e1]
        exact g0_oneStopsAlone_78 (fun _ => skip (fun h => e1 h.1)) (fun c => by exfalso; omega)
    refine g0_oneStopsAlone_2 (fun c => by exfalso; rw [hR.1] at c; omega) (fun _ => ?_)
    refine g0_oneStopsAlone_10 (fun c => by exfalso; omega) (fun _ => ?_)
    refine g0_oneStopsAlone_17 (by omega) (by omega) ?_
    rw [em]
    refine c0_oneSpot heb.1 ?_
    refine g0_oneStopsAlone_32 kd2 ?_
    refine q4_endOf hd.2.1 (by omega) ?_
    have mid : ∀ v : Int, (v = 1 ↔ ea g e.1 = -1) → (v = 0 ∨ v = 1) → am_AtN m0_oneStopsAlone 44 [some (vr 75), some (vi i), some (vi e.1), none, none] [vi v] KS M Q := by
      intro v hv hv01
      refine g0_oneStopsAlone_44 ?_
      refine c0_otherSpot heb.1 ?_
      refine g0_oneStopsAlone_53 kd3 ?_
      refine q4_endOf hd.2.2.1 (by omega) ?_
      refine g0_oneStopsAlone_56 (fun c => ?_) (fun c => ?_)
      · have c : ¬ eb g e.1 = -1 := c
        refine g0_oneStopsAlone_64 (next v 0 (fun h hv0 => h.2 ?_) (fun h h1 => ⟨h1, fun h2 => c (h2.mp (hv.mp (by omega)))⟩))
        constructor
        · intro h1
          have := hv.mpr h1
          omega
        · intro h1
          exact absurd h1 c
      · have c : eb g e.1 = -1 := c
        refine g0_oneStopsAlone_60 (next v 1 (fun h hv0 => h.2 ?_) (fun h h1 => ⟨h1, fun h2 => h (hv.mpr (h2.mpr c))⟩))
        exact ⟨fun _ => c, fun _ => hv.mp hv0⟩
    refine g0_oneStopsAlone_35 (fun c => ?_) (fun c => ?_)
    · refine g0_oneStopsAlone_43 (mid 0 ⟨fun h => by exfalso; omega, fun h => absurd h c⟩ (Or.inl rfl))
    · refine g0_oneStopsAlone_39 (mid 1 ⟨fun _ => c, fun _ => rfl⟩ (Or.inr rfl))
end
