/-! ===== how many places are met ===== -/
def mt (q : List (Int × Int)) (x : Int) : Int := if hw q x = -2 then 0 else 1
theorem mt_sum {N : Nat} : ∀ q : List (Int × Int), hok q → (q.map Prod.fst).Nodup → (∀ e ∈ q, 0 ≤ e.1 ∧ e.1 < N) → am_sm (mt q) N = q.length
  | [], _, _, _ => by
    rw [am_sm_congr (f := mt []) (g := fun _ => 0) N (fun j _ _ => rfl), am_sm_zero]
    rfl
  | e :: l, h, hd, hr => by
    have h' : hok l := fun x hx => h x (List.mem_cons_of_mem _ hx)
    rw [List.map_cons, List.nodup_cons] at hd
    have ih := mt_sum (N := N) l h' hd.2 (fun x hx => hr x (List.mem_cons_of_mem _ hx))
    have he := hr e List.mem_cons_self
    have h2 := h e List.mem_cons_self
    have hn : hw l e.1 = -2 := (hw_none h').mpr (fun x hx hxe => hd.1 (by rw [← hxe]; exact List.mem_map.mpr ⟨x, hx, rfl⟩))
    have : am_sm (mt (e :: l)) N = am_sm (fun j => mt l j + (if e.1 = j then 1 else 0)) N := am_sm_congr N (fun j _ _ => by
      show (if (if e.1 = j then e.2 else hw l j) = -2 then (0 : Int) else 1) = (if hw l j = -2 then (0 : Int) else 1) + (if e.1 = j then 1 else 0)
      by_cases hj : e.1 = j
      · subst hj
        rw [if_pos rfl, if_pos rfl, if_pos hn, if_neg (by omega)]
        rfl
      · rw [if_neg hj, if_neg hj]
        omega)
    rw [this, am_sm_add (f := mt l) (g := fun j => if e.1 = j then 1 else 0), ih, am_sm_one he.1, if_pos he.2]
    simp
theorem am_sm_front {g : Int → Int} : ∀ n : Nat, am_sm g (n + 1) = g 0 + am_sm (fun j => g (j + 1)) n
  | 0 => by
    show 0 + g ((0 : Nat) : Int) = g 0 + 0
    rw [show ((0 : Nat) : Int) = 0 by omega]
    omega
  | n + 1 => by
    show am_sm g (n + 1) + g ((n + 1 : Nat) : Int) = g 0 + (am_sm (fun j => g (j + 1)) n + g ((n : Int) + 1))
    rw [am_sm_front n, show ((n + 1 : Nat) : Int) = (n : Int) + 1 by omega]
    omega
theorem sn_neg {f : Int → Int} : ∀ (d : Nat) (a l : Int), l < 0 → sn f d a l = -9
  | 0, _, _, _ => rfl
  | d + 1, a, l, h => by
    unfold sn
    split
    · exact sn_neg d _ _ h
    · rw [if_neg (by omega)]
      exact sn_neg d _ _ (by omega)
theorem sn_big {f : Int → Int} : ∀ (d : Nat) (a l : Int), am_sm (fun j => if f (a + j) = -2 then 0 else 1) d ≤ l → sn f d a l = -9
  | 0, _, _, _ => rfl
  | d + 1, a, l, h => by
    rw [am_sm_front] at h
    have e : am_sm (fun j => (fun j => if f (a + j) = -2 then (0 : Int) else 1) (j + 1)) d = am_sm (fun j => if f (a + 1 + j) = -2 then 0 else 1) d := am_sm_congr d (fun j _ _ => by
      show (if f (a + (j + 1)) = -2 then (0 : Int) else 1) = if f (a + 1 + j) = -2 then (0 : Int) else 1
      rw [show a + (j + 1) = a + 1 + j by omega])
    rw [e] at h
    have h0 := (am_sm_bnd (f := fun j => if f (a + 1 + j) = -2 then (0 : Int) else 1) (c := 1) d (fun j _ _ => by
      show 0 ≤ (if f (a + 1 + j) = -2 then (0 : Int) else 1) ∧ (if f (a + 1 + j) = -2 then (0 : Int) else 1) ≤ 1
      split <;> omega)).1
    have h : (if f (a + 0) = -2 then (0 : Int) else 1) + am_sm (fun j => if f (a + 1 + j) = -2 then 0 else 1) d ≤ l := h
    rw [Int.add_zero] at h
    unfold sn
    by_cases hf : f a = -2
    · rw [if_pos hf] at h ⊢
      exact sn_big d _ _ (by omega)
    · rw [if_neg hf] at h ⊢
      rw [if_neg (by omega)]
      exact sn_big d _ _ (by omega)
theorem bok.sum {q : List (Int × Int)} (h : bok ((1296 : Nat) : Int) q) : am_sm (mt q) 1296 = q.length := mt_sum q h.1 h.2.1 h.2.2.1
theorem sn_tie {q : List (Int × Int)} (h : bok ((1296 : Nat) : Int) q) (i : Int) : (if 0 ≤ i ∧ i < q.length then sn (hw q) 1296 0 i else -9) = sn (hw q) 1296 0 i := by
  by_cases c : 0 ≤ i ∧ i < q.length
  · rw [if_pos c]
  · rw [if_neg c]
    by_cases c2 : i < 0
    · rw [sn_neg _ _ _ c2]
    · rw [sn_big]
      have := h.sum
      have e : am_sm (fun j => if hw q (0 + j) = -2 then 0 else 1) 1296 = am_sm (mt q) 1296 := am_sm_congr 1296 (fun j _ _ => by
        show (if hw q (0 + j) = -2 then (0 : Int) else 1) = mt q j
        rw [Int.zero_add]
        rfl)
      rw [e, this]
      omega
/-! ===== the calls, two by two: claims ===== -/
section
variable {S : Int → Int} {M : am_M} {Q : Option am_V → am_M → Prop}
theorem kd_rng {a : Int} {e : am_C} (h : am_kd KS a = some e) : 0 ≤ a ∧ a < 113 := by
  unfold am_kd at h
  by_cases h1 : a < 0
  · rw [if_pos h1] at h
    cases h
  · rw [if_neg h1] at h
    have h2 := (List.getElem?_eq_some_iff.mp h).1
    have h3 : (KS.1).length = 113 := rfl
    omega
theorem c2_state {a p q b k : Int} {c : CD} (h1 : isS M a c.1) (h2 : isP M p c.2.1) (h3 : match c.2.2.1 with | none => q = -1 | some P => q ≠ -1 ∧ isP M q P) (h4 : isS M b c.2.2.2) (kk : ∀ M', clm M' k c → (∀ d j : Int, d ≠ 66 → M' d j = M d j) → Q none M') : am_CallN m2_state [vr 66, vr a, vr p, vr q, vr b, vi k] KS M Q := by
  obtain ⟨r1, q1⟩ := h1.kd
  obtain ⟨r2, q2⟩ := h2.kd
  obtain ⟨r4, q4⟩ := h4.kd
  have g1 := kd_rng q1
  have g2 := kd_rng q2
  have g4 := kd_rng q4
  obtain ⟨A, P, o, B⟩ := c
  have g3 : -1 ≤ q ∧ q < 100000 := by
    cases o with
    | none =>
      have h3 : q = -1 := h3
      omega
    | some R =>
      have h3 : q ≠ -1 ∧ isP M q R := h3
      obtain ⟨r3, q3⟩ := h3.2.kd
      have := kd_rng q3
      omega
  refine am_callN_of (by decide +kernel) rfl rfl (Nat.le_of_ble_eq_true rfl) ?_
  refine g2_state_0 (by omega) (by omega) g3 (by omega) ?_
  have e : ∀ d j : Int, d ≠ 66 → am_up (am_up (am_up (am_up (am_up M 66 3 a) 66 4 p) 66 5 q) 66 6 b) 66 7 k d j = M d j := fun d j hd => by rw [am_upn (Or.inl hd), am_upn (Or.inl hd), am_upn (Or.inl hd), am_upn (Or.inl hd), am_upn (Or.inl hd)]
  have et : ∀ d j : Int, tab d → am_up (am_up (am_up (am_up (am_up M 66 3 a) 66 4 p) 66 5 q) 66 6 b) 66 7 k d j = M d j := fun d j ht => e d j (by have := tab_ne ht; omega)
  have e3 : am_up (am_up (am_up (am_up (am_up M 66 3 a) 66 4 p) 66 5 q) 66 6 b) 66 7 k 66 3 = a := by rw [am_upn (Or.inr (by omega)), am_upn (Or.inr (by omega)), am_upn (Or.inr (by omega)), am_upn (Or.inr (by omega)), am_up_hit]
  have e4 : am_up (am_up (am_up (am_up (am_up M 66 3 a) 66 4 p) 66 5 q) 66 6 b) 66 7 k 66 4 = p := by rw [am_upn (Or.inr (by omega)), am_upn (Or.inr (by omega)), am_upn (Or.inr (by omega)), am_up_hit]
  have e5 : am_up (am_up (am_up (am_up (am_up M 66 3 a) 66 4 p) 66 5 q) 66 6 b) 66 7 k 66 5 = q := by rw [am_upn (Or.inr (by omega)), am_upn (Or.inr (by omega)), am_up_hit]
  have e6 : am_up (am_up (am_up (am_up (am_up M 66 3 a) 66 4 p) 66 5 q) 66 6 b) 66 7 k 66 6 = b := by rw [am_upn (Or.inr (by omega)), am_up_hit]
  refine kk _ ⟨by rw [e3]; exact h1.of et, by rw [e4]; exact h2.of et, ?_, by rw [e6]; exact h4.of et, am_up_hit⟩ e
  cases o with
  | none =>
    show _ = -1
    rw [e5]
    exact h3
  | some R =>
    show _ ≠ -1 ∧ _
    rw [e5]
    have h3 : q ≠ -1 ∧ isP M q R := h3
    exact ⟨h3.1, h3.2.of et⟩
def f66 (M M' : am_M) : Prop := ∀ d j : Int, d ≠ 66 → d ≠ 67 → d ≠ 68 → M' d j = M d j
theorem f66.x {M M' : am_M} (h : f66 M M') : fx M M' := fun b j hq => h b j (by unfold kq at hq; omega) (by unfold kq at hq; omega) (by unfold kq at hq; omega)
theorem f66.z {M M' : am_M} (h : f66 M M') : fz M M' := fun b j hb => h b j (by omega) (by omega) (by omega)
theorem f66.tr {M M' M'' : am_M} (h : f66 M M') (h' : f66 M' M'') : f66 M M'' := fun b j h1 h2 h3 => (h' b j h1 h2 h3).trans (h b j h1 h2 h3)
theorem fC.f6 {M M' : am_M} (h : fC M M') : f66 M M' := fun b j h1 h2 h3 => h b j h2 h3 (Or.inl h1)
theorem c8_claimOf {a p q b : Int} (hI : Inv S M) (k1 : cval a p q b → ∀ M', clm M' (M 86 1) (cm M a p q b) → f66 M M' → Q (some (vr 66)) M') (k0 : ¬ cval a p q b → Q (some (vr (-1))) M) : am_CallN m8_claimOf [vr 0, vi a, vi p, vi q, vi b] KS M Q := by
  have hk0 : M 0 0 = M 86 1 := hI.2.1.1
  refine am_callN_of (by decide +kernel) rfl rfl (Nat.le_of_ble_eq_true rfl) ?_
  refine g8_claimOf_0 ?_
  have r1 : ∀ x : Int, (x = -1 ∧ ¬ (0 ≤ a ∧ a ≤ 7)) ∨ (x = 3 + 3 * a ∧ 0 ≤ a ∧ a ≤ 7) → am_AtN m8_claimOf 5 [some (vr 0), some (vi a), some (vi p), some (vi q), some (vi b), none, none, none, none] [vr x] KS M Q := by
    intro x hx
    refine g8_claimOf_5 ?_
    have r2 : ∀ y : Int, (y = -1 ∧ ¬ (0 ≤ p ∧ p ≤ 3)) ∨ (y = 28 + 4 * p ∧ 0 ≤ p ∧ p ≤ 3) → am_AtN m8_claimOf 12 [some (vr 0), some (vi a), some (vi p), some (vi q), some (vi b), some (vr x), none, none, none] [vr y] KS M Q := by
      intro y hy
      refine g8_claimOf_12 ?_
      have r3 : ∀ z : Int, (z = -1 ∧ ¬ (0 ≤ q ∧ q ≤ 3)) ∨ (z = 28 + 4 * q ∧ 0 ≤ q ∧ q ≤ 3) → am_AtN m8_claimOf 19 [some (vr 0), some (vi a), some (vi p), some (vi q), some (vi b), some (vr x), some (vr y), none, none] [vr z] KS M Q := by
        intro z hz
        refine g8_claimOf_19 ?_
        have r4 : ∀ w : Int, (w = -1 ∧ ¬ (0 ≤ b ∧ b ≤ 7)) ∨ (w = 3 + 3 * b ∧ 0 ≤ b ∧ b ≤ 7) → am_AtN m8_claimOf 27 [some (vr 0), some (vi a), some (vi p), some (vi q), some (vi b), some (vr x), some (vr y), some (vr z), none] [vr w] KS M Q := by
          intro w hw
          refine g8_claimOf_27 (fun c => g8_claimOf_44 (k0 (fun h => by unfold cval at h; omega))) (fun c1 => ?_)
          refine g8_claimOf_34 (fun c => g8_claimOf_44 (k0 (fun h => by unfold cval at h; omega))) (fun c2 => ?_)
          refine g8_claimOf_39 (fun c3 => ?_) (fun c => g8_claimOf_44 (k0 (fun h => by unfold cval at h; omega)))
          have ha : 0 ≤ a ∧ a ≤ 7 := by omega
          have hp : 0 ≤ p ∧ p ≤ 3 := by omega
          have hb : 0 ≤ b ∧ b ≤ 7 := by omega
          obtain rfl : x = 3 + 3 * a := by omega
          obtain rfl : y = 28 + 4 * p := by omega
          obtain rfl : w = 3 + 3 * b := by omega
          have fin : -1 ≤ q ∧ q ≤ 3 → am_AtN m8_claimOf 58 [some (vr 0), some (vi a), some (vi p), some (vi q), some (vi b), some (vr (3 + 3 * a)), some (vr (28 + 4 * p)), some (vr z), some (vr (3 + 3 * b))] [] KS M Q := by
            intro hq
            refine g8_claimOf_58 ?_
            rw [hk0]
            refine c2_state (c := cm M a p q b) (hI.s ha).s (hI.p hp) ?_ (hI.s hb).s (fun M' hc hf => ?_)
            · show match qm M q with | none => z = -1 | some P => z ≠ -1 ∧ isP M z P
              unfold qm
              by_cases hq0 : q < 0
              · rw [if_pos hq0]
                show z = -1
                omega
              · rw [if_neg hq0]
                obtain rfl : z = 28 + 4 * q := by omega
                show _ ≠ -1 ∧ _
                exact ⟨by omega, hI.p (by omega)⟩
            · exact g8_claimOf_77 (k1 ⟨ha, hp, hq, hb⟩ M' hc (fun d j h1 _ _ => hf d j h1))
          refine g8_claimOf_46 (fun c => fin (by omega)) (fun c => ?_)
          refine g8_claimOf_51 (fun c4 => fin (by omega)) (fun c4 => ?_)
          exact g8_claimOf_56 (k0 (fun h => by unfold cval at h; omega))
        exact c8_sentenceOf (fun h => r4 _ (Or.inr ⟨rfl, h⟩)) (fun h => r4 _ (Or.inl ⟨rfl, h⟩))
      exact c8_programOf (fun h => r3 _ (Or.inr ⟨rfl, h⟩)) (fun h => r3 _ (Or.inl ⟨rfl, h⟩))
    exact c8_programOf (fun h => r2 _ (Or.inr ⟨rfl, h⟩)) (fun h => r2 _ (Or.inl ⟨rfl, h⟩))
  exact c8_sentenceOf (fun h => r1 _ (Or.inr ⟨rfl, h⟩)) (fun h => r1 _ (Or.inl ⟨rfl, h⟩))
theorem fz.gcm {M M' : am_M} (h : fz M M') {a p q b : Int} : cm M' a p q b = cm M a p q b := by
  unfold cm qm
  rw [h.gsm, h.gpm]
theorem cval.ok (hI : Inv S M) {a p q b : Int} (h : cval a p q b) : okC (M 86 1) (cm M a p q b) := hI.1.ok h.1 h.2.1 h.2.2.1 h.2.2.2
theorem e_claim (hI : Inv S M) {a p q b : Int} : am_CallN m8_claim [vr 0, vi a, vi p, vi q, vi b] KS M (fun r M1 => EQ m9_claim [vr 86, vi a, vi p, vi q, vi b] S r M1 ∧ am_sh m8_claim r) := by
  refine am_callN_sh (by decide +kernel) rfl rfl (Nat.le_of_ble_eq_true rfl) ?_
  refine g8_claim_0 ?_
  refine c8_claimOf hI (fun hv M1 hc hf1 => ?_) (fun hv => ?_)
  · have hok := cval.ok hI hv
    have hB := Lq_ok hok
    refine g8_claim_9 (fun _ => ?_) (fun c => by exfalso; omega)
    refine g8_claim_18 kd66 ?_
    refine c2_explore hc hok (fun M2 hR hf2 => ?_)
    change RC M2 (Lq (cm M a p q b) (M 86 1)) at hR
    refine g8_claim_23 kd66 ?_
    refine c2_firstBad (hc.of hf2) hok hR hB ?_
    have hf := hf1.tr hf2.f6
    have fin : ∀ v : Int, v = (if fb (bd (cm M a p q b)) (Lq (cm M a p q b) (M 86 1)) = -9 then 1 else 0) → EQ m9_claim [vr 86, vi a, vi p, vi q, vi b] S (some (vi v)) M2 := by
      intro v hvv
      refine c9_claim (hI.1.ofz hf.z) (fun _ M3 hf3 => ⟨?_, (hI.of hf.x).of hf3.x⟩) (fun h => absurd hv h)
      rw [hf.z.gcm, hf.z 86 1 (by omega), hvv]
    refine g8_claim_28 (fun c => ?_) (fun c => ?_)
    · refine g8_claim_37 (g8_claim_38 (c8_oneIf (Or.inl rfl) (g8_claim_41 (fin 0 ?_))))
      rw [if_neg c]
    · refine g8_claim_33 (g8_claim_38 (c8_oneIf (Or.inr rfl) (g8_claim_41 (fin 1 ?_))))
      rw [if_pos c]
  · refine g8_claim_9 (fun c => absurd rfl c) (fun _ => ?_)
    exact g8_claim_16 (c9_claim hI.1 (fun h => absurd h hv) (fun _ M3 hf3 => ⟨rfl, hI.of hf3.x⟩))
theorem e_picture (hI : Inv S M) {a p q b i : Int} : am_CallN m8_picture [vr 0, vi a, vi p, vi q, vi b, vi i] KS M (fun r M1 => EQ m9_picture [vr 86, vi a, vi p, vi q, vi b, vi i] S r M1 ∧ am_sh m8_picture r) := by
  refine am_callN_sh (by decide +kernel) rfl rfl (Nat.le_of_ble_eq_true rfl) ?_
  refine g8_picture_0 ?_
  refine c8_claimOf hI (fun hv M1 hc hf1 => ?_) (fun hv => ?_)
  · have hok := cval.ok hI hv
    have hB := Lq_ok hok
    refine g8_picture_9 (fun _ => ?_) (fun c => by exfalso; omega)
    refine g8_picture_18 (fun ci => ?_) (fun ci => ?_)
    · refine g8_picture_27 kd66 ?_
      refine c2_explore hc hok (fun M2 hR hf2 => ?_)
      change RC M2 (Lq (cm M a p q b) (M 86 1)) at hR
      refine g8_picture_32 kd66 ?_
      refine c2_pictureAt (hc.of hf2) hok hR hB ci ?_
      have hf := hf1.tr hf2.f6
      refine g8_picture_39 ?_
      refine c9_picture (hI.1.ofz hf.z) (fun _ _ M3 hf3 => ⟨?_, (hI.of hf.x).of hf3.x⟩) (fun _ h => absurd ci h) (fun h => absurd hv h)
      rw [hf.z.gcm, hf.z 86 1 (by omega)]
    · refine g8_picture_24 ?_
      exact c9_picture (hI.1.ofz hf1.z) (fun _ h => absurd h ci) (fun _ _ M3 hf3 => ⟨rfl, (hI.of hf1.x).of hf3.x⟩) (fun h => absurd hv h)
  · refine g8_picture_9 (fun c => absurd rfl c) (fun _ => ?_)
    exact g8_picture_16 (c9_picture hI.1 (fun h => absurd h hv) (fun h => absurd h hv) (fun _ M3 hf3 => ⟨rfl, hI.of hf3.x⟩))
theorem e_met (hI : Inv S M) {a p q b : Int} : am_CallN m8_met [vr 0, vi a, vi p, vi q, vi b] KS M (fun r M1 => EQ m9_met [vr 86, vi a, vi p, vi q, vi b] S r M1 ∧ am_sh m8_met r) := by
  refine am_callN_sh (by decide +kernel) rfl rfl (Nat.le_of_ble_eq_true rfl) ?_
  refine g8_met_0 ?_
  refine c8_claimOf hI (fun hv M1 hc hf1 => ?_) (fun hv => ?_)
  · have hok := cval.ok hI hv
    refine g8_met_9 (fun _ => ?_) (fun c => by exfalso; omega)
    refine g8_met_18 kd66 ?_
    refine c2_explore hc hok (fun M2 hR hf2 => ?_)
    change RC M2 (Lq (cm M a p q b) (M 86 1)) at hR
    refine g8_met_23 kd66 ?_
    refine c2_metPlaces hR ?_
    have hf := hf1.tr hf2.f6
    refine g8_met_28 ?_
    refine c9_met (hI.1.ofz hf.z) (fun _ M3 hf3 => ⟨?_, (hI.of hf.x).of hf3.x⟩) (fun h => absurd hv h)
    rw [hf.z.gcm, hf.z 86 1 (by omega)]
  · refine g8_met_9 (fun c => absurd rfl c) (fun _ => ?_)
    exact g8_met_16 (c9_met hI.1 (fun h => absurd h hv) (fun _ M3 hf3 => ⟨rfl, hI.of hf3.x⟩))
theorem e_place (hI : Inv S M) {a p q b i : Int} : am_CallN m8_place [vr 0, vi a, vi p, vi q, vi b, vi i] KS M (fun r M1 => EQ m9_place [vr 86, vi a, vi p, vi q, vi b, vi i] S r M1 ∧ am_sh m8_place r) := by
  refine am_callN_sh (by decide +kernel) rfl rfl (Nat.le_of_ble_eq_true rfl) ?_
  refine g8_place_0 ?_
  refine c8_claimOf hI (fun hv M1 hc hf1 => ?_) (fun hv => ?_)
  · have hok := cval.ok hI hv
    have hB := Lq_ok hok
    refine g8_place_9 (fun _ => ?_) (fun c => by exfalso; omega)
    refine g8_place_18 kd66 ?_
    refine c2_explore hc hok (fun M2 hR hf2 => ?_)
    change RC M2 (Lq (cm M a p q b) (M 86 1)) at hR
    refine g8_place_23 kd66 ?_
    refine c2_metByNumber hR hB ?_
    have hf := hf1.tr hf2.f6
    refine g8_place_30 ?_
    rw [sn_tie hB]
    refine c9_place (hI.1.ofz hf.z) (fun _ M3 hf3 => ⟨?_, (hI.of hf.x).of hf3.x⟩) (fun h => absurd hv h)
    rw [hf.z.gcm, hf.z 86 1 (by omega)]
  · refine g8_place_9 (fun c => absurd rfl c) (fun _ => ?_)
    exact g8_place_16 (c9_place hI.1 (fun h => absurd h hv) (fun _ M3 hf3 => ⟨rfl, hI.of hf3.x⟩))
theorem lo_sw {S1 S2 : Int → Int} {k : Int} {c : CD} (hok : okC k c) (h : ∀ x : Int, 0 ≤ x ∧ x < 1296 → S1 x = S2 x) {p : Int} (hp : 0 ≤ p ∧ p < 1296) : lo_ S1 k c p ↔ lo_ S2 k c p := by
  constructor
  · rintro ⟨x, h0, h1, h2⟩
    exact ⟨x, h0, h1, by rw [← h _ (af_rng hok hp ⟨h0, h1⟩)]; exact h2⟩
  · rintro ⟨x, h0, h1, h2⟩
    exact ⟨x, h0, h1, by rw [h _ (af_rng hok hp ⟨h0, h1⟩)]; exact h2⟩
theorem ckr_sw {S1 S2 : Int → Int} {k : Int} {c : CD} (hok : okC k c) (h : ∀ x : Int, 0 ≤ x ∧ x < 1296 → S1 x = S2 x) {r : Int} (hr : ckr S1 k c r) : ckr S2 k c r := by
  have h0 : S1 0 = S2 0 := h 0 (by omega)
  rcases hr with ⟨a, b⟩ | ⟨a, ⟨p, hp, q1, q2⟩, b⟩ | ⟨a, q, ⟨p, hp, q1, q2⟩, b⟩ | ⟨a, q, q', b⟩
  · exact Or.inl ⟨by rw [← h0]; exact a, b⟩
  · exact Or.inr (Or.inl ⟨by rw [← h0]; exact a, ⟨p, hp, by rw [← h p hp]; exact q1, (lo_sw hok h hp).mp q2⟩, b⟩)
  · refine Or.inr (Or.inr (Or.inl ⟨by rw [← h0]; exact a, fun r hr h1 h2 => ?_, ⟨p, hp, by rw [← h p hp]; exact q1, q2⟩, b⟩))
    exact q r hr (by rw [h r hr]; exact h1) ((lo_sw hok h hr).mpr h2)
  · refine Or.inr (Or.inr (Or.inr ⟨by rw [← h0]; exact a, fun r hr h1 h2 => ?_, fun r hr h1 => ?_, b⟩))
    · exact q r hr (by rw [h r hr]; exact h1) ((lo_sw hok h hr).mpr h2)
    · exact q' r hr (by rw [h r hr]; exact h1)
theorem e_check (hI : Inv S M) {a p q b : Int} : am_CallN m8_check [vr 0, vi a, vi p, vi q, vi b] KS M (fun r M1 => EQ m9_check [vr 86, vi a, vi p, vi q, vi b] S r M1 ∧ am_sh m8_check r) := by
  have hS99 : ∀ x : Int, 0 ≤ x ∧ x < 1296 → M 99 x = 0 ∨ M 99 x = 1 := fun x hx => (hI.2.2.1.1 x hx).2
  refine am_callN_sh (by decide +kernel) rfl rfl (Nat.le_of_ble_eq_true rfl) ?_
  refine g8_check_0 ?_
  refine c8_claimOf hI (fun hv M1 hc hf1 => ?_) (fun hv => ?_)
  · have hok := cval.ok hI hv
    have e1 : ∀ x : Int, M1 1 x = M 1 x := fun x => hf1 1 x (by omega) (by omega) (by omega)
    have e99 : ∀ x : Int, M1 99 x = M 99 x := fun x => hf1 99 x (by omega) (by omega) (by omega)
    refine g8_check_9 (fun _ => ?_) (fun c => by exfalso; omega)
    refine g8_check_18 kd66 ?_
    refine c2_firstFault hc hok (fun r hr => ?_)
    refine g8_check_27 ?_
    refine c9_check (hI.1.ofz hf1.z) (fun x hx => by rw [e99]; exact hS99 x hx) (fun _ r' hr' M3 hf3 => ⟨?_, (hI.of hf1.x).of hf3.x⟩) (fun h => absurd hv h)
    rw [hf1.z.gcm, hf1.z 86 1 (by omega)] at hr'
    have hck : ckr (M1 1) (M 86 1) (cm M a p q b) r' := by
      have hs : ∀ x : Int, 0 ≤ x ∧ x < 1296 → M1 99 x = M1 1 x := fun x hx => by rw [e99, e1, (hI.2.2.1.1 x hx).1]
      exact ckr_sw hok hs hr'
    rw [ckr_one hr hck]
  · refine g8_check_9 (fun c => absurd rfl c) (fun _ => ?_)
    exact g8_check_16 (c9_check hI.1 hS99 (fun h => absurd h hv) (fun _ M3 hf3 => ⟨rfl, hI.of hf3.x⟩))
end
