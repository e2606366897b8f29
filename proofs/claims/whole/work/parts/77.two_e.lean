/-! ===== a sentence that follows: the claim of a program that changes nothing ===== -/
def Un : Pg := (fun _ _ => 0, fun _ x => 1 + x, fun _ => 0)
def fl_ (p : Int) : Int := 216 * (p / 6) + p % 6
theorem Un_ok {k : Int} (hk : 2 ≤ k ∧ k ≤ 4) : okP k Un := ⟨fun s x _ _ => by show 0 ≤ (0 : Int) ∧ (0 : Int) < 6; omega, fun s x _ hx => wv1 hk hx, fun s _ => Or.inr wv0⟩
theorem fl_af {A B : Sn} (oA : okS A) (oB : okS B) {p x : Int} (hp : 0 ≤ p ∧ p < 36) (hx : 0 ≤ x ∧ x < 4) : af (A, Un, none, B) (fl_ p) x = fl_ (ap A B p x) := by
  have h1 := oA (p / 6) x (by omega) hx
  have h2 := oB (p % 6) x (by omega) hx
  have e1 : fl_ p / 216 = p / 6 := by unfold fl_; omega
  have e2 : fl_ p / 6 % 6 = 0 := by unfold fl_; omega
  have e3 : fl_ p % 6 = p % 6 := by unfold fl_; omega
  have e4 : aw B.1 (p % 6) (1 + x) = B.1 (p % 6) x := by
    unfold aw
    rw [if_neg (by omega), if_pos (by omega), show 1 + x - 1 = x by omega]
  have e5 : af (A, Un, none, B) (fl_ p) x = 216 * A.1 (fl_ p / 216) x + 36 * 0 + 6 * (fl_ p / 6 % 6) + aw B.1 (fl_ p % 6) (1 + x) := rfl
  rw [e5, e1, e2, e3, e4]
  unfold fl_ ap
  omega
theorem fl_bd {A B : Sn} {p : Int} (hp : 0 ≤ p ∧ p < 36) : bd (A, Un, none, B) (fl_ p) = bb A B p := by
  have e1 : fl_ p / 216 = p / 6 := by unfold fl_; omega
  have e3 : fl_ p % 6 = p % 6 := by unfold fl_; omega
  have e4 : aw B.1 (p % 6) 0 = p % 6 := by
    unfold aw
    rw [if_pos (by omega)]
  have e5 : bd (A, Un, none, B) (fl_ p) = if A.2 (fl_ p / 216) = 1 then (if (0 : Int) = -1 then 1 else if B.2 (aw B.1 (fl_ p % 6) 0) = 1 then 0 else 1) else 0 := rfl
  rw [e5, e1, e3, e4, if_neg (show ¬ (0 : Int) = -1 by omega)]
  rfl
theorem fl_mp {A B : Sn} {k : Int} (hk : 2 ≤ k ∧ k ≤ 4) (oA : okS A) (oB : okS B) : mp (fun p => 0 ≤ p ∧ p < 36) fl_ (ap A B) (af (A, Un, none, B)) k.toNat := by
  refine ⟨by show (0 : Int) ≤ 0 ∧ (0 : Int) < 36; omega, rfl, fun p hp => hp.1, fun p hp => by unfold fl_; omega, fun p x hp h0 h1 => ap_rng oA oB hp ⟨h0, by omega⟩, fun p q hp hq he => ?_, fun p x hp h0 h1 => fl_af oA oB hp ⟨h0, by omega⟩⟩
  unfold fl_ at he
  have h1 : 0 ≤ p ∧ p < 36 := hp
  have h2 : 0 ≤ q ∧ q < 36 := hq
  omega
theorem fl_Lq {A B : Sn} {k : Int} (hk : 2 ≤ k ∧ k ≤ 4) (oA : okS A) (oB : okS B) : Lq (A, Un, none, B) k = (bf (ap A B) k.toNat 36).map (ps fl_) ∧ alS (fun p => 0 ≤ p ∧ p < 36) (bf (ap A B) k.toNat 36) ∧ bok ((36 : Nat) : Int) (bf (ap A B) k.toNat 36) := by
  have hm := fl_mp hk oA oB
  have hB := bok_bf (NS := ((36 : Nat) : Int)) (sc := ap A B) (k := k.toNat) (by omega) (by omega) (fun p x h0 h1 h2 h3 => ap_rng oA oB ⟨h0, h1⟩ ⟨h2, by omega⟩)
  have he : bf (ap A B) k.toNat 1296 = bf (ap A B) k.toNat 36 := bf_end (i := 36) (n := 1296) (by have := (hB 36).bound; omega) (by omega)
  refine ⟨?_, (bf_map hm (by omega) 36).2, hB 36⟩
  have := (bf_map hm (by omega) 1296).1
  rw [he] at this
  exact this
theorem fl_fb {A B : Sn} {k : Int} (hk : 2 ≤ k ∧ k ≤ 4) (oA : okS A) (oB : okS B) : fb (bd (A, Un, none, B)) (Lq (A, Un, none, B) k) = if fb (bb A B) (bf (ap A B) k.toNat 36) = -9 then -9 else fl_ (fb (bb A B) (bf (ap A B) k.toNat 36)) := by
  obtain ⟨h1, h2, h3⟩ := fl_Lq hk oA oB
  rw [h1]
  exact fb_map (fun e he => ⟨(h3.2.2.1 e he).1, by rw [fl_bd (h3.2.2.1 e he)]⟩)
theorem fl_pic {A B : Sn} {k i : Int} (hk : 2 ≤ k ∧ k ≤ 4) (oA : okS A) (oB : okS B) (hn : fb (bb A B) (bf (ap A B) k.toNat 36) ≠ -9) : pic (Lq (A, Un, none, B) k) (fl_ (fb (bb A B) (bf (ap A B) k.toNat 36))) i = pic (bf (ap A B) k.toNat 36) (fb (bb A B) (bf (ap A B) k.toNat 36)) i := by
  obtain ⟨h1, h2, h3⟩ := fl_Lq hk oA oB
  have hb := h3.bound
  rcases fb_mem (b := bb A B) (q := bf (ap A B) k.toNat 36) with h | ⟨e, he, h⟩
  · exact absurd h hn
  · rw [← h, h1]
    obtain ⟨n, hj⟩ := List.mem_iff_getElem?.mp he
    have hl := (List.getElem?_eq_some_iff.mp hj).1
    refine pic_map (fl_mp hk oA oB) h2 (h3.2.2.1 e he) (fun hi => ?_)
    have := ln_pa h3 n e hj 1296 (by omega) (ln (bf (ap A B) k.toNat 36) 1296 e.1 - 1 - i.toNat) (by omega)
    exact this.2.2.1 (by omega)
/-! ===== the calls, two by two: what follows; how many rows ===== -/
section
variable {S : Int → Int} {M : am_M} {Q : Option am_V → am_M → Prop}
theorem c8_followingOf {a b : Int} (hI : Inv S M) (k1 : (0 ≤ a ∧ a ≤ 7) ∧ (0 ≤ b ∧ b ≤ 7) → ∀ M', clm M' (M 86 1) (sm M a, Un, none, sm M b) → f66 M M' → Q (some (vr 66)) M') (k0 : ¬ ((0 ≤ a ∧ a ≤ 7) ∧ (0 ≤ b ∧ b ≤ 7)) → Q (some (vr (-1))) M) : am_CallN m8_followingOf [vr 0, vi a, vi b] KS M Q := by
  have hk0 : M 0 0 = M 86 1 := hI.2.1.1
  refine am_callN_of (by decide +kernel) rfl rfl (Nat.le_of_ble_eq_true rfl) ?_
  refine g8_followingOf_0 ?_
  have r1 : ∀ x : Int, (x = -1 ∧ ¬ (0 ≤ a ∧ a ≤ 7)) ∨ (x = 3 + 3 * a ∧ 0 ≤ a ∧ a ≤ 7) → am_AtN m8_followingOf 5 [some (vr 0), some (vi a), some (vi b), none, none] [vr x] KS M Q := by
    intro x hx
    refine g8_followingOf_5 ?_
    have r2 : ∀ y : Int, (y = -1 ∧ ¬ (0 ≤ b ∧ b ≤ 7)) ∨ (y = 3 + 3 * b ∧ 0 ≤ b ∧ b ≤ 7) → am_AtN m8_followingOf 11 [some (vr 0), some (vi a), some (vi b), some (vr x), none] [vr y] KS M Q := by
      intro y hy
      refine g8_followingOf_11 (fun c => g8_followingOf_22 (k0 (by omega))) (fun c1 => ?_)
      refine g8_followingOf_17 (fun c2 => ?_) (fun c => g8_followingOf_22 (k0 (by omega)))
      have ha : 0 ≤ a ∧ a ≤ 7 := by omega
      have hb : 0 ≤ b ∧ b ≤ 7 := by omega
      obtain rfl : x = 3 + 3 * a := by omega
      obtain rfl : y = 3 + 3 * b := by omega
      have hU : isP M 47 Un := ⟨48, 49, 50, kd47, kd48, kd49, kd50, fun s x hs hx => by
        have := hI.2.2.2.2.1.1 (s * 4 + x) (by omega)
        refine ⟨this.2.1, ?_⟩
        rw [this.2.2, show (s * 4 + x) % 4 = x by omega]
        rfl, fun s hs => (hI.2.2.2.2.1.2 s hs).2⟩
      refine g8_followingOf_24 ?_
      rw [hk0]
      refine c2_state (c := (sm M a, Un, none, sm M b)) (hI.s ha).s hU rfl (hI.s hb).s (fun M' hc hf => ?_)
      exact g8_followingOf_43 (k1 ⟨ha, hb⟩ M' hc (fun d j h1 _ _ => hf d j h1))
    exact c8_sentenceOf (fun h => r2 _ (Or.inr ⟨rfl, h⟩)) (fun h => r2 _ (Or.inl ⟨rfl, h⟩))
  exact c8_sentenceOf (fun h => r1 _ (Or.inr ⟨rfl, h⟩)) (fun h => r1 _ (Or.inl ⟨rfl, h⟩))
theorem okC_U (hI : Inv S M) {a b : Int} (h : (0 ≤ a ∧ a ≤ 7) ∧ (0 ≤ b ∧ b ≤ 7)) : okC (M 86 1) (sm M a, Un, none, sm M b) := ⟨hI.1.1, hI.1.sok h.1, Un_ok hI.1.1, fun P hP => (by cases hP), hI.1.sok h.2⟩
theorem fl_nn {p : Int} (h : 0 ≤ p) : 0 ≤ fl_ p := by
  unfold fl_
  omega
theorem fbb_nn (hI : Inv S M) {a b : Int} (h : (0 ≤ a ∧ a ≤ 7) ∧ (0 ≤ b ∧ b ≤ 7)) (hn : fb (bb (sm M a) (sm M b)) (bf (ap (sm M a) (sm M b)) (M 86 1).toNat 36) ≠ -9) : 0 ≤ fb (bb (sm M a) (sm M b)) (bf (ap (sm M a) (sm M b)) (M 86 1).toNat 36) := by
  have h3 := part_ok hI.1 h.1 h.2 36
  rcases fb_mem (b := bb (sm M a) (sm M b)) (q := bf (ap (sm M a) (sm M b)) (M 86 1).toNat 36) with h4 | ⟨e, he, h4⟩
  · exact absurd h4 hn
  · rw [← h4]
    exact (h3.2.2.1 e he).1
theorem e_follows (hI : Inv S M) {a b : Int} : am_CallN m8_follows [vr 0, vi a, vi b] KS M (fun r M1 => EQ m9_follows [vr 86, vi a, vi b] S r M1 ∧ am_sh m8_follows r) := by
  have hk := hI.1.1
  refine am_callN_sh (by decide +kernel) rfl rfl (Nat.le_of_ble_eq_true rfl) ?_
  refine g8_follows_0 ?_
  refine c8_followingOf hI (fun hv M1 hc hf1 => ?_) (fun hv => ?_)
  · have hok := okC_U hI hv
    have hB := Lq_ok hok
    refine g8_follows_6 (fun _ => ?_) (fun c => by exfalso; omega)
    refine g8_follows_13 kd66 ?_
    refine c2_explore hc hok (fun M2 hR hf2 => ?_)
    change RC M2 (Lq (sm M a, Un, none, sm M b) (M 86 1)) at hR
    refine g8_follows_17 kd66 ?_
    refine c2_firstBad (hc.of hf2) hok hR hB ?_
    have hf := hf1.tr hf2.f6
    have hfb := fl_fb (k := M 86 1) hk (hI.1.sok hv.1) (hI.1.sok hv.2)
    have fin : ∀ v : Int, v = (if fb (bb (sm M a) (sm M b)) (bf (ap (sm M a) (sm M b)) (M 86 1).toNat 36) = -9 then 1 else 0) → EQ m9_follows [vr 86, vi a, vi b] S (some (vi v)) M2 := by
      intro v hvv
      refine c9_follows (hI.1.ofz hf.z) (fun _ M3 hf3 => ⟨?_, (hI.of hf.x).of hf3.x⟩) (fun h => absurd hv h)
      rw [hf.z.gsm, hf.z 86 1 (by omega), hvv]
    refine g8_follows_21 (fun c => ?_) (fun c => ?_)
    · refine g8_follows_30 (g8_follows_31 (c8_oneIf (Or.inl rfl) (g8_follows_34 (fin 0 ?_))))
      rw [if_neg (fun h => c (by rw [hfb, if_pos h]))]
    · refine g8_follows_26 (g8_follows_31 (c8_oneIf (Or.inr rfl) (g8_follows_34 (fin 1 ?_))))
      by_cases h : fb (bb (sm M a) (sm M b)) (bf (ap (sm M a) (sm M b)) (M 86 1).toNat 36) = -9
      · rw [if_pos h]
      · exfalso
        rw [hfb, if_neg h] at c
        have := fl_nn (fbb_nn hI hv h)
        omega
  · refine g8_follows_6 (fun c => absurd rfl c) (fun _ => ?_)
    exact g8_follows_11 (c9_follows hI.1 (fun h => absurd h hv) (fun _ M3 hf3 => ⟨rfl, hI.of hf3.x⟩))
theorem e_unless (hI : Inv S M) {a b i : Int} : am_CallN m8_unless [vr 0, vi a, vi b, vi i] KS M (fun r M1 => EQ m9_unless [vr 86, vi a, vi b, vi i] S r M1 ∧ am_sh m8_unless r) := by
  have hk := hI.1.1
  refine am_callN_sh (by decide +kernel) rfl rfl (Nat.le_of_ble_eq_true rfl) ?_
  refine g8_unless_0 ?_
  refine c8_followingOf hI (fun hv M1 hc hf1 => ?_) (fun hv => ?_)
  · have hok := okC_U hI hv
    have hB := Lq_ok hok
    refine g8_unless_6 (fun _ => ?_) (fun c => by exfalso; omega)
    refine g8_unless_15 (fun ci => ?_) (fun ci => ?_)
    · refine g8_unless_23 kd66 ?_
      refine c2_explore hc hok (fun M2 hR hf2 => ?_)
      change RC M2 (Lq (sm M a, Un, none, sm M b) (M 86 1)) at hR
      refine g8_unless_28 kd66 ?_
      refine c2_pictureAt (hc.of hf2) hok hR hB ci ?_
      have hf := hf1.tr hf2.f6
      have hfb := fl_fb (k := M 86 1) hk (hI.1.sok hv.1) (hI.1.sok hv.2)
      refine g8_unless_34 ?_
      refine c9_unless (hI.1.ofz hf.z) (fun _ _ M3 hf3 => ⟨?_, (hI.of hf.x).of hf3.x⟩) (fun _ h => absurd ci h) (fun h => absurd hv h)
      rw [hf.z.gsm, hf.z 86 1 (by omega), hfb]
      by_cases h : fb (bb (sm M a) (sm M b)) (bf (ap (sm M a) (sm M b)) (M 86 1).toNat 36) = -9
      · rw [if_pos h, if_pos h, if_pos rfl]
      · have := fl_nn (fbb_nn hI hv h)
        rw [if_neg h, if_neg h, if_neg (show ¬ fl_ (fb (bb (sm M a) (sm M b)) (bf (ap (sm M a) (sm M b)) (M 86 1).toNat 36)) = -9 by omega), fl_pic hk (hI.1.sok hv.1) (hI.1.sok hv.2) h]
    · refine g8_unless_20 ?_
      exact c9_unless (hI.1.ofz hf1.z) (fun _ h => absurd h ci) (fun _ _ M3 hf3 => ⟨rfl, (hI.of hf1.x).of hf3.x⟩) (fun h => absurd hv h)
  · refine g8_unless_6 (fun c => absurd rfl c) (fun _ => ?_)
    exact g8_unless_13 (c9_unless hI.1 (fun h => absurd h hv) (fun h => absurd h hv) (fun _ M3 hf3 => ⟨rfl, hI.of hf3.x⟩))
theorem fT.x {M M' : am_M} (h : fT M M') : fx M M' := fun b j hq => h b j (by unfold kq at hq; omega) (Or.inl (by unfold kq at hq; omega))
theorem fT.z {M M' : am_M} (h : fT M M') : fz M M' := fun b j hb => h b j (by omega) (Or.inl (by omega))
theorem e_rows (hI : Inv S M) {s N : Int} : am_CallN m8_rows [vr 0, vi s, vi N] KS M (fun r M1 => EQ m9_rows [vr 86, vi s, vi N] S r M1 ∧ am_sh m8_rows r) := by
  have hk := hI.1.1
  have hk0 : M 0 0 = M 86 1 := hI.2.1.1
  refine am_callN_sh (by decide +kernel) rfl rfl (Nat.le_of_ble_eq_true rfl) ?_
  refine g8_rows_0 ?_
  refine c8_sentenceOf (fun hs => ?_) (fun hs => ?_)
  · refine g8_rows_5 (fun _ => ?_) (fun c => by exfalso; omega)
    refine g8_rows_14 ?_
    by_cases hN : 0 ≤ N ∧ N ≤ 20
    · refine c8_in (by omega) ?_
      refine g8_rows_20 (fun _ => ?_) (fun c => by exfalso; omega)
      refine g8_rows_27 ?_
      rw [hk0]
      refine c7_fill hk (hI.s hs).s (hI.1.sok hs) hN (fun M1 hT hf1 => ?_)
      refine g8_rows_40 ?_
      refine c7_ways (by omega) (by omega) ?_
      refine g8_rows_49 ?_
      have := hT.2 N.toNat (by omega) 0 (by omega)
      rw [show ((N.toNat : Nat) : Int) = N by omega] at this
      rw [this]
      refine c9_rows (hI.1.ofz hf1.z) (fun h => absurd hs h) (fun _ h => absurd hN h) (fun _ _ M2 hf2 => ⟨?_, (hI.of hf1.x).of hf2.x⟩)
      rw [hf1.z.gsm, hf1.z 86 1 (by omega)]
    · refine c8_out (by omega) ?_
      refine g8_rows_20 (fun c => by exfalso; omega) (fun _ => ?_)
      exact g8_rows_23 (c9_rows hI.1 (fun h => absurd hs h) (fun _ _ M2 hf2 => ⟨rfl, hI.of hf2.x⟩) (fun _ h => absurd h hN))
  · refine g8_rows_5 (fun c => absurd rfl c) (fun _ => ?_)
    exact g8_rows_10 (c9_rows hI.1 (fun _ M2 hf2 => ⟨rfl, hI.of hf2.x⟩) (fun h => absurd h hs) (fun h => absurd h hs))
/-- a new row, the sheet as it was -/
theorem Inv_row {M2 : am_M} {L : List Int} (hI : Inv S M) (h1 : rw_ M2 54 55 L) (h2 : rm M2 L) (h3 : ∀ x ∈ L, 0 ≤ x ∧ x < M 86 1) (h4 : L.length ≤ 24) (hf : ∀ b j : Int, kq b j → b ≠ 54 → b ≠ 55 → b ≠ 109 → (b ≠ 86 ∨ j ≠ 31) → M2 b j = M b j) : Inv S M2 := by
  have e1 : M2 86 1 = M 86 1 := hf 86 1 (by unfold kq kp; omega) (by omega) (by omega) (by omega) (by omega)
  refine Inv_rest (L := L) hI ⟨fun j hj => ?_, ?_⟩ ⟨h1, h2, by rw [e1]; exact h3, h4⟩ (fun b j hq _ _ _ q4 q5 q6 q7 => hf b j hq q4 q5 q6 q7)
  · rw [hf 1 j (by unfold kq kp; omega) (by omega) (by omega) (by omega) (by omega), hf 99 j (by unfold kq kp; omega) (by omega) (by omega) (by omega) (by omega)]
    exact hI.2.2.1.1 j hj
  · rw [hf 0 1 (by unfold kq kp; omega) (by omega) (by omega) (by omega) (by omega), hI.2.2.1.2]
    exact am_sm_congr 1296 (fun j _ _ => (hf 99 j (by unfold kq kp; omega) (by omega) (by omega) (by omega) (by omega)).symm)
theorem e_lay (hI : Inv S M) {s N pl : Int} : am_CallN m8_lay [vr 0, vi s, vi N, vl pl] KS M (fun r M1 => EQ m9_lay [vr 86, vi s, vi N, vl pl] S r M1 ∧ am_sh m8_lay r) := by
  have hk := hI.1.1
  have hk0 : M 0 0 = M 86 1 := hI.2.1.1
  refine am_callN_sh (by decide +kernel) rfl rfl (Nat.le_of_ble_eq_true rfl) ?_
  refine g8_lay_0 ?_
  refine c8_sentenceOf (fun hs => ?_) (fun hs => ?_)
  · have oA := hI.1.sok hs
    refine g8_lay_5 (fun _ => ?_) (fun c => by exfalso; omega)
    refine g8_lay_14 ?_
    by_cases hN : 0 ≤ N ∧ N ≤ 20
    · refine c8_in (by omega) ?_
      refine g8_lay_20 (fun _ => ?_) (fun c => by exfalso; omega)
      refine g8_lay_26 ?_
      rw [hk0]
      refine c7_fill hk (hI.s hs).s oA hN (fun M1 hT hf1 => ?_)
      have hw := hT.2 N.toNat (by omega) 0 (by omega)
      rw [show ((N.toNat : Nat) : Int) = N by omega] at hw
      have bad : ¬ (0 ≤ pl ∧ pl < ws (M 86 1).toNat (sm M s) N.toNat 0) → EQ m9_lay [vr 86, vi s, vi N, vl pl] S (some (vi (-2))) M1 := by
        intro h
        refine c9_lay (hI.1.ofz hf1.z) (fun h' => absurd hs h') (fun _ _ M2 hf2 => ⟨rfl, (hI.of hf1.x).of hf2.x⟩) (fun _ _ h' => ?_)
        rw [hf1.z.gsm, hf1.z 86 1 (by omega)] at h'
        exact absurd h' h
      refine g8_lay_40 (fun c => g8_lay_60 (bad (by omega))) (fun c1 => ?_)
      refine g8_lay_46 ?_
      refine c7_ways (by omega) (by omega) ?_
      rw [hw]
      refine g8_lay_56 (fun c2 => ?_) (fun c => g8_lay_60 (bad (by omega)))
      have hb := ws_b (k := (M 86 1).toNat) (A := sm M s) (by omega) oA (n := N.toNat) (by omega) (p := 0) (by omega)
      refine g8_lay_63 ?_
      refine c7_layOut hk ((hI.s hs).s.of hf1.tab) oA hT hN (by omega) kd54 kd55 (fun M2 hr2 hf2 => ?_)
      have hlen := ly_len (k := (M 86 1).toNat) (A := sm M s) N.toNat 0 pl
      have hlet := ly_let (k := (M 86 1).toNat) (A := sm M s) (by omega) oA N.toNat 0 pl (by omega) (by omega)
      refine g8_lay_78 ?_
      refine c5_letterAt kd54 kd55 (by omega) hr2 (by rw [hlen]; omega) ?_
      refine g8_lay_86 ?_
      have hz : fz M M2 := fun b j hb => by rw [hf2 b j (by omega) (by omega)]; exact hf1.z b j hb
      refine c9_lay (hI.1.ofz hz) (fun h' => absurd hs h') (fun _ h' => absurd ⟨hN, by rw [hz.gsm, hz 86 1 (by omega)]; omega⟩ h') (fun _ _ _ M3 g1 g2 => ⟨?_, ?_⟩)
      · rw [hz.gsm, hz 86 1 (by omega), hlen]
        by_cases h0 : N = 0
        · rw [if_pos h0, if_neg (by omega)]
        · rw [if_neg h0, if_pos (by omega)]
          rfl
      · rw [hz.gsm, hz 86 1 (by omega)] at g1
        refine Inv_row hI ⟨?_, fun i hi => ?_⟩ g1 (fun x hx => by have := hlet x hx; omega) (by rw [hlen]; omega) (fun b j hq h1 h2 h3 h4 => ?_)
        · rw [g2 54 1 (by unfold kp; omega) (by omega) (by omega)]
          exact hr2.1
        · rw [g2 55 _ (by unfold kp; omega) (by omega) (by omega)]
          exact hr2.2 i hi
        · rw [g2 b j hq.2.2 h3 h4, hf2 b j h1 h2]
          exact hf1.x b j hq
    · refine c8_out (by omega) ?_
      refine g8_lay_20 (fun c => by exfalso; omega) (fun _ => ?_)
      exact g8_lay_23 (c9_lay hI.1 (fun h => absurd hs h) (fun _ _ M2 hf2 => ⟨rfl, hI.of hf2.x⟩) (fun _ h => absurd h hN))
  · refine g8_lay_5 (fun c => absurd rfl c) (fun _ => ?_)
    exact g8_lay_12 (c9_lay hI.1 (fun _ M2 hf2 => ⟨rfl, hI.of hf2.x⟩) (fun h => absurd h hs) (fun h => absurd h hs))
end
