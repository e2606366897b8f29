/-! ===== the reference: both ===== -/
theorem br_pren (sc : Int → Int → Int) (q : List (Int × Int)) (pl : Int) (n : Nat) : ∀ d : Nat, ∃ t, br sc q pl (n + d) = br sc q pl n ++ t
  | 0 => ⟨[], (List.append_nil _).symm⟩
  | d + 1 => by
    obtain ⟨t, ht⟩ := br_pren sc q pl n d
    have : br sc q pl (n + (d + 1)) = bs sc (br sc q pl (n + d)) pl ((n + d : Nat) : Int) := rfl
    rw [this]
    unfold bs
    split
    · exact ⟨t ++ _, by rw [ht, List.append_assoc]⟩
    · exact ⟨t, ht⟩
theorem s9_both {M : am_M} {Q : Option am_V → am_M → Prop} {q : List (Int × Int)} {s a b i v w x t : Int} (hN : NM M q) (hl : q.length ≤ 39) (k : am_AtN m9_both 208 [some (vr 86), some (vi s), some (vi a), some (vi b), some (vi q.length), some (vi i), some (vi v), some (vi w), some (vi x), some (vi t), some (vi (ix q t))] [] KS M Q) : am_AtN m9_both 183 [some (vr 86), some (vi s), some (vi a), some (vi b), some (vi q.length), some (vi i), some (vi v), some (vi w), some (vi x), some (vi t), some (vi 0)] [] KS M Q := by
  have hr := ix_rng (p := t) (q := q)
  refine am_for (fun j => [some (vr 86), some (vi s), some (vi a), some (vi b), some (vi q.length), some (vi i), some (vi v), some (vi w), some (vi x), some (vi t), some (vi j)]) (fun _ => M) 0 (ix q t) hr.1 rfl rfl ?_ (fun j h0 h1 ih => ?_)
  · by_cases hlt : ix q t < q.length
    · have h2 := ix_hit hlt
      have h3 := hN (ix q t).toNat (by omega)
      rw [show (((ix q t).toNat : Nat) : Int) = ix q t by omega, h2] at h3
      refine g9_both_183 (fun c => by exfalso; omega) (fun _ => ?_)
      exact g9_both_190 (by omega) (by omega) (fun _ => k) (fun c => absurd h3 c)
    · exact g9_both_183 (fun _ => k) (fun c => by exfalso; omega)
  · have h2 := ix_ne (p := t) (q := q) (j := j.toNat) (by omega)
    have h3 := hN j.toNat (by omega)
    rw [show ((j.toNat : Nat) : Int) = j by omega] at h3
    refine g9_both_183 (fun c => by exfalso; omega) (fun _ => ?_)
    refine g9_both_190 (by omega) (by omega) (fun c => by exfalso; rw [h3] at c; exact h2 c) (fun _ => ?_)
    exact g9_both_202 (by omega) ih
theorem bh01 (A B : Sn) (q : List (Int × Int)) (p : Int) : bh A B q p = 0 ∨ bh A B q p = 1 := by
  unfold bh
  (repeat' split) <;> omega
theorem z9_both {M M2 : am_M} {Q : Option am_V → am_M → Prop} {s a b k n z : Int} {W : Int → Int → Int} {H : Int → Int} (hkk : M 86 1 = k) (hk : 2 ≤ k ∧ k ≤ 4) (hs : 0 ≤ s ∧ s ≤ 7) (hn : 0 ≤ n ∧ n ≤ 6) (hf : fr9 M M2) (h89 : ∀ p x : Int, 0 ≤ p ∧ p < n → 0 ≤ x ∧ x < k → M2 89 (4 * p + x) = W p x) (h91 : ∀ p : Int, 0 ≤ p ∧ p < n → M2 91 p = H p) (hH : ∀ p, H p = 0 ∨ H p = 1)
    (kk : ∀ M', (∀ p x : Int, 0 ≤ p ∧ p < 6 → 0 ≤ x ∧ x < 4 → M' 87 (24 * s + 4 * p + x) = if p < n ∧ x < k then W p x else 0) → (∀ p : Int, 0 ≤ p ∧ p < 6 → M' 88 (6 * s + p) = if p < n then H p else 1) → (∀ b j : Int, kp b j → ¬ (b = 87 ∧ 24 * s ≤ j ∧ j < 24 * s + 24) → ¬ (b = 88 ∧ 6 * s ≤ j ∧ j < 6 * s + 6) → M' b j = M b j) → Q (some (vi n)) M') :
    am_AtN m9_both 263 [some (vr 86), some (vi s), some (vi a), some (vi b), some (vi n), some (vi z), none, none, none, none, none] [] KS M2 Q := by
  refine g9_both_263 ?_
  refine c9_bare hs ?_
  refine g9_both_268 ?_
  refine am_forR (fun i ls M3 => ls = [some (vr 86), some (vi s), some (vi a), some (vi b), some (vi n), some (vi i), none, none, none, none, none] ∧ (∀ p x : Int, 0 ≤ p ∧ p < 6 → 0 ≤ x ∧ x < 4 → M3 87 (24 * s + 4 * p + x) = if p < i ∧ x < k then W p x else 0) ∧ (∀ p : Int, 0 ≤ p ∧ p < 6 → M3 88 (6 * s + p) = if p < i then H p else 1) ∧ (∀ c j : Int, ¬ (c = 87 ∧ 24 * s ≤ j ∧ j < 24 * s + 24) → ¬ (c = 88 ∧ 6 * s ≤ j ∧ j < 6 * s + 6) → M3 c j = M2 c j)) 0 n (by omega) ⟨rfl, ?_, ?_, ?_⟩ ?_ ?_
  · intro p x hp hx
    unfold ba
    rw [am_fl_out (by omega), am_fl_in (by omega), if_neg (by omega)]
  · intro p hp
    unfold ba
    rw [am_fl_in (by omega), if_neg (by omega)]
  · intro c j h1 h2
    unfold ba
    rw [am_fl_out (by omega), am_fl_out (by omega)]
  · rintro ls M3 ⟨rfl, h1, h2, h3⟩
    refine g9_both_271 (fun _ => ?_) (fun c => by exfalso; omega)
    refine g9_both_350 (kk M3 h1 h2 (fun b j hkp h4 h5 => ?_))
    rw [h3 b j h4 h5]
    exact hf b j hkp
  · rintro i ls M3 hi0 hi1 ⟨rfl, h1, h2, h3⟩ ih
    have e91 : M3 91 i = H i := by rw [h3 91 i (by omega) (by omega)]; exact h91 i ⟨hi0, hi1⟩
    refine g9_both_271 (fun c => by exfalso; omega) (fun _ => ?_)
    refine g9_both_278 (by omega) (by omega) (by omega) (by omega) (by omega) (by omega) (by rw [e91]; exact hH i) ?_
    rw [e91]
    refine am_forR (fun y ls M4 => ls = [some (vr 86), some (vi s), some (vi a), some (vi b), some (vi n), some (vi i), some (vi y), none, none, none, none] ∧ (∀ p x : Int, 0 ≤ p ∧ p < 6 → 0 ≤ x ∧ x < 4 → M4 87 (24 * s + 4 * p + x) = if (p < i ∨ (p = i ∧ x < y)) ∧ x < k then W p x else 0) ∧ (∀ p : Int, 0 ≤ p ∧ p < 6 → M4 88 (6 * s + p) = if p < i + 1 then H p else 1) ∧ (∀ c j : Int, ¬ (c = 87 ∧ 24 * s ≤ j ∧ j < 24 * s + 24) → ¬ (c = 88 ∧ 6 * s ≤ j ∧ j < 6 * s + 6) → M4 c j = M2 c j)) 0 k (by omega) ⟨rfl, ?_, ?_, ?_⟩ ?_ ?_
    · intro p x hp hx
      rw [am_upn (Or.inl (by omega)), h1 p x hp hx]
      by_cases hc : p < i ∧ x < k
      · rw [if_pos hc, if_pos (by omega)]
      · rw [if_neg hc, if_neg (by omega)]
    · intro p hp
      by_cases hc : p = i
      · subst hc
        rw [am_up_hit, if_pos (by omega)]
      · rw [am_upn (Or.inr (by omega)), h2 p hp]
        by_cases hc2 : p < i
        · rw [if_pos hc2, if_pos (by omega)]
        · rw [if_neg hc2, if_neg (by omega)]
    · intro c j h4 h5
      rw [am_upn (by omega)]
      exact h3 c j h4 h5
    · rintro ls M4 ⟨rfl, h4, h5, h6⟩
      have ck : M4 86 1 = k := by rw [h6 86 1 (by omega) (by omega), hf 86 1 (by unfold kp; omega)]; exact hkk
      refine g9_both_300 (fun _ => ?_) (fun c => by exfalso; omega)
      refine g9_both_344 (by omega) ?_
      refine ih _ M4 ⟨rfl, fun p x hp hx => ?_, h5, h6⟩
      rw [h4 p x hp hx]
      by_cases hc : (p < i ∨ (p = i ∧ x < k)) ∧ x < k
      · rw [if_pos hc, if_pos (by omega)]
      · rw [if_neg hc, if_neg (by omega)]
    · rintro y ls M4 hy0 hy1 ⟨rfl, h4, h5, h6⟩ ihy
      have ck : M4 86 1 = k := by rw [h6 86 1 (by omega) (by omega), hf 86 1 (by unfold kp; omega)]; exact hkk
      have e89 : M4 89 (4 * i + y) = W i y := by rw [h6 89 _ (by omega) (by omega)]; exact h89 i y ⟨hi0, hi1⟩ ⟨hy0, hy1⟩
      refine g9_both_300 (fun c => by exfalso; omega) (fun _ => ?_)
      refine g9_both_309 (by omega) (by omega) (by omega) (by omega) (by omega) (by omega) (by omega) (by omega) (by omega) (by omega) (by omega) ?_
      rw [e89]
      refine ihy _ _ ⟨rfl, fun p x hp hx => ?_, fun p hp => ?_, fun c j h7 h8 => ?_⟩
      · by_cases hc : p = i ∧ x = y
        · obtain ⟨rfl, rfl⟩ := hc
          rw [am_up_hit, if_pos (by omega)]
        · rw [am_upn (Or.inr (by omega)), h4 p x hp hx]
          by_cases hc2 : (p < i ∨ (p = i ∧ x < y)) ∧ x < k
          · rw [if_pos hc2, if_pos (by omega)]
          · rw [if_neg hc2, if_neg (by omega)]
      · rw [am_upn (Or.inl (by omega))]
        exact h5 p hp
      · rw [am_upn (by omega)]
        exact h6 c j h7 h8
def bval (s a b : Int) : Prop := (0 ≤ s ∧ s ≤ 7) ∧ (0 ≤ a ∧ a ≤ 7) ∧ (0 ≤ b ∧ b ≤ 7)
theorem c9_both {M : am_M} {Q : Option am_V → am_M → Prop} {s a b : Int} (hd : mdat M)
    (k1 : bval s a b → ((bq (M 86 1) (sm M a) (sm M b)).length : Int) ≤ 6 → ∀ M', (∀ p x : Int, 0 ≤ p ∧ p < 6 → 0 ≤ x ∧ x < 4 → M' 87 (24 * s + 4 * p + x) = (bo (M 86 1) (sm M a) (sm M b)).1 p x) → (∀ p : Int, 0 ≤ p ∧ p < 6 → M' 88 (6 * s + p) = (bo (M 86 1) (sm M a) (sm M b)).2 p) → (∀ b j : Int, kp b j → ¬ (b = 87 ∧ 24 * s ≤ j ∧ j < 24 * s + 24) → ¬ (b = 88 ∧ 6 * s ≤ j ∧ j < 6 * s + 6) → M' b j = M b j) → Q (some (vi (bq (M 86 1) (sm M a) (sm M b)).length)) M')
    (k4 : bval s a b → (6 : Int) < (bq (M 86 1) (sm M a) (sm M b)).length → ∀ M', fr9 M M' → Q (some (vi (-4))) M')
    (k0 : ¬ bval s a b → ∀ M', fr9 M M' → Q (some (vi (-1))) M') : am_CallN m9_both [vr 86, vi s, vi a, vi b] KS M Q := by
  have hk := hd.1
  have hf0 : fr9 M (am_up M 86 0 0) := fr9.up (by unfold kp; omega)
  have hM88 := hd.2.2.1
  refine am_callN_of (by decide +kernel) rfl rfl (Nat.le_of_ble_eq_true rfl) ?_
  refine g9_both_0 ?_
  refine c9_noSentence ?_
  by_cases hs : 0 ≤ s ∧ s ≤ 7
  · rw [if_pos hs]
    refine g9_both_9 (fun c => by exfalso; omega) (fun _ => ?_)
    refine g9_both_12 ?_
    refine c9_noSentence ?_
    by_cases ha : 0 ≤ a ∧ a ≤ 7
    · rw [if_pos ha]
      refine g9_both_16 (fun c => by exfalso; omega) (fun _ => ?_)
      refine g9_both_19 ?_
      refine c9_noSentence ?_
      by_cases hb : 0 ≤ b ∧ b ≤ 7
      · rw [if_pos hb]
        refine g9_both_23 (fun _ => ?_) (fun c => by exfalso; omega)
        have hval : bval s a b := ⟨hs, ha, hb⟩
        have oA := hd.sok ha
        have oB := hd.sok hb
        generalize hkk : M 86 1 = k at hk k0 k1 k4
        generalize hAA : sm M a = A at oA k1 k4
        generalize hBB : sm M b = B at oB k1 k4
        have hsc : ∀ p x : Int, 0 ≤ p → p < ((36 : Nat) : Int) → 0 ≤ x → x < (k.toNat : Int) → 0 ≤ ap A B p x ∧ ap A B p x < ((36 : Nat) : Int) := fun p x h0 h1 h2 h3 => ap_rng oA oB ⟨h0, h1⟩ ⟨h2, by omega⟩
        have hB := bok_bf (NS := ((36 : Nat) : Int)) (sc := ap A B) (k := k.toNat) (by omega) (by omega) hsc
        have full : ∀ (n p : Int) (M2 : am_M), 7 ≤ n → (n : Int) ≤ (bq k A B).length → fr9 M M2 → am_AtN m9_both 41 [some (vr 86), some (vi s), some (vi a), some (vi b), some (vi n), some (vi p), none, none, none, none, none] [] KS M2 Q := by
          intro n p M2 hn hl hf
          have t : am_AtN m9_both 253 [some (vr 86), some (vi s), some (vi a), some (vi b), some (vi n), some (vi p), none, none, none, none, none] [] KS M2 Q := g9_both_253 (fun c => by exfalso; omega) (fun _ => g9_both_260 (k4 hval (by omega) M2 hf))
          exact g9_both_41 (fun _ => t) (fun _ => g9_both_48 (fun _ => t) (fun c => by exfalso; omega))
        refine g9_both_28 ?_
        have key : ∀ (d : Nat) (i : Nat) (M2 : am_M), i + d = 36 → i ≤ (bf (ap A B) k.toNat i).length → (bf (ap A B) k.toNat i).length ≤ 6 → NM M2 (bf (ap A B) k.toNat i) → (∀ p x : Int, 0 ≤ p ∧ p < i → 0 ≤ x ∧ x < k → M2 89 (4 * p + x) = bn A B (bq k A B) p x) → (∀ p : Int, 0 ≤ p ∧ p < i → M2 91 p = bh A B (bq k A B) p) → fr9 M M2 →
            am_AtN m9_both 41 [some (vr 86), some (vi s), some (vi a), some (vi b), some (vi (bf (ap A B) k.toNat i).length), some (vi (i : Int)), none, none, none, none, none] [] KS M2 Q := by
          intro d
          induction d with
          | zero =>
            intro i M2 hi hil hl6
            omega
          | succ d ih =>
            intro i M2 hi hil hl6 hN h89 h91 hf
            obtain ⟨t, ht⟩ := bf_pren (ap A B) k.toNat i (36 - i)
            rw [show i + (36 - i) = 36 by omega] at ht
            by_cases hlt : i < (bf (ap A B) k.toNat i).length
            · obtain ⟨e, he⟩ : ∃ e, (bf (ap A B) k.toNat i)[i]? = some e := ⟨_, List.getElem?_eq_getElem hlt⟩
              have heb := (hB i).2.2.1 e (List.mem_of_getElem? he)
              have heb2 : 0 ≤ e.1 ∧ e.1 < 36 := heb
              have em : M2 90 i = e.1 := by
                rw [hN i hlt]
                simp [List.getD, he]
              have eqf : ((bq k A B).getD i (0, 0)).1 = e.1 := by
                unfold bq
                rw [ht]
                simp [List.getD, List.getElem?_append_left hlt, he]
              have e88a : M2 88 (6 * a + e.1 / 6) = A.2 (e.1 / 6) := by
                rw [← hAA, hf 88 _ (by unfold kp; omega)]
                rfl
              have e88b : M2 88 (6 * b + e.1 % 6) = B.2 (e.1 % 6) := by
                rw [← hBB, hf 88 _ (by unfold kp; omega)]
                rfl
              have h01a : A.2 (e.1 / 6) = 0 ∨ A.2 (e.1 / 6) = 1 := by
                rw [← hAA]
                exact hM88 _ (by omega)
              have h01b : B.2 (e.1 % 6) = 0 ∨ B.2 (e.1 % 6) = 1 := by
                rw [← hBB]
                exact hM88 _ (by omega)
              have cont : ∀ v : Int, v = bh A B (bq k A B) i → (v = 0 ∨ v = 1) → am_AtN m9_both 120 [some (vr 86), some (vi s), some (vi a), some (vi b), some (vi (bf (ap A B) k.toNat i).length), some (vi (i : Int)), some (vi (e.1 / 6)), some (vi (e.1 % 6)), none, none, none] [vi v, vi i, vr 91] KS M2 Q := by
                intro v hv hv01
                refine g9_both_120 kd91 (by omega) (by omega) hv01 ?_
                refine am_forR (fun x ls M3 => ls = [some (vr 86), some (vi s), some (vi a), some (vi b), some (vi (br (ap A B) (bf (ap A B) k.toNat i) e.1 x.toNat).length), some (vi (i : Int)), some (vi (e.1 / 6)), some (vi (e.1 % 6)), some (vi x), none, none] ∧ (br (ap A B) (bf (ap A B) k.toNat i) e.1 x.toNat).length ≤ 7 ∧ NM M3 (br (ap A B) (bf (ap A B) k.toNat i) e.1 x.toNat) ∧ (∀ p y : Int, (0 ≤ p ∧ (p < i ∨ (p = i ∧ y < x))) → 0 ≤ y ∧ y < k → M3 89 (4 * p + y) = bn A B (bq k A B) p y) ∧ (∀ p : Int, 0 ≤ p ∧ p < i + 1 → M3 91 p = bh A B (bq k A B) p) ∧ fr9 M M3) 0 k (by omega) ⟨rfl, ?_, ?_, ?_, ?_, ?_⟩ ?_ ?_
                · show (bf (ap A B) k.toNat i).length ≤ 7
                  omega
                · intro j hj
                  rw [am_upn (Or.inl (by omega))]
                  exact hN j hj
                · intro p y hp hy
                  rw [am_upn (Or.inl (by omega))]
                  exact h89 p y (by omega) hy
                · intro p hp
                  by_cases hc : p = i
                  · subst hc
                    rw [am_up_hit, hv]
                  · rw [am_upn (Or.inr (by omega))]
                    exact h91 p (by omega)
                · exact hf.tr (fr9.up (by unfold kp; omega))
                · rintro ls M3 ⟨rfl, hl7, hN3, h893, h913, hf3⟩
                  have ck : M3 86 1 = k := by rw [hf3 86 1 (by unfold kp; omega)]; exact hkk
                  refine g9_both_124 (fun _ => ?_) (fun c => by exfalso; omega)
                  refine g9_both_247 (by omega) ?_
                  have hbs := bf_s he (k := k.toNat) (sc := ap A B)
                  rw [← hbs] at hN3 hl7 ⊢
                  by_cases h7 : (bf (ap A B) k.toNat (i + 1)).length = 7
                  · refine full _ _ M3 (by omega) ?_ hf3
                    obtain ⟨t2, ht2⟩ := bf_pren (ap A B) k.toNat (i + 1) (36 - (i + 1))
                    rw [show i + 1 + (36 - (i + 1)) = 36 by omega] at ht2
                    unfold bq
                    rw [ht2]
                    simp
                    omega
                  · refine ih (i + 1) M3 (by omega) ?_ (by omega) hN3 (fun p y hp hy => h893 p y (by omega) hy) h913 hf3
                    obtain ⟨t2, ht2⟩ := bf_pre (ap A B) k.toNat i
                    rw [ht2]
                    simp
                    omega
                · rintro x ls M3 hx0 hx1 ⟨rfl, hl7, hN3, h893, h913, hf3⟩ ihx
                  have ck : M3 86 1 = k := by rw [hf3 86 1 (by unfold kp; omega)]; exact hkk
                  have hbr : ∀ n : Nat, n ≤ k.toNat → bok ((36 : Nat) : Int) (br (ap A B) (bf (ap A B) k.toNat i) e.1 n) := fun n hn => bok_br (h0 := e.2) (sc := ap A B) (hB i) he n (by omega) (fun y h0 h1 => hsc e.1 y heb.1 heb.2 h0 (by omega))
                  have hb1 := hbr x.toNat (by omega)
                  have ebs : br (ap A B) (bf (ap A B) k.toNat i) e.1 (x.toNat + 1) = bs (ap A B) (br (ap A B) (bf (ap A B) k.toNat i) e.1 x.toNat) e.1 x := by
                    rw [br, show ((x.toNat : Nat) : Int) = x by omega]
                  have hpre : ∀ n : Nat, n ≤ k.toNat → ∃ t3, bq k A B = br (ap A B) (bf (ap A B) k.toNat i) e.1 n ++ t3 := by
                    intro n hn
                    obtain ⟨t2, ht2⟩ := bf_pren (ap A B) k.toNat (i + 1) (36 - (i + 1))
                    rw [show i + 1 + (36 - (i + 1)) = 36 by omega, bf_s he] at ht2
                    obtain ⟨t4, ht4⟩ := br_pren (ap A B) (bf (ap A B) k.toNat i) e.1 n (k.toNat - n)
                    rw [show n + (k.toNat - n) = k.toNat by omega] at ht4
                    refine ⟨t4 ++ t2, ?_⟩
                    unfold bq
                    rw [ht2, ht4, List.append_assoc]
                  by_cases h7 : (br (ap A B) (bf (ap A B) k.toNat i) e.1 x.toNat).length = 7
                  · obtain ⟨t3, ht3⟩ := hpre x.toNat (by omega)
                    refine g9_both_124 (fun c => by exfalso; omega) (fun _ => ?_)
                    refine g9_both_133 (fun _ => ?_) (fun c => by exfalso; omega)
                    refine g9_both_247 (by omega) ?_
                    refine full _ _ M3 (by omega) ?_ hf3
                    rw [ht3]
                    simp
                    omega
                  · obtain ⟨t3, ht3⟩ := hpre (x.toNat + 1) (by omega)
                    have hin := bs_in (sc := ap A B) (x := x) hb1.1 heb.1 hx0
                    have hix := bs_ix (sc := ap A B) (x := x) (pl := e.1) hb1.1
                    rw [← ebs] at hin hix
                    have hvl : nbr (bq k A B) (ap A B e.1 x) = ix (br (ap A B) (bf (ap A B) k.toNat i) e.1 x.toNat) (ap A B e.1 x) := by
                      unfold nbr
                      rw [ht3, hw_pre hin, if_neg hin, ix_pre hin, hix]
                    have hixr := ix_rng (p := ap A B e.1 x) (q := br (ap A B) (bf (ap A B) k.toNat i) e.1 x.toNat)
                    have e87a : M3 87 (24 * a + 4 * (e.1 / 6) + x) = A.1 (e.1 / 6) x := by
                      rw [← hAA, hf3 87 _ (by unfold kp; omega)]
                      rfl
                    have e87b : M3 87 (24 * b + 4 * (e.1 % 6) + x) = B.1 (e.1 % 6) x := by
                      rw [← hBB, hf3 87 _ (by unfold kp; omega)]
                      rfl
                    have ra := oA (e.1 / 6) x (by omega) (by omega)
                    have rb := oB (e.1 % 6) x (by omega) (by omega)
                    have eto : 6 * M3 87 (24 * a + 4 * (e.1 / 6) + x) + M3 87 (24 * b + 4 * (e.1 % 6) + x) = ap A B e.1 x := by
                      rw [e87a, e87b]
                      unfold ap
                      omega
                    refine g9_both_124 (fun c => by exfalso; omega) (fun _ => ?_)
                    refine g9_both_133 (fun c => by exfalso; omega) (fun _ => ?_)
                    refine g9_both_140 (by omega) (by omega) (by omega) (by omega) (by omega) (by omega) (by omega) (by omega) (by omega) (by omega) (by omega) (by omega) (by omega) (by omega) ?_
                    rw [eto]
                    refine s9_both hN3 (by omega) ?_
                    have h89n : ∀ (M4 : am_M), (∀ j : Int, M4 89 j = M3 89 j) → ∀ p y : Int, (0 ≤ p ∧ (p < i ∨ (p = i ∧ y < x + 1))) → 0 ≤ y ∧ y < k → am_up M4 89 (4 * i + x) (ix (br (ap A B) (bf (ap A B) k.toNat i) e.1 x.toNat) (ap A B e.1 x)) 89 (4 * p + y) = bn A B (bq k A B) p y := by
                      intro M4 hM4 p y hp hy
                      by_cases hc : p = i ∧ y = x
                      · obtain ⟨rfl, rfl⟩ := hc
                        rw [am_up_hit]
                        unfold bn
                        rw [show ((i : Int)).toNat = i by omega, eqf, hvl]
                      · rw [am_upn (Or.inr (by omega)), hM4]
                        exact h893 p y (by omega) hy
                    refine g9_both_208 (fun c => ?_) (fun c => ?_)
                    · have hn : ¬ hw (br (ap A B) (bf (ap A B) k.toNat i) e.1 x.toNat) (ap A B e.1 x) = -2 := fun hn => c (ix_none hb1.1 hn)
                      have eq2 : br (ap A B) (bf (ap A B) k.toNat i) e.1 (x + 1).toNat = br (ap A B) (bf (ap A B) k.toNat i) e.1 x.toNat := by
                        rw [show (x + 1).toNat = x.toNat + 1 by omega, ebs]
                        unfold bs
                        rw [if_neg hn]
                      refine g9_both_227 (by omega) (by omega) (by omega) (by omega) (by omega) ?_
                      refine ihx _ _ ⟨by rw [eq2], by rw [eq2]; exact hl7, ?_, h89n M3 (fun _ => rfl), ?_, hf3.tr (fr9.up (by unfold kp; omega))⟩
                      · rw [eq2]
                        intro j hj
                        rw [am_upn (Or.inl (by omega))]
                        exact hN3 j hj
                      · intro p hp
                        rw [am_upn (Or.inl (by omega))]
                        exact h913 p hp
                    · have hn : hw (br (ap A B) (bf (ap A B) k.toNat i) e.1 x.toNat) (ap A B e.1 x) = -2 := by
                        by_cases hn : hw (br (ap A B) (bf (ap A B) k.toNat i) e.1 x.toNat) (ap A B e.1 x) = -2
                        · exact hn
                        · have := ix_lt hn
                          omega
                      have eq2 : br (ap A B) (bf (ap A B) k.toNat i) e.1 (x + 1).toNat = br (ap A B) (bf (ap A B) k.toNat i) e.1 x.toNat ++ [(ap A B e.1 x, e.1 * 4 + x)] := by
                        rw [show (x + 1).toNat = x.toNat + 1 by omega, ebs]
                        unfold bs
                        rw [if_pos hn]
                      refine g9_both_215 (by omega) (by omega) (by omega) ?_
                      refine g9_both_227 (by omega) (by omega) (by omega) (by omega) (by omega) ?_
                      refine ihx _ _ ⟨by rw [eq2]; simp, by rw [eq2]; simp; omega, ?_, h89n _ (fun _ => am_upn (Or.inl (by omega))), ?_, (hf3.tr (fr9.up (by unfold kp; omega))).tr (fr9.up (by unfold kp; omega))⟩
                      · rw [eq2]
                        intro j hj
                        rw [am_upn (Or.inl (by omega))]
                        by_cases hjl : j = (br (ap A B) (bf (ap A B) k.toNat i) e.1 x.toNat).length
                        · subst hjl
                          rw [am_up_hit]
                          simp [List.getD]
                        · have hj' : j < (br (ap A B) (bf (ap A B) k.toNat i) e.1 x.toNat).length := by simp at hj; omega
                          rw [am_upn (Or.inr (by omega)), hN3 j hj']
                          simp [List.getD, List.getElem?_append_left hj']
                      · intro p hp
                        rw [am_upn (Or.inl (by omega)), am_upn (Or.inl (by omega))]
                        exact h913 p hp
              refine g9_both_41 (fun c => by exfalso; omega) (fun _ => ?_)
              refine g9_both_48 (fun c => by exfalso; omega) (fun _ => ?_)
              refine g9_both_55 (by omega) (by omega) (by omega) (by omega) (by omega) (by omega) (by omega) (by omega) (by omega) (by omega) (fun c => ?_) (fun c => ?_)
              · rw [em] at c ⊢
                refine g9_both_119 (cont 0 ?_ (Or.inl rfl))
                unfold bh
                rw [show ((i : Int)).toNat = i by omega, eqf, if_neg (by omega)]
              · rw [em] at c ⊢
                refine g9_both_100 (by omega) (by omega) (by omega) (by omega) (fun c2 => ?_) (fun c2 => ?_)
                · refine g9_both_119 (cont 0 ?_ (Or.inl rfl))
                  unfold bh
                  rw [show ((i : Int)).toNat = i by omega, eqf, if_pos (by omega), if_neg (by omega)]
                · refine g9_both_115 (cont 1 ?_ (Or.inr rfl))
                  unfold bh
                  rw [show ((i : Int)).toNat = i by omega, eqf, if_pos (by omega), if_pos (by omega)]
            · have hend : bq k A B = bf (ap A B) k.toNat i := bf_end (i := i) (n := 36) (by omega) (by omega)
              have hil2 : (i : Int) = (bq k A B).length := by
                rw [hend]
                omega
              refine g9_both_41 (fun _ => ?_) (fun c => by exfalso; omega)
              refine g9_both_253 (fun _ => ?_) (fun c => by exfalso; omega)
              rw [← hend]
              refine z9_both (W := bn A B (bq k A B)) (H := bh A B (bq k A B)) hkk hk hs (by omega) hf (fun p x hp hx => h89 p x (by omega) hx) (fun p hp => h91 p (by omega)) (bh01 A B _) (fun M' h1 h2 h3 => ?_)
              exact k1 hval (by omega) M' h1 h2 h3
        refine key 36 0 _ (by omega) (by omega) (by show 1 ≤ 6; omega) ?_ (fun p x hp _ => by exfalso; omega) (fun p hp => by exfalso; omega) (hf0.tr (fr9.up (by unfold kp; omega)))
        intro j hj
        have : j = 0 := by
          have : j < 1 := hj
          omega
        subst this
        rw [show ((0 : Nat) : Int) = 0 by omega, am_up_hit]
        rfl
      · rw [if_neg hb]
        refine g9_both_23 (fun c => by exfalso; omega) (fun _ => ?_)
        exact g9_both_26 (k0 (fun h => hb h.2.2) _ hf0)
    · rw [if_neg ha]
      refine g9_both_16 (fun _ => ?_) (fun c => by exfalso; omega)
      exact g9_both_26 (k0 (fun h => ha h.2.1) _ hf0)
  · rw [if_neg hs]
    refine g9_both_9 (fun _ => ?_) (fun c => by exfalso; omega)
    exact g9_both_26 (k0 (fun h => hs h.1) _ hf0)
