/-! ===== how many rows: the table ===== -/
def su (f : Int → Int) : Nat → Int
  | 0 => 0
  | n + 1 => su f n + f n
def ws (k : Nat) (A : Sn) : Nat → Int → Int
  | 0, p => if A.2 p = 1 then 1 else 0
  | n + 1, p => su (fun x => ws k A n (A.1 p x)) k
theorem su_rng {f : Int → Int} {B : Int} : ∀ n : Nat, (∀ x : Int, 0 ≤ x → x < n → 0 ≤ f x ∧ f x ≤ B) → 0 ≤ su f n ∧ su f n ≤ n * B
  | 0, _ => by simp [su]
  | n + 1, h => by
    have ih := su_rng (f := f) (B := B) n (fun x h0 h1 => h x h0 (by omega))
    have h1 := h n (by omega) (by omega)
    show 0 ≤ su f n + f n ∧ su f n + f n ≤ ((n + 1 : Nat) : Int) * B
    have e : ((n + 1 : Nat) : Int) * B = n * B + B := by
      rw [show ((n + 1 : Nat) : Int) = (n : Int) + 1 by omega, Int.add_mul, Int.one_mul]
    rw [e]
    omega
theorem ws_rng {k : Nat} {A : Sn} (hk : k ≤ 4) (hA : okS A) : ∀ (n : Nat) (p : Int), 0 ≤ p ∧ p < 6 → 0 ≤ ws k A n p ∧ ws k A n p ≤ 4 ^ n
  | 0, p, hp => by
    show 0 ≤ (if A.2 p = 1 then (1 : Int) else 0) ∧ (if A.2 p = 1 then (1 : Int) else 0) ≤ 4 ^ 0
    split <;> omega
  | n + 1, p, hp => by
    have h := su_rng (f := fun x => ws k A n (A.1 p x)) (B := 4 ^ n) k (fun x h0 h1 => ws_rng hk hA n _ (hA p x hp ⟨h0, by omega⟩))
    show 0 ≤ su _ k ∧ su _ k ≤ _
    refine ⟨h.1, Int.le_trans h.2 ?_⟩
    rw [Int.pow_succ, Int.mul_comm ((4 : Int) ^ n) 4]
    refine Int.mul_le_mul_of_nonneg_right (by omega) ?_
    exact Int.le_of_lt (Int.pow_pos (by omega))
theorem p4_le {n : Nat} (h : n ≤ 20) : (4 : Int) ^ n ≤ 1099511627776 := by
  have := Nat.pow_le_pow_right (n := 4) (by omega) h
  have e : (4 : Int) ^ n = ((4 ^ n : Nat) : Int) := by simp
  rw [e]
  have e2 : (4 : Nat) ^ 20 = 1099511627776 := by decide
  omega
theorem ws_b {k : Nat} {A : Sn} (hk : k ≤ 4) (hA : okS A) {n : Nat} (hn : n ≤ 20) {p : Int} (hp : 0 ≤ p ∧ p < 6) : 0 ≤ ws k A n p ∧ ws k A n p ≤ 1099511627776 := by
  have h1 := ws_rng hk hA n p hp
  have h2 := p4_le hn
  omega
def TB (M : am_M) (k : Int) (A : Sn) (N : Int) : Prop := M 84 1 = k ∧ ∀ n : Nat, (n : Int) ≤ N → ∀ p : Int, 0 ≤ p ∧ p < 6 → M 85 ((n : Int) * 6 + p) = ws k.toNat A n p
def fT (M M' : am_M) : Prop := ∀ b j : Int, b ≠ 85 → (b ≠ 84 ∨ j ≠ 1) → M' b j = M b j
theorem fT.tab {M M' : am_M} (h : fT M M') : ∀ a j : Int, tab a → M' a j = M a j := fun a j ht => by
  have := tab_ne ht
  exact h a j (by omega) (Or.inl (by omega))
theorem c7_ways {M : am_M} {Q : Option am_V → am_M → Prop} {n p : Int} (hn : 0 ≤ n ∧ n < 21) (hp : 0 ≤ p ∧ p < 6) (k : Q (some (vl (M 85 (n * 6 + p)))) M) : am_CallN m7_ways [vr 84, vi n, vi p] KS M Q := by
  refine am_callN_of (by decide +kernel) rfl rfl (Nat.le_of_ble_eq_true rfl) ?_
  refine g7_ways_0 ?_
  refine c8_in hn ?_
  refine g7_ways_6 (fun c => by exfalso; omega) (fun _ => ?_)
  refine g7_ways_9 ?_
  refine c8_in hp ?_
  refine g7_ways_15 (fun _ => ?_) (fun c => by exfalso; omega)
  exact g7_ways_20 (by omega) (by omega) (by omega) (by omega) k
theorem c7_put {M : am_M} {Q : Option am_V → am_M → Prop} {n p v : Int} (hn : 0 ≤ n ∧ n < 21) (hp : 0 ≤ p ∧ p < 6) (k : Q none (am_up M 85 (n * 6 + p) v)) : am_CallN m7_put [vr 84, vi n, vi p, vl v] KS M Q := by
  refine am_callN_of (by decide +kernel) rfl rfl (Nat.le_of_ble_eq_true rfl) ?_
  refine g7_put_0 ?_
  refine c8_in hn ?_
  refine g7_put_6 (fun c => by exfalso; omega) (fun _ => ?_)
  refine g7_put_9 ?_
  refine c8_in hp ?_
  refine g7_put_15 (fun c => by exfalso; omega) (fun _ => ?_)
  refine g7_put_18 (by omega) (by omega) (by omega) (by omega) ?_
  exact g7_put_30 k
theorem c7_sum {M : am_M} {Q : Option am_V → am_M → Prop} {k a n p : Int} {A : Sn} (hk : 2 ≤ k ∧ k ≤ 4) (hA : isS M a A) (oA : okS A) (hn : 1 ≤ n ∧ n ≤ 20) (hp : 0 ≤ p ∧ p < 6) (hc : M 84 1 = k) (hT : ∀ p : Int, 0 ≤ p ∧ p < 6 → M 85 ((n - 1) * 6 + p) = ws k.toNat A (n - 1).toNat p) (kk : Q (some (vl (ws k.toNat A n.toNat p))) M) : am_CallN m7_sum [vr 84, vr a, vi n, vi p] KS M Q := by
  obtain ⟨ra, ka⟩ := hA.kd
  refine am_callN_of (by decide +kernel) rfl rfl (Nat.le_of_ble_eq_true rfl) ?_
  refine g7_sum_0 ?_
  refine am_forR (fun x ls M' => ls = [some (vr 84), some (vr a), some (vi n), some (vi p), some (vl (su (fun x => ws k.toNat A (n - 1).toNat (A.1 p x)) x.toNat)), none, some (vi x)] ∧ M' = M) 0 k (by omega) ⟨rfl, rfl⟩ ?_ ?_
  · rintro ls M' ⟨rfl, rfl⟩
    refine g7_sum_6 (fun _ => ?_) (fun c => by exfalso; omega)
    refine g7_sum_40 ?_
    rw [show n.toNat = (n - 1).toNat + 1 by omega] at kk
    exact kk
  · rintro x ls M' h0 h1 ⟨rfl, rfl⟩ ih
    refine g7_sum_6 (fun c => by exfalso; omega) (fun _ => ?_)
    refine g7_sum_15 (by omega) ka ?_
    refine q6_nextOf hA hp (by omega) ?_
    refine g7_sum_28 kd84 ?_
    have hx := oA p x hp (by omega)
    refine c7_ways (by omega) hx ?_
    rw [hT _ hx]
    have b1 := ws_b (k := k.toNat) (by omega) oA (n := (n - 1).toNat) (by omega) hx
    have b2 := su_rng (f := fun x => ws k.toNat A (n - 1).toNat (A.1 p x)) (B := 1099511627776) x.toNat (fun y h0 h1 => ws_b (by omega) oA (by omega) (oA p y hp (by omega)))
    have b3 : (x.toNat : Int) * 1099511627776 ≤ 4 * 1099511627776 := by omega
    refine g7_sum_31 (by omega) (by omega) ?_
    refine ih _ _ ⟨?_, rfl⟩
    rw [show (x + 1).toNat = x.toNat + 1 by omega]
    show _ = [some (vr 84), some (vr a), some (vi n), some (vi p), some (vl (su _ x.toNat + ws k.toNat A (n - 1).toNat (A.1 p (x.toNat : Int)))), none, some (vi (x + 1))]
    rw [show ((x.toNat : Nat) : Int) = x by omega]
theorem c7_fill {M : am_M} {Q : Option am_V → am_M → Prop} {k a N : Int} {A : Sn} (hk : 2 ≤ k ∧ k ≤ 4) (hA : isS M a A) (oA : okS A) (hN : 0 ≤ N ∧ N ≤ 20) (kk : ∀ M', TB M' k A N → fT M M' → Q none M') : am_CallN m7_fill [vr 84, vr a, vi N, vi k] KS M Q := by
  obtain ⟨ra, ka⟩ := hA.kd
  refine am_callN_of (by decide +kernel) rfl rfl (Nat.le_of_ble_eq_true rfl) ?_
  refine g7_fill_0 ?_
  have fin : ∀ M1, TB M1 k A 0 → fT M M1 → am_AtN m7_fill 38 [some (vr 84), some (vr a), some (vi N), some (vi k), some (vi 6), none] [] KS M1 Q := by
    intro M1 hT1 hf1
    refine g7_fill_38 ?_
    refine am_forR (fun n ls M' => ls = [some (vr 84), some (vr a), some (vi N), some (vi k), some (vi n), none] ∧ TB M' k A (n - 1) ∧ fT M M') 1 (N + 1) (by omega) ⟨rfl, hT1, hf1⟩ ?_ ?_
    · rintro ls M2 ⟨rfl, hT2, hf2⟩
      refine g7_fill_41 (fun _ => ?_) (fun c => by exfalso; omega)
      refine g7_fill_86 (kk M2 ?_ hf2)
      rw [show N + 1 - 1 = N by omega] at hT2
      exact hT2
    · rintro n ls M2 h0 h1 ⟨rfl, hT2, hf2⟩ ih
      refine g7_fill_41 (fun c => by exfalso; omega) (fun _ => ?_)
      refine g7_fill_47 ?_
      refine am_forR (fun p ls M' => ls = [some (vr 84), some (vr a), some (vi N), some (vi k), some (vi n), some (vi p)] ∧ TB M' k A (n - 1) ∧ (∀ p' : Int, 0 ≤ p' ∧ p' < p → M' 85 (n * 6 + p') = ws k.toNat A n.toNat p') ∧ fT M M') 0 6 (by omega) ⟨rfl, hT2, fun p' h => by exfalso; omega, hf2⟩ ?_ ?_
      · rintro ls M3 ⟨rfl, hT3, hp3, hf3⟩
        refine g7_fill_50 (fun _ => ?_) (fun c => by exfalso; omega)
        refine g7_fill_80 (by omega) ?_
        refine ih _ _ ⟨rfl, ⟨hT3.1, fun m hm p hp => ?_⟩, hf3⟩
        by_cases e : (m : Int) = n
        · have := hp3 p hp
          rw [← e] at this
          exact this
        · exact hT3.2 m (by omega) p hp
      · rintro p ls M3 hp0 hp1 ⟨rfl, hT3, hp3, hf3⟩ ihp
        refine g7_fill_50 (fun c => by exfalso; omega) (fun _ => ?_)
        refine g7_fill_57 ?_
        refine c7_sum hk (hA.of hf3.tab) oA (by omega) ⟨hp0, hp1⟩ hT3.1 (fun p hp => ?_) ?_
        · have := hT3.2 (n - 1).toNat (by omega) p hp
          rw [show (((n - 1).toNat : Nat) : Int) = n - 1 by omega] at this
          exact this
        refine g7_fill_71 kd84 ?_
        refine c7_put (by omega) (by omega) ?_
        refine g7_fill_74 (by omega) ?_
        refine ihp _ _ ⟨rfl, ⟨?_, ?_⟩, ?_, ?_⟩
        · rw [am_upn (Or.inl (by omega))]
          exact hT3.1
        · intro m hm p' hp'
          rw [am_upn (Or.inr (by omega))]
          exact hT3.2 m hm p' hp'
        · intro p' hp'
          by_cases e : p' = p
          · subst e
            rw [am_up_hit]
          · rw [am_upn (Or.inr (by omega))]
            exact hp3 p' (by omega)
        · intro b j h1 h2
          rw [am_upn (Or.inl h1)]
          exact hf3 b j h1 h2
  refine am_forR (fun p ls M' => ls = [some (vr 84), some (vr a), some (vi N), some (vi k), some (vi p), none] ∧ M' 84 1 = k ∧ (∀ p' : Int, 0 ≤ p' ∧ p' < p → M' 85 p' = ws k.toNat A 0 p') ∧ fT M M') 0 6 (by omega) ⟨rfl, am_up_hit, fun p' h => by exfalso; omega, fun b j h1 h2 => by rw [am_upn h2]⟩ ?_ ?_
  · rintro ls M1 ⟨rfl, hc, hp, hf⟩
    refine g7_fill_8 (fun _ => ?_) (fun c => by exfalso; omega)
    refine fin M1 ⟨hc, fun n hn p hp' => ?_⟩ hf
    have : n = 0 := by omega
    subst this
    rw [show ((0 : Nat) : Int) * 6 + p = p by omega]
    exact hp p hp'
  · rintro p ls M1 hp0 hp1 ⟨rfl, hc, hp, hf⟩ ih
    refine g7_fill_8 (fun c => by exfalso; omega) (fun _ => ?_)
    refine g7_fill_15 ka ?_
    refine q6_holdsAt (hA.of hf.tab) ⟨hp0, hp1⟩ ?_
    refine g7_fill_25 ?_
    refine c8_oneIf (by split <;> omega) ?_
    refine g7_fill_28 kd84 ?_
    refine c7_put (by omega) (by omega) ?_
    refine g7_fill_32 (by omega) ?_
    refine ih _ _ ⟨rfl, ?_, ?_, ?_⟩
    · rw [am_upn (Or.inl (by omega))]
      exact hc
    · intro p' hp'
      by_cases e : p' = p
      · subst e
        rw [show (0 : Int) * 6 + p' = p' by omega, am_up_hit]
        rfl
      · rw [am_upn (Or.inr (by omega))]
        exact hp p' (by omega)
    · intro b j h1 h2
      rw [am_upn (Or.inl h1)]
      exact hf b j h1 h2
