/-! ===== rows by place, and told back ===== -/
def pk (f : Int → Int) : Nat → Int → Int → Int × Int
  | 0, x, l => (x, l)
  | n + 1, x, l => if l < f x then (x, l) else pk f n (x + 1) (l - f x)
def ly (k : Nat) (A : Sn) : Nat → Int → Int → List Int
  | 0, _, _ => []
  | n + 1, p, l => (pk (fun x => ws k A n (A.1 p x)) (k - 1) 0 l).1 :: ly k A n (A.1 p (pk (fun x => ws k A n (A.1 p x)) (k - 1) 0 l).1) (pk (fun x => ws k A n (A.1 p x)) (k - 1) 0 l).2
def rk (k : Nat) (A : Sn) : List Int → Int → Int
  | [], _ => 0
  | x :: l, p => su (fun y => ws k A l.length (A.1 p y)) x.toNat + rk k A l (A.1 p x)
theorem pk_rng {f : Int → Int} : ∀ (d : Nat) (x l : Int), (∀ y : Int, x ≤ y → y < x + d → 0 ≤ f y) → 0 ≤ l → (x ≤ (pk f d x l).1 ∧ (pk f d x l).1 ≤ x + d) ∧ 0 ≤ (pk f d x l).2 ∧ (pk f d x l).2 ≤ l
  | 0, x, l, _, h => by
    show (x ≤ x ∧ x ≤ x + (0 : Nat)) ∧ 0 ≤ l ∧ l ≤ l
    omega
  | d + 1, x, l, hf, h => by
    by_cases c : l < f x
    · have e : pk f (d + 1) x l = (x, l) := by
        show (if l < f x then (x, l) else _) = _
        rw [if_pos c]
      rw [e]
      show (x ≤ x ∧ x ≤ x + ((d + 1 : Nat) : Int)) ∧ 0 ≤ l ∧ l ≤ l
      omega
    · have e : pk f (d + 1) x l = pk f d (x + 1) (l - f x) := by
        show (if l < f x then (x, l) else _) = _
        rw [if_neg c]
      have h0 := hf x (by omega) (by omega)
      have ih := pk_rng (f := f) d (x + 1) (l - f x) (fun y h1 h2 => hf y (by omega) (by omega)) (by omega)
      rw [e]
      omega
theorem ly_len {k : Nat} {A : Sn} : ∀ (n : Nat) (p l : Int), (ly k A n p l).length = n
  | 0, _, _ => rfl
  | n + 1, p, l => by
    show (ly k A n _ _).length + 1 = n + 1
    rw [ly_len n]
theorem ly_let {k : Nat} {A : Sn} (hk : 2 ≤ k ∧ k ≤ 4) (hA : okS A) : ∀ (n : Nat) (p l : Int), 0 ≤ p ∧ p < 6 → 0 ≤ l → ∀ x ∈ ly k A n p l, 0 ≤ x ∧ x < k
  | 0, _, _, _, _ => by simp [ly]
  | n + 1, p, l, hp, hl => by
    have h := pk_rng (f := fun x => ws k A n (A.1 p x)) (k - 1) 0 l (fun y h0 h1 => (ws_rng hk.2 hA n _ (hA p y hp (by omega))).1) hl
    intro x hx
    rcases List.mem_cons.mp hx with rfl | hx
    · omega
    · exact ly_let hk hA n _ _ (hA p _ hp (by omega)) h.2.1 x hx
theorem c7_layOut {M : am_M} {Q : Option am_V → am_M → Prop} {k a o lt z N pl : Int} {A : Sn} (hk : 2 ≤ k ∧ k ≤ 4) (hA : isS M a A) (oA : okS A) (hT : TB M k A N) (hN : 0 ≤ N ∧ N ≤ 20) (hpl : 0 ≤ pl ∧ pl ≤ 1099511627776) (ko : am_kd KS o = some (5, 2, [lt, z])) (kl : am_kd KS lt = some (11, 50, [])) (kk : ∀ M', rw_ M' o lt (ly k.toNat A N.toNat 0 pl) → off2 M M' o lt → Q none M') : am_CallN m7_layOut [vr 84, vr a, vi N, vl pl, vr o] KS M Q := by
  obtain ⟨ra, ka⟩ := hA.kd
  have n1 : o ≠ 84 := kd_ne ko kd84 (by simp)
  have n2 : o ≠ 85 := kd_ne ko kd85 (by simp)
  have n3 : lt ≠ 84 := kd_ne kl kd84 (by simp)
  have n4 : lt ≠ 85 := kd_ne kl kd85 (by simp)
  have n5 : o ≠ lt := kd_ne ko kl (by simp)
  have ftab : ∀ M', off2 M M' o lt → ∀ a j : Int, tab a → M' a j = M a j := fun M' hf a j ht => by
    refine hf a j ?_ ?_
    · rcases ht with h | h
      · exact kd_ne h ko (by simp)
      · exact kd_ne h ko (by simp)
    · rcases ht with h | h
      · exact kd_ne h kl (by simp)
      · exact kd_ne h kl (by simp)
  refine am_callN_of (by decide +kernel) rfl rfl (Nat.le_of_ble_eq_true rfl) ?_
  refine g7_layOut_0 ko ?_
  refine c5_empty ko ?_
  refine g7_layOut_5 (by omega) ?_
  have key : ∀ (n : Nat) (p l : Int) (L : List Int) (M1 : am_M), (n : Int) ≤ N → 0 ≤ p ∧ p < 6 → 0 ≤ l ∧ l ≤ 1099511627776 → rw_ M1 o lt L → (L.length : Int) + n ≤ 20 → off2 M M1 o lt → (∀ M', rw_ M' o lt (L ++ ly k.toNat A n p l) → off2 M M' o lt → Q none M') → am_AtN m7_layOut 16 [some (vr 84), some (vr a), some (vi N), some (vl pl), none, some (vr o), some (vl l), none, some (vi p), some (vi ((n : Int) - 1)), none] [] KS M1 Q := by
    intro n
    induction n with
    | zero =>
      intro p l L M1 hn hp hl hR hL hf kk
      refine g7_layOut_16 (fun _ => ?_) (fun c => by exfalso; omega)
      refine g7_layOut_103 (kk M1 ?_ hf)
      rw [show ly k.toNat A 0 p l = [] from rfl, List.append_nil]
      exact hR
    | succ n ih =>
      intro p l L M1 hn hp hl hR hL hf kk
      have hS := hA.of (ftab M1 hf)
      have hc1 : M1 84 1 = k := by rw [hf 84 1 (Ne.symm n1) (Ne.symm n3)]; exact hT.1
      have hw1 : ∀ p : Int, 0 ≤ p ∧ p < 6 → M1 85 ((n : Int) * 6 + p) = ws k.toNat A n p := fun p hp => by rw [hf 85 _ (Ne.symm n2) (Ne.symm n4)]; exact hT.2 n (by omega) p hp
      have hr := pk_rng (f := fun x => ws k.toNat A n (A.1 p x)) (k.toNat - 1) 0 l (fun y h0 h1 => (ws_rng (by omega) oA n _ (oA p y hp (by omega))).1) hl.1
      have tail : ∀ x l', 0 ≤ x ∧ x < k → 0 ≤ l' ∧ l' ≤ l → (pk (fun x => ws k.toNat A n (A.1 p x)) (k.toNat - 1) 0 l) = (x, l') → am_AtN m7_layOut 80 [some (vr 84), some (vr a), some (vi N), some (vl pl), none, some (vr o), some (vl l'), none, some (vi p), some (vi (n : Int)), some (vi x)] [] KS M1 Q := by
        intro x l' hx hl' e
        have hx2 := oA p x hp (by omega)
        refine g7_layOut_80 ko ?_
        refine c5_add ko kl (by omega) hR (by omega) (fun M2 hR2 hf2 => ?_)
        refine g7_layOut_87 ka ?_
        refine q6_nextOf (hA.of (ftab M2 (hf.tr hf2))) hp (by omega) ?_
        refine g7_layOut_95 (by omega) ?_
        rw [show (n : Int) + -1 = (n : Int) - 1 by omega]
        refine ih _ _ (L ++ [x]) M2 (by omega) hx2 (by omega) hR2 (by simp; omega) (hf.tr hf2) (fun M' h1 h2 => kk M' ?_ h2)
        rw [ly, e]
        rw [List.append_assoc] at h1
        exact h1
      refine g7_layOut_16 (fun c => by exfalso; omega) (fun _ => ?_)
      refine g7_layOut_21 ?_
      rw [show ((n + 1 : Nat) : Int) - 1 = (n : Int) by omega]
      have inner : ∀ (d : Nat) (x l' : Int), x + d = k - 1 → 0 ≤ x → 0 ≤ l' ∧ l' ≤ l → (pk (fun x => ws k.toNat A n (A.1 p x)) (k.toNat - 1) 0 l) = pk (fun x => ws k.toNat A n (A.1 p x)) d x l' → am_AtN m7_layOut 24 [some (vr 84), some (vr a), some (vi N), some (vl pl), none, some (vr o), some (vl l'), none, some (vi p), some (vi (n : Int)), some (vi x)] [] KS M1 Q := by
        intro d
        induction d with
        | zero =>
          intro x l' hx h0 hl' e
          refine g7_layOut_24 (by omega) (fun _ => ?_) (fun c => by exfalso; omega)
          exact tail x l' (by omega) hl' e
        | succ d ihd =>
          intro x l' hx h0 hl' e
          have hx2 := oA p x hp (by omega)
          have hb := ws_b (k := k.toNat) (by omega) oA (n := n) (by omega) hx2
          refine g7_layOut_24 (by omega) (fun c => by exfalso; omega) (fun _ => ?_)
          refine g7_layOut_35 ka ?_
          refine q6_nextOf hS hp (by omega) ?_
          refine g7_layOut_48 kd84 ?_
          refine c7_ways (by omega) hx2 ?_
          rw [hw1 _ hx2]
          refine g7_layOut_51 (fun c => ?_) (fun c => ?_)
          · refine tail x l' (by omega) hl' ?_
            rw [e]
            show (if l' < ws k.toNat A n (A.1 p x) then (x, l') else _) = _
            rw [if_pos c]
          · refine g7_layOut_55 ka ?_
            refine q6_nextOf hS hp (by omega) ?_
            refine g7_layOut_68 kd84 ?_
            refine c7_ways (by omega) hx2 ?_
            rw [hw1 _ hx2]
            refine g7_layOut_71 (by omega) (by omega) ?_
            refine ihd _ _ (by omega) (by omega) (by omega) ?_
            rw [e]
            show (if l' < ws k.toNat A n (A.1 p x) then (x, l') else _) = _
            rw [if_neg c]
      exact inner (k.toNat - 1) 0 l (by omega) (by omega) (by omega) rfl
  have := key N.toNat 0 pl [] (am_up M o 1 0) (by omega) (by omega) hpl ⟨by rw [am_up_hit]; rfl, fun i hi => by simp at hi⟩ (by simp; omega) (fun c j h1 h2 => am_upn (Or.inl h1)) (fun M' h1 h2 => kk M' h1 h2)
  rw [show ((N.toNat : Nat) : Int) = N by omega] at this
  exact this
theorem rk_rng {k : Nat} {A : Sn} (hk : 2 ≤ k ∧ k ≤ 4) (hA : okS A) : ∀ (L : List Int) (p : Int), 0 ≤ p ∧ p < 6 → L.length ≤ 20 → (∀ x ∈ L, 0 ≤ x ∧ x < k) → 0 ≤ rk k A L p ∧ rk k A L p ≤ L.length * 4398046511104
  | [], _, _, _, _ => by simp [rk]
  | x :: l, p, hp, hL, hx => by
    have hx0 := hx x List.mem_cons_self
    have ih := rk_rng hk hA l (A.1 p x) (hA p x hp (by omega)) (by simp at hL; omega) (fun y hy => hx y (List.mem_cons_of_mem _ hy))
    have hs := su_rng (f := fun y => ws k A l.length (A.1 p y)) (B := 1099511627776) x.toNat (fun y h0 h1 => ws_b hk.2 hA (by simp at hL; omega) (hA p y hp (by omega)))
    show 0 ≤ su _ x.toNat + rk k A l (A.1 p x) ∧ su _ x.toNat + rk k A l (A.1 p x) ≤ ((l.length + 1 : Nat) : Int) * 4398046511104
    have : (x.toNat : Int) * 1099511627776 ≤ 4 * 1099511627776 := by omega
    omega
theorem c7_placeOf {M : am_M} {Q : Option am_V → am_M → Prop} {k a o lt z : Int} {A : Sn} {L : List Int} (hk : 2 ≤ k ∧ k ≤ 4) (hA : isS M a A) (oA : okS A) (hT : TB M k A L.length) (hN : L.length ≤ 20) (hL : ∀ x ∈ L, 0 ≤ x ∧ x < k) (ko : am_kd KS o = some (5, 2, [lt, z])) (kl : am_kd KS lt = some (11, 50, [])) (hR : rw_ M o lt L) (kk : Q (some (vl (rk k.toNat A L 0))) M) : am_CallN m7_placeOf [vr 84, vr a, vr o] KS M Q := by
  obtain ⟨ra, ka⟩ := hA.kd
  refine am_callN_of (by decide +kernel) rfl rfl (Nat.le_of_ble_eq_true rfl) ?_
  refine g7_placeOf_0 ?_
  have key : ∀ (l2 l1 : List Int) (p s : Int), L = l1 ++ l2 → 0 ≤ p ∧ p < 6 → 0 ≤ s ∧ s ≤ l1.length * 4398046511104 → s + rk k.toNat A l2 p = rk k.toNat A L 0 → am_AtN m7_placeOf 8 [some (vr 84), some (vr a), some (vr o), some (vl s), none, some (vi p), some (vi (l1.length : Int)), none, none] [] KS M Q := by
    intro l2
    induction l2 with
    | nil =>
      intro l1 p s e hp hs hr
      refine g7_placeOf_8 ko ?_
      refine c5_size ko kl (by omega) hR ?_
      refine g7_placeOf_14 (fun _ => ?_) (fun c => by exfalso; rw [e] at c; simp at c)
      refine g7_placeOf_85 ?_
      rw [show s = rk k.toNat A L 0 by rw [← hr]; show s = s + 0; omega]
      exact kk
    | cons x l2 ih =>
      intro l1 p s e hp hs hr
      have el : (L.length : Int) = l1.length + (l2.length + 1) := by rw [e]; simp
      have hx := hL x (by rw [e]; simp)
      have hg : (if 0 ≤ (l1.length : Int) ∧ (l1.length : Int) < L.length then L.getD (l1.length : Int).toNat 0 else -9) = x := by
        rw [if_pos (by omega), e]
        simp [List.getD]
      refine g7_placeOf_8 ko ?_
      refine c5_size ko kl (by omega) hR ?_
      refine g7_placeOf_14 (fun c => by exfalso; omega) (fun _ => ?_)
      refine g7_placeOf_17 ko ?_
      refine c5_size ko kl (by omega) hR ?_
      refine g7_placeOf_21 (by omega) (by omega) ?_
      rw [show (L.length : Int) - 1 - l1.length = l2.length by omega]
      refine am_forR (fun y ls M' => ls = [some (vr 84), some (vr a), some (vr o), some (vl (s + su (fun y => ws k.toNat A l2.length (A.1 p y)) y.toNat)), none, some (vi p), some (vi (l1.length : Int)), some (vi (l2.length : Int)), some (vi y)] ∧ M' = M) 0 x (by omega) ⟨?_, rfl⟩ ?_ ?_
      · show _ = [some (vr 84), some (vr a), some (vr o), some (vl (s + 0)), none, some (vi p), some (vi (l1.length : Int)), some (vi (l2.length : Int)), some (vi 0)]
        rw [show s + 0 = s by omega]
      · rintro ls M' ⟨rfl, rfl⟩
        refine g7_placeOf_31 ko ?_
        refine c5_letterAt ko kl (by omega) hR (by omega) ?_
        rw [hg]
        refine g7_placeOf_39 (fun _ => ?_) (fun c => by exfalso; omega)
        refine g7_placeOf_65 ko ?_
        refine c5_letterAt ko kl (by omega) hR (by omega) ?_
        rw [hg]
        refine g7_placeOf_74 ka ?_
        refine q6_nextOf hA hp (by omega) ?_
        refine g7_placeOf_77 (by omega) ?_
        have b2 := su_rng (f := fun y => ws k.toNat A l2.length (A.1 p y)) (B := 1099511627776) x.toNat (fun y h0 h1 => ws_b (by omega) oA (by omega) (oA p y hp (by omega)))
        have := ih (l1 ++ [x]) (A.1 p x) (s + su (fun y => ws k.toNat A l2.length (A.1 p y)) x.toNat) (by rw [e]; simp) (oA p x hp (by omega)) (by simp; omega) (by rw [← hr, rk]; omega)
        rw [show ((l1 ++ [x]).length : Int) = l1.length + 1 by simp] at this
        exact this
      · rintro y ls M' h0 h1 ⟨rfl, rfl⟩ ihy
        refine g7_placeOf_31 ko ?_
        refine c5_letterAt ko kl (by omega) hR (by omega) ?_
        rw [hg]
        refine g7_placeOf_39 (fun c => by exfalso; omega) (fun _ => ?_)
        refine g7_placeOf_42 ka ?_
        refine q6_nextOf hA hp (by omega) ?_
        refine g7_placeOf_54 kd84 ?_
        have hy := oA p y hp (by omega)
        refine c7_ways (by omega) hy ?_
        rw [hT.2 l2.length (by omega) _ hy]
        have b1 := ws_b (k := k.toNat) (by omega) oA (n := l2.length) (by omega) hy
        have b2 := su_rng (f := fun y => ws k.toNat A l2.length (A.1 p y)) (B := 1099511627776) y.toNat (fun y h0 h1 => ws_b (by omega) oA (by omega) (oA p y hp (by omega)))
        refine g7_placeOf_57 (by omega) (by omega) ?_
        refine ihy _ _ ⟨?_, rfl⟩
        rw [show (y + 1).toNat = y.toNat + 1 by omega]
        show _ = [some (vr 84), some (vr a), some (vr o), some (vl (s + (su _ y.toNat + ws k.toNat A l2.length (A.1 p (y.toNat : Int))))), none, some (vi p), some (vi (l1.length : Int)), some (vi (l2.length : Int)), some (vi (y + 1))]
        rw [show ((y.toNat : Nat) : Int) = y by omega, ← Int.add_assoc]
  exact key L [] 0 0 rfl (by omega) (by simp) (by omega)
