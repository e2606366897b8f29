/-! ===== the reference: claims ===== -/
def cval (a p q b : Int) : Prop := (0 ≤ a ∧ a ≤ 7) ∧ (0 ≤ p ∧ p ≤ 3) ∧ (-1 ≤ q ∧ q ≤ 3) ∧ (0 ≤ b ∧ b ≤ 7)
theorem cval_dec (a p q b : Int) : (cval a p q b) ∨ ¬ (cval a p q b) := Classical.em _
/-- the walk of a claim over k letters -/
def Lq (c : CD) (k : Int) : List (Int × Int) := bf (af c) k.toNat 1296
theorem Lq_ok {k : Int} {c : CD} (h : okC k c) : bok ((1296 : Nat) : Int) (Lq c k) := by
  have hk := h.1
  exact bok_bf (by omega) (by omega) (fun p x h0 h1 h2 h3 => af_rng h ⟨h0, h1⟩ ⟨h2, by omega⟩) 1296

theorem c9_claim {M : am_M} {Q : Option am_V → am_M → Prop} {a p q b : Int} (hd : mdat M) (k1 : cval a p q b → ∀ M', fr9 M M' → Q (some (vi (if fb (bd (cm M a p q b)) (Lq (cm M a p q b) (M 86 1)) = -9 then 1 else 0))) M') (k0 : ¬ cval a p q b → ∀ M', fr9 M M' → Q (some (vi (-1))) M') : am_CallN m9_claim [vr 86, vi a, vi p, vi q, vi b] KS M Q := by
  have hf0 : fr9 M (am_up M 86 0 0) := fr9.up (by unfold kp; omega)
  have hd0 := hd.of hf0
  have ec := hf0.kcm (a := a) (b := p) (c := q) (d := b)
  have ek : am_up M 86 0 0 86 1 = M 86 1 := hf0 86 1 (by unfold kp; omega)
  refine am_callN_of (by decide +kernel) rfl rfl (Nat.le_of_ble_eq_true rfl) ?_
  refine g9_claim_0 ?_
  refine c9_noClaim ?_
  by_cases hv : (0 ≤ a ∧ a ≤ 7) ∧ (0 ≤ p ∧ p ≤ 3) ∧ (-1 ≤ q ∧ q ≤ 3) ∧ (0 ≤ b ∧ b ≤ 7)
  · rw [if_pos hv]
    have hok := hd.ok hv.1 hv.2.1 hv.2.2.1 hv.2.2.2
    have hB := Lq_ok hok
    refine g9_claim_13 (fun _ => ?_) (fun c => by exfalso; omega)
    refine g9_claim_20 ?_
    refine c9_meet hd0 hv.1 hv.2.1 hv.2.2.1 hv.2.2.2 (fun M1 hR hf => ?_)
    rw [ec, ek] at hR ⊢
    have k1 := k1 hv M1 (hf0.tr hf)
    refine g9_claim_29 (fun c => ?_) (fun c => ?_)
    · have c' : ¬ fb (bd (cm M a p q b)) (Lq (cm M a p q b) (M 86 1)) = -9 := c
      rw [if_neg c'] at k1
      refine g9_claim_38 ?_
      exact g9_claim_39 k1
    · have c' : fb (bd (cm M a p q b)) (Lq (cm M a p q b) (M 86 1)) = -9 := c
      rw [if_pos c'] at k1
      refine g9_claim_34 ?_
      exact g9_claim_39 k1
  · rw [if_neg hv]
    refine g9_claim_13 (fun c => by exfalso; omega) (fun _ => ?_)
    refine g9_claim_16 ?_
    exact g9_claim_39 (k0 hv _ hf0)

theorem c9_picture {M : am_M} {Q : Option am_V → am_M → Prop} {a p q b i : Int} (hd : mdat M) (k1 : cval a p q b → -1 ≤ i → ∀ M', fr9 M M' → Q (some (vi (if fb (bd (cm M a p q b)) (Lq (cm M a p q b) (M 86 1)) = -9 then -9 else pic (Lq (cm M a p q b) (M 86 1)) (fb (bd (cm M a p q b)) (Lq (cm M a p q b) (M 86 1))) i))) M') (k2 : cval a p q b → ¬ -1 ≤ i → ∀ M', fr9 M M' → Q (some (vi (-2))) M') (k0 : ¬ cval a p q b → ∀ M', fr9 M M' → Q (some (vi (-1))) M') : am_CallN m9_picture [vr 86, vi a, vi p, vi q, vi b, vi i] KS M Q := by
  have hf0 : fr9 M (am_up M 86 0 0) := fr9.up (by unfold kp; omega)
  have hd0 := hd.of hf0
  have ec := hf0.kcm (a := a) (b := p) (c := q) (d := b)
  have ek : am_up M 86 0 0 86 1 = M 86 1 := hf0 86 1 (by unfold kp; omega)
  refine am_callN_of (by decide +kernel) rfl rfl (Nat.le_of_ble_eq_true rfl) ?_
  refine g9_picture_0 ?_
  refine c9_noClaim ?_
  by_cases hv : (0 ≤ a ∧ a ≤ 7) ∧ (0 ≤ p ∧ p ≤ 3) ∧ (-1 ≤ q ∧ q ≤ 3) ∧ (0 ≤ b ∧ b ≤ 7)
  · rw [if_pos hv]
    have hok := hd.ok hv.1 hv.2.1 hv.2.2.1 hv.2.2.2
    have hB := Lq_ok hok
    refine g9_picture_13 (fun _ => ?_) (fun c => by exfalso; omega)
    refine g9_picture_18 (fun ci => ?_) (fun ci => ?_)
    · refine g9_picture_27 ?_
      refine c9_meet hd0 hv.1 hv.2.1 hv.2.2.1 hv.2.2.2 (fun M1 hR hf => ?_)
      rw [ec, ek] at hR ⊢
      refine g9_picture_36 (fun c => ?_) (fun c => ?_)
      · refine g9_picture_50 ?_
        obtain ⟨e, hem, hee⟩ := (fb_mem (b := bd (cm M a p q b)) (q := Lq (cm M a p q b) (M 86 1))).resolve_left c
        obtain ⟨n, hn⟩ := List.getElem?_of_mem hem
        have k1 := fun M2 (h : fr9 M1 M2) => k1 hv ci M2 ((hf0.tr hf).tr h)
        have c' : ¬ fb (bd (cm M a p q b)) (Lq (cm M a p q b) (M 86 1)) = -9 := c
        rw [if_neg c', ← hee] at k1
        have hee' : e.1 = fb (bd (cm M a p q b)) (bf (af (cm M a p q b)) (M 86 1).toNat 1296) := hee
        rw [← hee']
        refine c9_told hR.2.2.2 hB hn ci (fun M2 hf2 => ?_)
        exact g9_picture_58 (k1 M2 hf2)
      · refine g9_picture_45 ?_
        refine g9_picture_58 ?_
        have k1 := k1 hv ci M1 (hf0.tr hf)
        have c' : fb (bd (cm M a p q b)) (Lq (cm M a p q b) (M 86 1)) = -9 := c
        rw [if_pos c'] at k1
        exact k1
    · exact g9_picture_24 (k2 hv ci _ hf0)
  · rw [if_neg hv]
    refine g9_picture_13 (fun c => by exfalso; omega) (fun _ => ?_)
    exact g9_picture_16 (k0 hv _ hf0)

theorem c9_met {M : am_M} {Q : Option am_V → am_M → Prop} {a p q b : Int} (hd : mdat M) (k1 : cval a p q b → ∀ M', fr9 M M' → Q (some (vi (Lq (cm M a p q b) (M 86 1)).length)) M') (k0 : ¬ cval a p q b → ∀ M', fr9 M M' → Q (some (vi (-1))) M') : am_CallN m9_met [vr 86, vi a, vi p, vi q, vi b] KS M Q := by
  have hf0 : fr9 M (am_up M 86 0 0) := fr9.up (by unfold kp; omega)
  have hd0 := hd.of hf0
  have ec := hf0.kcm (a := a) (b := p) (c := q) (d := b)
  have ek : am_up M 86 0 0 86 1 = M 86 1 := hf0 86 1 (by unfold kp; omega)
  refine am_callN_of (by decide +kernel) rfl rfl (Nat.le_of_ble_eq_true rfl) ?_
  refine g9_met_0 ?_
  refine c9_noClaim ?_
  by_cases hv : (0 ≤ a ∧ a ≤ 7) ∧ (0 ≤ p ∧ p ≤ 3) ∧ (-1 ≤ q ∧ q ≤ 3) ∧ (0 ≤ b ∧ b ≤ 7)
  · rw [if_pos hv]
    have hok := hd.ok hv.1 hv.2.1 hv.2.2.1 hv.2.2.2
    have hB := Lq_ok hok
    refine g9_met_13 (fun _ => ?_) (fun c => by exfalso; omega)
    refine g9_met_18 ?_
    refine c9_meet hd0 hv.1 hv.2.1 hv.2.2.1 hv.2.2.2 (fun M1 hR hf => ?_)
    rw [ec, ek] at hR
    refine g9_met_27 ?_
    rw [hR.1]
    exact k1 hv M1 (hf0.tr hf)
  · rw [if_neg hv]
    refine g9_met_13 (fun c => by exfalso; omega) (fun _ => ?_)
    exact g9_met_16 (k0 hv _ hf0)

theorem c9_place {M : am_M} {Q : Option am_V → am_M → Prop} {a p q b i : Int} (hd : mdat M) (k1 : cval a p q b → ∀ M', fr9 M M' → Q (some (vi (sn (hw (Lq (cm M a p q b) (M 86 1))) 1296 0 i))) M') (k0 : ¬ cval a p q b → ∀ M', fr9 M M' → Q (some (vi (-1))) M') : am_CallN m9_place [vr 86, vi a, vi p, vi q, vi b, vi i] KS M Q := by
  have hf0 : fr9 M (am_up M 86 0 0) := fr9.up (by unfold kp; omega)
  have hd0 := hd.of hf0
  have ec := hf0.kcm (a := a) (b := p) (c := q) (d := b)
  have ek : am_up M 86 0 0 86 1 = M 86 1 := hf0 86 1 (by unfold kp; omega)
  refine am_callN_of (by decide +kernel) rfl rfl (Nat.le_of_ble_eq_true rfl) ?_
  refine g9_place_0 ?_
  refine c9_noClaim ?_
  by_cases hv : (0 ≤ a ∧ a ≤ 7) ∧ (0 ≤ p ∧ p ≤ 3) ∧ (-1 ≤ q ∧ q ≤ 3) ∧ (0 ≤ b ∧ b ≤ 7)
  · rw [if_pos hv]
    have hok := hd.ok hv.1 hv.2.1 hv.2.2.1 hv.2.2.2
    have hB := Lq_ok hok
    refine g9_place_13 (fun _ => ?_) (fun c => by exfalso; omega)
    refine g9_place_18 ?_
    refine c9_meet hd0 hv.1 hv.2.1 hv.2.2.1 hv.2.2.2 (fun M1 hR hf => ?_)
    rw [ec, ek] at hR
    refine g9_place_27 ?_
    have k1 := k1 hv M1 (hf0.tr hf)
    have hR : RM M1 (Lq (cm M a p q b) (M 86 1)) := hR
    generalize Lq (cm M a p q b) (M 86 1) = L at k1 hR
    generalize hG : sn (hw L) 1296 0 i = R at k1
    have key : ∀ (d : Nat) (x n : Int), 0 ≤ x → x + d = 1296 → (0 ≤ n ∧ n ≤ x) → R = sn (hw L) d x (i - n) → am_AtN m9_place 34 [some (vr 86), some (vi a), some (vi p), some (vi q), some (vi b), some (vi i), some (vi n), some (vi x)] [] KS M1 Q := by
      intro d
      induction d with
      | zero =>
        intro x n h0 hd1 hn he
        refine g9_place_34 (fun _ => ?_) (fun c => by exfalso; omega)
        refine g9_place_71 ?_
        rw [he] at k1
        exact k1
      | succ d ih =>
        intro x n h0 hd1 hn he
        have ea := hR.2.2.1 x (by omega)
        conv at he => rhs; unfold sn
        refine g9_place_34 (fun c => by exfalso; omega) (fun _ => ?_)
        refine g9_place_42 h0 (by omega) (fun c => ?_) (fun c => ?_)
        · have hz : hw L x = -2 := by
            by_cases hz : hw L x = -2
            · exact hz
            · rw [if_neg hz] at ea
              omega
          rw [if_pos hz] at he
          refine g9_place_65 (by omega) ?_
          exact ih (x + 1) n (by omega) (by omega) (by omega) he
        · have hz : ¬ hw L x = -2 := by
            intro hz
            rw [if_pos hz] at ea
            exact c ea
          rw [if_neg hz] at he
          refine g9_place_52 (fun c2 => ?_) (fun c2 => ?_)
          · rw [if_neg (by omega)] at he
            refine g9_place_62 (by omega) ?_
            refine g9_place_65 (by omega) ?_
            refine ih (x + 1) (n + 1) (by omega) (by omega) (by omega) ?_
            rw [show i - (n + 1) = i - n - 1 by omega]
            exact he
          · rw [if_pos (by omega)] at he
            refine g9_place_59 ?_
            rw [he] at k1
            exact k1
    exact key 1296 0 0 (by omega) (by omega) (by omega) (by rw [show i - 0 = i by omega]; exact hG.symm)
  · rw [if_neg hv]
    refine g9_place_13 (fun c => by exfalso; omega) (fun _ => ?_)
    exact g9_place_16 (k0 hv _ hf0)

theorem c9_write {M : am_M} {Q : Option am_V → am_M → Prop} {a p q b : Int} (hd : mdat M) (k1 : cval a p q b → ∀ M', (∀ x j : Int, kp x j → x ≠ 99 → M' x j = M x j) → (∀ x : Int, 0 ≤ x ∧ x < 1296 → M' 99 x = if hw (Lq (cm M a p q b) (M 86 1)) x = -2 then 0 else 1) → Q (some (vi (Lq (cm M a p q b) (M 86 1)).length)) M') (k0 : ¬ cval a p q b → ∀ M', fr9 M M' → Q (some (vi (-1))) M') : am_CallN m9_write [vr 86, vi a, vi p, vi q, vi b] KS M Q := by
  have hf0 : fr9 M (am_up M 86 0 0) := fr9.up (by unfold kp; omega)
  have hd0 := hd.of hf0
  have ec := hf0.kcm (a := a) (b := p) (c := q) (d := b)
  have ek : am_up M 86 0 0 86 1 = M 86 1 := hf0 86 1 (by unfold kp; omega)
  refine am_callN_of (by decide +kernel) rfl rfl (Nat.le_of_ble_eq_true rfl) ?_
  refine g9_write_0 ?_
  refine c9_noClaim ?_
  by_cases hv : (0 ≤ a ∧ a ≤ 7) ∧ (0 ≤ p ∧ p ≤ 3) ∧ (-1 ≤ q ∧ q ≤ 3) ∧ (0 ≤ b ∧ b ≤ 7)
  · rw [if_pos hv]
    have hok := hd.ok hv.1 hv.2.1 hv.2.2.1 hv.2.2.2
    have hB := Lq_ok hok
    refine g9_write_13 (fun _ => ?_) (fun c => by exfalso; omega)
    refine g9_write_18 ?_
    refine c9_meet hd0 hv.1 hv.2.1 hv.2.2.1 hv.2.2.2 (fun M1 hR hf => ?_)
    rw [ec, ek] at hR
    refine g9_write_27 ?_
    refine am_for (fun x => [some (vr 86), some (vi a), some (vi p), some (vi q), some (vi b), some (vi x)]) (fun x => am_fl M1 99 0 x (fun j => M1 98 j)) 0 1296 (by omega) rfl am_fl_0.symm ?_ (fun x h0 h1 ih => ?_)
    · refine g9_write_31 (fun _ => ?_) (fun c => by exfalso; omega)
      refine g9_write_59 ?_
      rw [am_fl_out (by omega), hR.1]
      refine k1 hv _ (fun x j hk hx => ?_) (fun x hx => ?_)
      · rw [am_fl_out (by omega)]
        exact (hf0.tr hf) x j hk
      · rw [am_fl_in hx]
        exact hR.2.2.1 x hx
    · have e98 : am_fl M1 99 0 x (fun j => M1 98 j) 98 x = M1 98 x := am_fl_out (by omega)
      refine g9_write_31 (fun c => by exfalso; omega) (fun _ => ?_)
      refine g9_write_39 h0 h1 h0 h1 (by rw [e98, hR.2.2.1 x ⟨h0, h1⟩]; split <;> omega) (by omega) ?_
      rw [e98]
      exact am_mem (am_fl_s (f := fun j => M1 98 j) h0) ih
  · rw [if_neg hv]
    refine g9_write_13 (fun c => by exfalso; omega) (fun _ => ?_)
    exact g9_write_16 (k0 hv _ hf0)

theorem c9_check {M : am_M} {Q : Option am_V → am_M → Prop} {a p q b : Int} (hd : mdat M) (hS : ∀ x : Int, 0 ≤ x ∧ x < 1296 → M 99 x = 0 ∨ M 99 x = 1) (k1 : cval a p q b → ∀ r, ckr (M 99) (M 86 1) (cm M a p q b) r → ∀ M', fr9 M M' → Q (some (vi r)) M') (k0 : ¬ cval a p q b → ∀ M', fr9 M M' → Q (some (vi (-1))) M') : am_CallN m9_check [vr 86, vi a, vi p, vi q, vi b] KS M Q := by
  have hf0 : fr9 M (am_up M 86 0 0) := fr9.up (by unfold kp; omega)
  have hd0 := hd.of hf0
  have ec := hf0.kcm (a := a) (b := p) (c := q) (d := b)
  have ek : am_up M 86 0 0 86 1 = M 86 1 := hf0 86 1 (by unfold kp; omega)
  refine am_callN_of (by decide +kernel) rfl rfl (Nat.le_of_ble_eq_true rfl) ?_
  refine g9_check_0 ?_
  refine c9_noClaim ?_
  by_cases hv : (0 ≤ a ∧ a ≤ 7) ∧ (0 ≤ p ∧ p ≤ 3) ∧ (-1 ≤ q ∧ q ≤ 3) ∧ (0 ≤ b ∧ b ≤ 7)
  · rw [if_pos hv]
    have hok := hd.ok hv.1 hv.2.1 hv.2.2.1 hv.2.2.2
    have hB := Lq_ok hok
    have hk := hd.1
    refine g9_check_13 (fun _ => ?_) (fun c => by exfalso; omega)
    have e99 : ∀ (M1 : am_M) (x : Int), fr9 M M1 → M1 99 x = M 99 x := fun M1 x h => h 99 x (by unfold kp; omega)
    refine g9_check_18 (fun c0 => ?_) (fun c0 => ?_)
    · rw [e99 _ _ hf0] at c0
      refine g9_check_29 ?_
      generalize hcc : cm M a p q b = c at *
      generalize hkk : M 86 1 = k at *
      refine am_forR (fun x ls M1 => ∃ kept good : Int, ls = [some (vr 86), some (vi a), some (vi p), some (vi q), some (vi b), some (vi kept), some (vi good), some (vi x), none] ∧ fr9 M M1 ∧ ((kept = 1 ∧ ∀ y : Int, (0 ≤ y ∧ y < x) → M 99 y = 1 → ¬ lo_ (M 99) k c y) ∨ (kept = 0 ∧ ∃ y : Int, (0 ≤ y ∧ y < 1296) ∧ M 99 y = 1 ∧ lo_ (M 99) k c y)) ∧ ((good = 1 ∧ ∀ y : Int, (0 ≤ y ∧ y < x) → M 99 y = 1 → bd c y ≠ 1) ∨ (good = 0 ∧ ∃ y : Int, (0 ≤ y ∧ y < 1296) ∧ M 99 y = 1 ∧ bd c y = 1))) 0 1296 (by omega) ⟨1, 1, rfl, hf0, Or.inl ⟨rfl, fun y hy => by omega⟩, Or.inl ⟨rfl, fun y hy => by omega⟩⟩ ?_ ?_
      · rintro ls M1 ⟨kept, good, rfl, hf, hK, hG⟩
        refine g9_check_38 (fun _ => ?_) (fun c => by exfalso; omega)
        rcases hK with ⟨rfl, hK⟩ | ⟨rfl, hK⟩
        · refine g9_check_149 (fun _ => ?_) (fun c => by exfalso; omega)
          rcases hG with ⟨rfl, hG⟩ | ⟨rfl, hG⟩
          · refine g9_check_158 (fun _ => ?_) (fun c => by exfalso; omega)
            refine g9_check_167 ?_
            exact g9_check_168 (k1 hv 0 (Or.inr (Or.inr (Or.inr ⟨c0, hK, hG, rfl⟩))) M1 hf)
          · refine g9_check_158 (fun c => by exfalso; omega) (fun _ => ?_)
            refine g9_check_163 ?_
            exact g9_check_168 (k1 hv 3 (Or.inr (Or.inr (Or.inl ⟨c0, hK, hG, rfl⟩))) M1 hf)
        · refine g9_check_149 (fun c => by exfalso; omega) (fun _ => ?_)
          refine g9_check_154 ?_
          exact g9_check_168 (k1 hv 2 (Or.inr (Or.inl ⟨c0, hK, rfl⟩)) M1 hf)
      · rintro x ls M1 hx0 hx1 ⟨kept, good, rfl, hf, hK, hG⟩ ih
        refine g9_check_38 (fun c => by exfalso; omega) (fun _ => ?_)
        refine g9_check_46 ?_
        have hSx := hS x ⟨hx0, hx1⟩
        have good01 : good = 0 ∨ good = 1 := by rcases hG with ⟨h, -⟩ | ⟨h, -⟩ <;> omega
        have second : ∀ (M2 : am_M) (kept' y : Int), fr9 M M2 → ((kept' = 1 ∧ ∀ y : Int, (0 ≤ y ∧ y < x + 1) → M 99 y = 1 → ¬ lo_ (M 99) k c y) ∨ (kept' = 0 ∧ ∃ y : Int, (0 ≤ y ∧ y < 1296) ∧ M 99 y = 1 ∧ lo_ (M 99) k c y)) → am_AtN m9_check 107 [some (vr 86), some (vi a), some (vi p), some (vi q), some (vi b), some (vi kept'), some (vi good), some (vi x), some (vi y)] [] KS M2 Q := by
          intro M2 kept' y hf2 hK2
          have nxt : ∀ (M3 : am_M) (good' : Int), fr9 M M3 → (good' = 0 ∨ good' = 1) → ((good' = 1 ∧ ∀ y : Int, (0 ≤ y ∧ y < x + 1) → M 99 y = 1 → bd c y ≠ 1) ∨ (good' = 0 ∧ ∃ y : Int, (0 ≤ y ∧ y < 1296) ∧ M 99 y = 1 ∧ bd c y = 1)) → am_AtN m9_check 141 [some (vr 86), some (vi a), some (vi p), some (vi q), some (vi b), some (vi kept'), some (vi good), some (vi x), some (vi y)] [vi good'] KS M3 Q := by
            intro M3 good' hf3 h01 hG3
            refine g9_check_141 (by omega) ?_
            exact ih _ M3 ⟨kept', good', rfl, hf3, hK2, hG3⟩
          rcases hG with ⟨rfl, hG⟩ | ⟨rfl, hG⟩
          · refine g9_check_107 (fun c => by exfalso; omega) (fun _ => ?_)
            refine g9_check_112 hx0 hx1 (fun c1 => ?_) (fun c1 => ?_)
            · rw [e99 _ _ hf2] at c1
              refine g9_check_136 ?_
              refine nxt M2 1 hf2 (Or.inr rfl) (Or.inl ⟨rfl, fun z hz hs => ?_⟩)
              by_cases hzx : z = x
              · rw [hzx] at hs
                omega
              · exact hG z (by omega) hs
            · rw [e99 _ _ hf2] at c1
              refine g9_check_122 ?_
              have hc2 : cm M2 a p q b = c := by rw [hf2.kcm]; exact hcc
              refine c9_isBad (k := k) hv.1 hv.2.1 hv.2.2.1 hv.2.2.2 (by rw [hc2]; exact hok) (fun j hj => (hd.of hf2).2.2.1 j hj) ⟨hx0, hx1⟩ (fun s t => ?_)
              rw [hc2]
              rcases bd01 c x with hb | hb
              · rw [hb]
                refine g9_check_133 (fun c => by exfalso; omega) (fun _ => ?_)
                refine g9_check_136 ?_
                refine nxt _ 1 (hf2.tr fr9.st) (Or.inr rfl) (Or.inl ⟨rfl, fun z hz hs => ?_⟩)
                by_cases hzx : z = x
                · rw [hzx, hb]
                  omega
                · exact hG z (by omega) hs
              · rw [hb]
                refine g9_check_133 (fun _ => ?_) (fun c => by exfalso; omega)
                refine g9_check_140 ?_
                exact nxt _ 0 (hf2.tr fr9.st) (Or.inl rfl) (Or.inr ⟨rfl, x, ⟨hx0, hx1⟩, hSx.resolve_left c1, hb⟩)
          · refine g9_check_107 (fun _ => ?_) (fun c => by exfalso; omega)
            refine g9_check_140 ?_
            exact nxt M2 0 hf2 (Or.inl rfl) (Or.inr ⟨rfl, hG⟩)
        by_cases hin : M 99 x = 0
        · have ck : M1 86 1 = k := by rw [hf 86 1 (by unfold kp; omega)]; exact hkk
          refine g9_check_49 (fun c => by exfalso; omega) (fun _ => ?_)
          refine g9_check_58 hx0 hx1 (fun _ => ?_) (fun c => by exfalso; rw [e99 _ _ hf] at c; exact c hin)
          refine second M1 kept 0 hf ?_
          rcases hK with ⟨h1, hK⟩ | hK
          · refine Or.inl ⟨h1, fun z hz hs => ?_⟩
            by_cases hzx : z = x
            · rw [hzx] at hs
              omega
            · exact hK z (by omega) hs
          · exact Or.inr hK
        · have hin1 : M 99 x = 1 := by omega
          refine am_forR (fun y ls M2 => ∃ kept' : Int, ls = [some (vr 86), some (vi a), some (vi p), some (vi q), some (vi b), some (vi kept'), some (vi good), some (vi x), some (vi y)] ∧ fr9 M M2 ∧ ((kept' = 1 ∧ (∀ z : Int, (0 ≤ z ∧ z < x) → M 99 z = 1 → ¬ lo_ (M 99) k c z) ∧ ∀ u : Int, (0 ≤ u ∧ u < y) → M 99 (af c x u) ≠ 0) ∨ (kept' = 0 ∧ ∃ z : Int, (0 ≤ z ∧ z < 1296) ∧ M 99 z = 1 ∧ lo_ (M 99) k c z))) 0 k (by omega) ⟨kept, rfl, hf, ?_⟩ ?_ ?_
          · rcases hK with ⟨h1, hK⟩ | hK
            · exact Or.inl ⟨h1, hK, fun u hu => by omega⟩
            · exact Or.inr hK
          · rintro ls M2 ⟨kept', rfl, hf2, hK2⟩
            have ck : M2 86 1 = k := by rw [hf2 86 1 (by unfold kp; omega)]; exact hkk
            refine g9_check_49 (fun _ => ?_) (fun c => by exfalso; omega)
            refine second M2 kept' k hf2 ?_
            rcases hK2 with ⟨h1, h2, h3⟩ | hK2
            · refine Or.inl ⟨h1, fun z hz hs hlo => ?_⟩
              by_cases hzx : z = x
              · obtain ⟨u, u0, u1, u2⟩ := hlo
                rw [hzx] at u2
                exact h3 u ⟨u0, u1⟩ u2
              · exact h2 z (by omega) hs hlo
            · exact Or.inr hK2
          · rintro y ls M2 hy0 hy1 ⟨kept', rfl, hf2, hK2⟩ ihy
            have ck : M2 86 1 = k := by rw [hf2 86 1 (by unfold kp; omega)]; exact hkk
            have hc2 : cm M2 a p q b = c := by rw [hf2.kcm]; exact hcc
            have hA := af_rng hok (pl := x) ⟨hx0, hx1⟩ (x := y) ⟨hy0, hy1⟩
            refine g9_check_49 (fun c => by exfalso; omega) (fun _ => ?_)
            refine g9_check_58 hx0 hx1 (fun c => by exfalso; rw [e99 _ _ hf2] at c; omega) (fun _ => ?_)
            rcases hK2 with ⟨rfl, h2, h3⟩ | ⟨rfl, hK2⟩
            · refine g9_check_68 (fun c => by exfalso; omega) (fun _ => ?_)
              refine g9_check_73 ?_
              refine c9_leadsTo (k := k) hv.1 hv.2.1 hv.2.2.1 hv.2.2.2 (by rw [hc2]; exact hok) ⟨hx0, hx1⟩ ⟨hy0, hy1⟩ (fun s t => ?_)
              rw [hc2]
              have hf3 := hf2.tr (fr9.st (s := s) (p := t))
              refine g9_check_90 kd99 hA.1 hA.2 (fun c1 => ?_) (fun c1 => ?_)
              · rw [e99 _ _ hf3] at c1
                refine g9_check_98 ?_
                refine g9_check_99 (by omega) ?_
                exact ihy _ _ ⟨0, rfl, hf3, Or.inr ⟨rfl, x, ⟨hx0, hx1⟩, hin1, y, hy0, hy1, c1⟩⟩
              · rw [e99 _ _ hf3] at c1
                refine g9_check_94 ?_
                refine g9_check_99 (by omega) ?_
                refine ihy _ _ ⟨1, rfl, hf3, Or.inl ⟨rfl, h2, fun u hu => ?_⟩⟩
                by_cases huy : u = y
                · rw [huy]
                  exact c1
                · exact h3 u (by omega)
            · refine g9_check_68 (fun _ => ?_) (fun c => by exfalso; omega)
              refine g9_check_98 ?_
              refine g9_check_99 (by omega) ?_
              exact ihy _ _ ⟨0, rfl, hf2, Or.inr ⟨rfl, hK2⟩⟩
    · rw [e99 _ _ hf0] at c0
      exact g9_check_27 (k1 hv 1 (Or.inl ⟨c0, rfl⟩) _ hf0)
  · rw [if_neg hv]
    refine g9_check_13 (fun c => by exfalso; omega) (fun _ => ?_)
    exact g9_check_16 (k0 hv _ hf0)

theorem c9_sheet {M : am_M} {Q : Option am_V → am_M → Prop} {x v : Int} (hv : v = 0 ∨ v = 1) (hS : ∀ x : Int, 0 ≤ x ∧ x < 1296 → M 99 x = 0 ∨ M 99 x = 1) (k1 : (0 ≤ x ∧ x < 1296) → Q (some (vi (M 99 x))) (am_up (am_up M 86 0 0) 99 x v)) (k0 : ¬ (0 ≤ x ∧ x < 1296) → Q (some (vi (-2))) (am_up M 86 0 0)) : am_CallN m9_sheet [vr 86, vi x, vi v] KS M Q := by
  refine am_callN_of (by decide +kernel) rfl rfl (Nat.le_of_ble_eq_true rfl) ?_
  refine g9_sheet_0 ?_
  refine c9_in ?_
  by_cases h : 0 ≤ x ∧ x ≤ 1295
  · rw [if_pos h]
    have k1 := k1 (by omega)
    have hSx := hS x (by omega)
    have e : am_up M 86 0 0 99 x = M 99 x := am_upn (Or.inl (by omega))
    refine g9_sheet_14 (fun _ => ?_) (fun c => by exfalso; omega)
    refine g9_sheet_20 h.1 (by omega) (fun c => ?_) (fun c => ?_)
    · rw [e] at c
      refine g9_sheet_33 ?_
      refine g9_sheet_34 h.1 (by omega) hv ?_
      rw [c] at k1
      exact k1
    · rw [e] at c
      refine g9_sheet_29 ?_
      refine g9_sheet_34 h.1 (by omega) hv ?_
      rw [show M 99 x = 1 by omega] at k1
      exact k1
  · rw [if_neg h]
    refine g9_sheet_14 (fun c => by exfalso; omega) (fun _ => ?_)
    exact g9_sheet_17 (k0 (by omega))
