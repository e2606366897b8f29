/-! ===== loops by a counter ===== -/
theorem am_forI {mi : am_I} {hd : Nat} {ls0 : am_L} {stk : List am_V} {K : am_K} {M0 : am_M} {Q : Option am_V → am_M → Prop} (ls : Int → am_L) (Mm : Int → am_M) (Iv : Int → Prop) (lo n : Int) (hln : lo ≤ n) (hls : ls0 = ls lo) (hM : M0 = Mm lo) (hI : Iv lo)
    (fin : Iv n → am_AtN mi hd (ls n) stk K (Mm n) Q) (step : ∀ i, lo ≤ i → i < n → Iv i → (Iv (i + 1) → am_AtN mi hd (ls (i + 1)) stk K (Mm (i + 1)) Q) → am_AtN mi hd (ls i) stk K (Mm i) Q) : am_AtN mi hd ls0 stk K M0 Q := by
  have key : ∀ (d : Nat) (i : Int), lo ≤ i → i + d = n → Iv i → am_AtN mi hd (ls i) stk K (Mm i) Q := by
    intro d
    induction d with
    | zero =>
      intro i _ h2 h3
      have : i = n := by omega
      subst this
      exact fin h3
    | succ d ih =>
      intro i h1 h2 h3
      exact step i h1 (by omega) h3 (fun h => ih (i + 1) (by omega) (by omega) h)
  rw [hls, hM]
  exact key (n - lo).toNat lo (Int.le_refl _) (by omega) hI
theorem am_for {mi : am_I} {hd : Nat} {ls0 : am_L} {stk : List am_V} {K : am_K} {M0 : am_M} {Q : Option am_V → am_M → Prop} (ls : Int → am_L) (Mm : Int → am_M) (lo n : Int) (hln : lo ≤ n) (hls : ls0 = ls lo) (hM : M0 = Mm lo)
    (fin : am_AtN mi hd (ls n) stk K (Mm n) Q) (step : ∀ i, lo ≤ i → i < n → am_AtN mi hd (ls (i + 1)) stk K (Mm (i + 1)) Q → am_AtN mi hd (ls i) stk K (Mm i) Q) : am_AtN mi hd ls0 stk K M0 Q :=
  am_forI ls Mm (fun _ => True) lo n hln hls hM trivial (fun _ => fin) (fun i h1 h2 _ h => step i h1 h2 (h trivial))
theorem am_mem {mi : am_I} {pc : Nat} {ls : am_L} {stk : List am_V} {K : am_K} {M M' : am_M} {Q : Option am_V → am_M → Prop} (h : M = M') (k : am_AtN mi pc ls stk K M' Q) : am_AtN mi pc ls stk K M Q := h ▸ k
theorem am_qm {Q : Option am_V → am_M → Prop} {r : Option am_V} {M M' : am_M} (h : M = M') (k : Q r M) : Q r M' := h ▸ k
theorem am_upn {M : am_M} {a i v b j : Int} (h : b ≠ a ∨ j ≠ i) : am_up M a i v b j = M b j := by
  unfold am_up
  split
  · split
    · rcases h with h | h
      · contradiction
      · contradiction
    · rfl
  · rfl
/-- one row of places anew -/
def am_fl (M : am_M) (a lo n : Int) (f : Int → Int) : am_M := fun b j => if b = a ∧ lo ≤ j ∧ j < n then f j else M b j
theorem am_fl_0 {M : am_M} {a lo : Int} {f : Int → Int} : am_fl M a lo lo f = M := by
  funext b j
  unfold am_fl
  rw [if_neg (by omega)]
theorem am_fl_s {M : am_M} {a lo n : Int} {f : Int → Int} (h : lo ≤ n) : am_up (am_fl M a lo n f) a n (f n) = am_fl M a lo (n + 1) f := by
  funext b j
  unfold am_up am_fl
  by_cases hb : b = a
  · by_cases hj : j = n
    · rw [if_pos hb, if_pos hj, if_pos (by omega), hj]
    · rw [if_pos hb, if_neg hj]
      by_cases h2 : lo ≤ j ∧ j < n
      · rw [if_pos (by omega), if_pos (by omega)]
      · rw [if_neg (by omega), if_neg (by omega)]
  · rw [if_neg hb, if_neg (by omega), if_neg (by omega)]
theorem am_fl_in {M : am_M} {a lo n j : Int} {f : Int → Int} (h : lo ≤ j ∧ j < n) : am_fl M a lo n f a j = f j := by
  unfold am_fl
  rw [if_pos (by omega)]
theorem am_fl_out {M : am_M} {a lo n b j : Int} {f : Int → Int} (h : ¬ (b = a ∧ lo ≤ j ∧ j < n)) : am_fl M a lo n f b j = M b j := by
  unfold am_fl
  rw [if_neg h]
theorem cJ_fill {K : am_K} {M : am_M} {Q : Option am_V → am_M → Prop} {a v : Int} {n : Nat} {q : List Int} (h : am_kd K a = some (11, n, q)) (hn : (n : Int) ≤ 2147483647) (k : Q none (am_fl M a 0 n (fun _ => v))) : am_CallN mJ_fill [vr a, vi v] K M Q := by
  refine am_callN_of (by decide +kernel) rfl rfl (Nat.le_of_ble_eq_true rfl) ?_
  refine gJ_fill_0 h (by omega) ?_
  refine am_for (fun i => [some (vr a), some (vi v), some (vi i), some (vi (n : Int))]) (fun i => am_fl M a 0 i (fun _ => v)) 0 n (by omega) rfl am_fl_0.symm ?_ (fun i h0 h1 ih => ?_)
  · refine gJ_fill_5 (fun _ => ?_) (fun c => by exfalso; omega)
    exact gJ_fill_20 k
  · refine gJ_fill_5 (fun c => by exfalso; omega) (fun _ => ?_)
    refine gJ_fill_10 h h0 h1 (by omega) ?_
    exact am_mem (am_fl_s (f := fun _ => v) h0) ih

theorem c6_startAnew {K : am_K} {M : am_M} {Q : Option am_V → am_M → Prop} {o nx hd : Int} (ho : am_kd K o = some (6, 2, [nx, hd])) (hn : am_kd K nx = some (11, 24, [])) (hh : am_kd K hd = some (11, 6, [])) (k : Q none (am_fl (am_fl M nx 0 24 (fun _ => 0)) hd 0 6 (fun _ => 1))) : am_CallN m6_startAnew [vr o] K M Q := by
  refine am_callN_of (by decide +kernel) rfl rfl (Nat.le_of_ble_eq_true rfl) ?_
  refine g6_startAnew_0 (by first | assumption | omega) ?_
  refine cJ_fill (by first | assumption | omega) (by first | assumption | omega) ?_
  refine g6_startAnew_8 (by first | assumption | omega) ?_
  refine cJ_fill (by first | assumption | omega) (by first | assumption | omega) ?_
  refine g6_startAnew_16 ?_
  exact k

theorem c6_nextOf {K : am_K} {M : am_M} {Q : Option am_V → am_M → Prop} {o nx hd : Int} (ho : am_kd K o = some (6, 2, [nx, hd])) (hn : am_kd K nx = some (11, 24, [])) (hh : am_kd K hd = some (11, 6, [])) {p x : Int} (hp : 0 ≤ p ∧ p < 6) (hx : 0 ≤ x ∧ x < 4) (k : Q (some (vi (M nx (p * 4 + x)))) M) : am_CallN m6_nextOf [vr o, vi p, vi x] K M Q := by
  refine am_callN_of (by decide +kernel) rfl rfl (Nat.le_of_ble_eq_true rfl) ?_
  refine g6_nextOf_0 ?_
  refine c8_in (by first | assumption | omega) ?_
  refine g6_nextOf_6 (fun c1 => by exfalso; omega) (fun c2 => ?_)
  refine g6_nextOf_9 ?_
  refine c8_in (by first | assumption | omega) ?_
  refine g6_nextOf_14 (fun c3 => ?_) (fun c4 => by exfalso; omega)
  refine g6_nextOf_19 (by first | assumption | omega) (by first | assumption | omega) (by first | assumption | omega) (by first | assumption | omega) (by first | assumption | omega) (by first | assumption | omega) ?_
  exact k

theorem c6_holdsAt {K : am_K} {M : am_M} {Q : Option am_V → am_M → Prop} {o nx hd : Int} (ho : am_kd K o = some (6, 2, [nx, hd])) (hn : am_kd K nx = some (11, 24, [])) (hh : am_kd K hd = some (11, 6, [])) {p : Int} (hp : 0 ≤ p ∧ p < 6) (k : Q (some (vi (if M hd p = 1 then 1 else 0))) M) : am_CallN m6_holdsAt [vr o, vi p] K M Q := by
  refine am_callN_of (by decide +kernel) rfl rfl (Nat.le_of_ble_eq_true rfl) ?_
  refine g6_holdsAt_0 ?_
  refine c8_in (by first | assumption | omega) ?_
  refine g6_holdsAt_6 (fun c1 => by exfalso; omega) (fun c2 => ?_)
  refine g6_holdsAt_9 (by first | assumption | omega) (by first | assumption | omega) (by first | assumption | omega) (by first | assumption | omega) (fun c3 => ?_) (fun c4 => ?_)
  · first
    | (exfalso; omega)
    | (refine g6_holdsAt_23 ?_
       refine g6_holdsAt_24 (by first | assumption | omega) ?_
       exact am_qv (by (repeat' split) <;> omega) k)
  · first
    | (exfalso; omega)
    | (refine g6_holdsAt_19 ?_
       refine g6_holdsAt_24 (by first | assumption | omega) ?_
       exact am_qv (by (repeat' split) <;> omega) k)

theorem c6_lead {K : am_K} {M : am_M} {Q : Option am_V → am_M → Prop} {o nx hd : Int} (ho : am_kd K o = some (6, 2, [nx, hd])) (hn : am_kd K nx = some (11, 24, [])) (hh : am_kd K hd = some (11, 6, [])) {p x t : Int} (hp : 0 ≤ p ∧ p < 6) (hx : 0 ≤ x ∧ x < 4) (k : Q none (am_up M nx (p * 4 + x) t)) : am_CallN m6_lead [vr o, vi p, vi x, vi t] K M Q := by
  refine am_callN_of (by decide +kernel) rfl rfl (Nat.le_of_ble_eq_true rfl) ?_
  refine g6_lead_0 ?_
  refine c8_in (by first | assumption | omega) ?_
  refine g6_lead_6 (fun c1 => by exfalso; omega) (fun c2 => ?_)
  refine g6_lead_9 ?_
  refine c8_in (by first | assumption | omega) ?_
  refine g6_lead_14 (fun c3 => ?_) (fun c4 => by exfalso; omega)
  refine g6_lead_18 (by first | assumption | omega) (by first | assumption | omega) (by first | assumption | omega) (by first | assumption | omega) (by first | assumption | omega) (by first | assumption | omega) ?_
  exact k

theorem c6_hold {K : am_K} {M : am_M} {Q : Option am_V → am_M → Prop} {o nx hd : Int} (ho : am_kd K o = some (6, 2, [nx, hd])) (hn : am_kd K nx = some (11, 24, [])) (hh : am_kd K hd = some (11, 6, [])) {p b : Int} (hp : 0 ≤ p ∧ p < 6) (hb : b = 0 ∨ b = 1) (k : Q none (am_up M hd p b)) : am_CallN m6_hold [vr o, vi p, vi b] K M Q := by
  refine am_callN_of (by decide +kernel) rfl rfl (Nat.le_of_ble_eq_true rfl) ?_
  refine g6_hold_0 ?_
  refine c8_in (by first | assumption | omega) ?_
  refine g6_hold_6 (fun c1 => by exfalso; omega) (fun c2 => ?_)
  refine g6_hold_9 (by first | assumption | omega) ?_
  refine c8_oneIf (by first | assumption | omega) ?_
  refine g6_hold_18 (by first | assumption | omega) (by first | assumption | omega) (by first | assumption | omega) ?_
  refine g6_hold_19 ?_
  exact k

/-- a row of places out of another one -/
def am_cp (M : am_M) (d s n : Int) : am_M := fun b j => if b = d ∧ 0 ≤ j ∧ j < n then M s j else M b j
theorem am_cp_0 {M : am_M} {d s : Int} : am_cp M d s 0 = M := by
  funext b j
  unfold am_cp
  rw [if_neg (by omega)]
theorem am_cp_s {M : am_M} {d s n : Int} (h : 0 ≤ n) : am_up (am_cp M d s n) d n (am_cp M d s n s n) = am_cp M d s (n + 1) := by
  funext b j
  have e1 : am_cp M d s n s n = M s n := by
    unfold am_cp
    rw [if_neg (by omega)]
  rw [e1]
  unfold am_up am_cp
  by_cases hb : b = d
  · by_cases hj : j = n
    · rw [if_pos hb, if_pos hj, if_pos (by omega), hj]
    · rw [if_pos hb, if_neg hj]
      by_cases h2 : 0 ≤ j ∧ j < n
      · rw [if_pos (by omega), if_pos (by omega)]
      · rw [if_neg (by omega), if_neg (by omega)]
  · rw [if_neg hb, if_neg (by omega), if_neg (by omega)]

theorem c6_copy {K : am_K} {M : am_M} {Q : Option am_V → am_M → Prop} {o nx hd o2 nx2 hd2 : Int} (ho : am_kd K o = some (6, 2, [nx, hd])) (hn : am_kd K nx = some (11, 24, [])) (hh : am_kd K hd = some (11, 6, [])) (ho2 : am_kd K o2 = some (6, 2, [nx2, hd2])) (hn2 : am_kd K nx2 = some (11, 24, [])) (hh2 : am_kd K hd2 = some (11, 6, [])) (k : Q none (am_cp (am_cp M nx nx2 24) hd hd2 6)) : am_CallN m6_copy [vr o, vr o2] K M Q := by
  refine am_callN_of (by decide +kernel) rfl rfl (Nat.le_of_ble_eq_true rfl) ?_
  refine g6_copy_0 ?_
  refine am_for (fun i => [some (vr o), some (vr o2), some (vi i)]) (fun i => am_cp M nx nx2 i) 0 24 (by omega) rfl am_cp_0.symm ?_ (fun i h0 h1 ih => ?_)
  · refine g6_copy_2 (fun _ => ?_) (fun c => by exfalso; omega)
    refine g6_copy_26 ?_
    refine am_for (fun i => [some (vr o), some (vr o2), some (vi i)]) (fun i => am_cp (am_cp M nx nx2 24) hd hd2 i) 0 6 (by omega) rfl am_cp_0.symm ?_ (fun i h0 h1 ih => ?_)
    · refine g6_copy_28 (fun _ => ?_) (fun c => by exfalso; omega)
      exact g6_copy_52 k
    · refine g6_copy_28 (fun c => by exfalso; omega) (fun _ => ?_)
      refine g6_copy_34 ho ho2 hh2 h0 h1 hh h0 h1 (by omega) ?_
      exact am_mem (am_cp_s h0) ih
  · refine g6_copy_2 (fun c => by exfalso; omega) (fun _ => ?_)
    refine g6_copy_8 ho ho2 hn2 h0 h1 hn h0 h1 (by omega) ?_
    exact am_mem (am_cp_s h0) ih

/-- a sum over places 0 .. n - 1 -/
def am_sm (f : Int → Int) : Nat → Int
  | 0 => 0
  | n + 1 => am_sm f n + f n
theorem am_sm_congr {f g : Int → Int} : ∀ (n : Nat), (∀ j : Int, 0 ≤ j → j < n → f j = g j) → am_sm f n = am_sm g n
  | 0, _ => rfl
  | n + 1, h => by
    show am_sm f n + f n = am_sm g n + g n
    rw [am_sm_congr n (fun j h0 h1 => h j h0 (by omega)), h n (by omega) (by omega)]
theorem am_sm_s {f : Int → Int} {i : Int} (h : 0 ≤ i) : am_sm f i.toNat + f i = am_sm f (i + 1).toNat := by
  rw [show (i + 1).toNat = i.toNat + 1 by omega]
  show _ = am_sm f i.toNat + f (i.toNat : Int)
  rw [show ((i.toNat : Nat) : Int) = i by omega]
theorem am_sm_bnd {f : Int → Int} {c : Int} : ∀ (n : Nat), (∀ j : Int, 0 ≤ j → j < n → 0 ≤ f j ∧ f j ≤ c) → 0 ≤ am_sm f n ∧ am_sm f n ≤ c * n
  | 0, _ => by simp [am_sm]
  | n + 1, h => by
    have h1 := am_sm_bnd n (fun j h0 h1 => h j h0 (by omega))
    have h2 := h n (by omega) (by omega)
    have h3 : c * ((n + 1 : Nat) : Int) = c * n + c := by
      rw [Int.natCast_add, Int.mul_add]
      simp
    show 0 ≤ am_sm f n + f n ∧ am_sm f n + f n ≤ _
    rw [h3]
    omega
theorem c6_turnRound {K : am_K} {M : am_M} {Q : Option am_V → am_M → Prop} {o nx hd : Int} (ho : am_kd K o = some (6, 2, [nx, hd])) (hn : am_kd K nx = some (11, 24, [])) (hh : am_kd K hd = some (11, 6, [])) (hb : ∀ j : Int, 0 ≤ j → j < 6 → M hd j = 0 ∨ M hd j = 1) (k : Q (some (vi (am_sm (fun j => 1 - M hd j) 6))) (am_fl M hd 0 6 (fun j => 1 - M hd j))) : am_CallN m6_turnRound [vr o] K M Q := by
  refine am_callN_of (by decide +kernel) rfl rfl (Nat.le_of_ble_eq_true rfl) ?_
  refine g6_turnRound_0 ?_
  refine am_for (fun i => [some (vr o), some (vi (am_sm (fun j => 1 - M hd j) i.toNat)), some (vi i)]) (fun i => am_fl M hd 0 i (fun j => 1 - M hd j)) 0 6 (by omega) rfl am_fl_0.symm ?_ (fun i h0 h1 ih => ?_)
  · refine g6_turnRound_4 (fun _ => ?_) (fun c => by exfalso; omega)
    exact g6_turnRound_39 k
  · have e1 : am_fl M hd 0 i (fun j => 1 - M hd j) hd i = M hd i := am_fl_out (by omega)
    have e2 := am_fl_s (M := M) (a := hd) (f := fun j => 1 - M hd j) h0
    have hbi := hb i h0 h1
    have hs := am_sm_bnd (f := fun j => 1 - M hd j) (c := 1) i.toNat (fun j h2 h3 => by have := hb j h2 (by omega); omega)
    refine g6_turnRound_4 (fun c => by exfalso; omega) (fun _ => ?_)
    refine g6_turnRound_10 ho hh h0 h1 (by rw [e1]; omega) h0 h1 h0 h1 (by rw [am_up_hit, e1]; omega) (by omega) ?_
    rw [am_up_hit, e1, am_sm_s (f := fun j => 1 - M hd j) h0]
    exact am_mem e2 ih

/-- behind a word -/
def aw (N : Int → Int → Int) (p w : Int) : Int := if w < 1 then p else if w < 5 then N p (w - 1) else N (N p ((w - 5) / 4)) ((w - 5) % 4)
theorem c6_afterWord {K : am_K} {M : am_M} {Q : Option am_V → am_M → Prop} {o nx hd : Int} (ho : am_kd K o = some (6, 2, [nx, hd])) (hn : am_kd K nx = some (11, 24, [])) (hh : am_kd K hd = some (11, 6, [])) {p w c : Int} (hp : 0 ≤ p ∧ p < 6) (hw : 0 ≤ w ∧ w ≤ 20) (hN : ∀ j : Int, 0 ≤ j → j < 24 → 0 ≤ M nx j ∧ M nx j < 6) (k : Q (some (vi (aw (fun p x => M nx (p * 4 + x)) p w))) M) : am_CallN m6_afterWord [vr o, vi p, vi w] K M Q := by
  refine am_callN_of (by decide +kernel) rfl rfl (Nat.le_of_ble_eq_true rfl) ?_
  refine g6_afterWord_0 ?_
  by_cases h1 : w < 1
  · refine g6_afterWord_5 ?_
    refine c8_wordLength ?_
    refine g6_afterWord_11 (fun _ => ?_) (fun c => by exfalso; unfold wlen at c; rw [if_pos h1] at c; omega)
    refine g6_afterWord_32 ?_
    exact am_qv (by unfold aw; rw [if_pos h1]) k
  · by_cases h5 : w < 5
    · have hl : wlen w = 1 := by unfold wlen; rw [if_neg h1, if_pos h5]
      have h0 : wlet w 0 = w - 1 := by unfold wlet; rw [if_pos h5]
      refine g6_afterWord_5 ?_
      refine c8_wordLength ?_
      refine g6_afterWord_11 (fun c => by exfalso; rw [hl] at c; omega) (fun _ => ?_)
      refine g6_afterWord_14 ?_
      refine c8_wordLetter hw ?_
      refine g6_afterWord_22 ho ?_
      refine c6_nextOf ho hn hh hp (by omega) ?_
      refine g6_afterWord_25 (by omega) ?_
      refine g6_afterWord_5 ?_
      refine c8_wordLength ?_
      refine g6_afterWord_11 (fun _ => ?_) (fun c => by exfalso; rw [hl] at c; omega)
      refine g6_afterWord_32 ?_
      exact am_qv (by unfold aw; rw [if_neg h1, if_pos h5, h0]) k
    · have hl : wlen w = 2 := by unfold wlen; rw [if_neg h1, if_neg h5]
      have h0 : wlet w 0 = (w - 5) / 4 := by unfold wlet; rw [if_neg h5, if_pos rfl]
      have h1' : wlet w (0 + 1) = (w - 5) % 4 := by unfold wlet; rw [if_neg h5, if_neg (by omega)]
      have hq := hN (p * 4 + wlet w 0) (by omega) (by omega)
      refine g6_afterWord_5 ?_
      refine c8_wordLength ?_
      refine g6_afterWord_11 (fun c => by exfalso; rw [hl] at c; omega) (fun _ => ?_)
      refine g6_afterWord_14 ?_
      refine c8_wordLetter hw ?_
      refine g6_afterWord_22 ho ?_
      refine c6_nextOf ho hn hh hp (by omega) ?_
      refine g6_afterWord_25 (by omega) ?_
      refine g6_afterWord_5 ?_
      refine c8_wordLength ?_
      refine g6_afterWord_11 (fun c => by exfalso; rw [hl] at c; omega) (fun _ => ?_)
      refine g6_afterWord_14 ?_
      refine c8_wordLetter hw ?_
      refine g6_afterWord_22 ho ?_
      refine c6_nextOf ho hn hh hq (by omega) ?_
      refine g6_afterWord_25 (by omega) ?_
      refine g6_afterWord_5 ?_
      refine c8_wordLength ?_
      refine g6_afterWord_11 (fun _ => ?_) (fun c => by exfalso; rw [hl] at c; omega)
      refine g6_afterWord_32 ?_
      exact am_qv (by unfold aw; rw [if_neg h1, if_neg h5, h0, h1']) k
