/-! ===== rows ===== -/
/-- the row at o, its letters at lt, is L -/
def rw_ (M : am_M) (o lt : Int) (L : List Int) : Prop := M o 1 = L.length ∧ ∀ i : Nat, i < L.length → M lt i = L.getD i 0
def off2 (M M' : am_M) (a b : Int) : Prop := ∀ c j : Int, c ≠ a → c ≠ b → M' c j = M c j
theorem off2.rf {M : am_M} {a b : Int} : off2 M M a b := fun _ _ _ _ => rfl
theorem off2.tr {M M' M'' : am_M} {a b : Int} (h : off2 M M' a b) (h' : off2 M' M'' a b) : off2 M M'' a b := fun c j h1 h2 => (h' c j h1 h2).trans (h c j h1 h2)
theorem rw_.of {M M' : am_M} {o lt a b : Int} {L : List Int} (h : rw_ M o lt L) (hf : off2 M M' a b) (h1 : o ≠ a) (h2 : o ≠ b) (h3 : lt ≠ a) (h4 : lt ≠ b) : rw_ M' o lt L :=
  ⟨(hf o 1 h1 h2).trans h.1, fun i hi => (hf lt i h3 h4).trans (h.2 i hi)⟩
theorem am_kne {K : am_K} {a b : Int} {e e' : am_C} (h : am_kd K a = some e) (h' : am_kd K b = some e') (hne : e.1 ≠ e'.1) : a ≠ b := by
  intro hab
  rw [hab, h'] at h
  exact hne (by rw [Option.some.inj h])
theorem c5_size {K : am_K} {M : am_M} {Q : Option am_V → am_M → Prop} {o lt z : Int} {n : Nat} {q : List Int} {L : List Int} (ho : am_kd K o = some (5, 2, [lt, z])) (hl : am_kd K lt = some (11, n, q)) (hn : (n : Int) ≤ 100000) (hR : rw_ M o lt L) (k : Q (some (vi (L.length : Int))) M) : am_CallN m5_size [vr o] K M Q := by
  refine am_callN_of (by decide +kernel) rfl rfl (Nat.le_of_ble_eq_true rfl) ?_
  refine g5_size_0 ho ?_
  exact am_qv hR.1.symm k
theorem c5_empty {K : am_K} {M : am_M} {Q : Option am_V → am_M → Prop} {o lt z : Int} (ho : am_kd K o = some (5, 2, [lt, z])) (k : Q none (am_up M o 1 0)) : am_CallN m5_empty [vr o] K M Q := by
  refine am_callN_of (by decide +kernel) rfl rfl (Nat.le_of_ble_eq_true rfl) ?_
  exact g5_empty_0 ho k
theorem rw_up0 {M : am_M} {o lt : Int} : rw_ (am_up M o 1 0) o lt [] ∧ off2 M (am_up M o 1 0) o lt :=
  ⟨⟨am_up_hit, fun i hi => absurd hi (by simp)⟩, fun c j h1 h2 => am_upn (Or.inl h1)⟩
theorem c5_letterAt {K : am_K} {M : am_M} {Q : Option am_V → am_M → Prop} {o lt z : Int} {n : Nat} {q : List Int} {L : List Int} (ho : am_kd K o = some (5, 2, [lt, z])) (hl : am_kd K lt = some (11, n, q)) (hn : (n : Int) ≤ 100000) (hR : rw_ M o lt L) {i : Int} (hc : (L.length : Int) ≤ n) (k : Q (some (vi (if 0 ≤ i ∧ i < L.length then L.getD i.toNat 0 else -9))) M) : am_CallN m5_letterAt [vr o, vi i] K M Q := by
  refine am_callN_of (by decide +kernel) rfl rfl (Nat.le_of_ble_eq_true rfl) ?_
  refine g5_letterAt_0 ho ?_
  by_cases h : 0 ≤ i ∧ i < L.length
  · rw [if_pos h] at k
    refine c8_in (by rw [hR.1]; exact h) ?_
    refine g5_letterAt_8 (fun c => by exfalso; omega) (fun _ => ?_)
    refine g5_letterAt_11 ho hl (by omega) (fun c => by exfalso; omega) (fun _ => ?_)
    refine g5_letterAt_20 ho hl h.1 (by omega) ?_
    refine g5_letterAt_31 ?_
    have e := hR.2 i.toNat (by omega)
    rw [show ((i.toNat : Nat) : Int) = i by omega] at e
    exact am_qv e.symm k
  · rw [if_neg h] at k
    refine c8_out (by rw [hR.1]; exact h) ?_
    refine g5_letterAt_8 (fun _ => ?_) (fun c => by exfalso; omega)
    refine g5_letterAt_29 ?_
    exact g5_letterAt_31 k
theorem rw_add {M : am_M} {o lt x : Int} {L : List Int} (hne : o ≠ lt) (hR : rw_ M o lt L) : rw_ (am_up (am_up M lt L.length x) o 1 (L.length + 1)) o lt (L ++ [x]) ∧ off2 M (am_up (am_up M lt L.length x) o 1 (L.length + 1)) o lt := by
  refine ⟨⟨by rw [am_up_hit]; simp, fun i hi => ?_⟩, fun c j h1 h2 => ?_⟩
  · rw [am_upn (Or.inl hne.symm)]
    by_cases h : i = L.length
    · subst h
      rw [am_up_hit]
      simp [List.getD]
    · have hi' : i < L.length := by simp at hi; omega
      rw [am_upn (Or.inr (by omega)), hR.2 i hi']
      simp [List.getD, List.getElem?_append_left hi']
  · rw [am_upn (Or.inl h1), am_upn (Or.inl h2)]
theorem c5_add {K : am_K} {M : am_M} {Q : Option am_V → am_M → Prop} {o lt z : Int} {n : Nat} {q : List Int} {L : List Int} (ho : am_kd K o = some (5, 2, [lt, z])) (hl : am_kd K lt = some (11, n, q)) (hn : (n : Int) ≤ 100000) (hR : rw_ M o lt L) {x : Int} (hc : (L.length : Int) < n) (k : ∀ M', rw_ M' o lt (L ++ [x]) → off2 M M' o lt → Q none M') : am_CallN m5_add [vr o, vi x] K M Q := by
  have hne : o ≠ lt := am_kne ho hl (by simp)
  refine am_callN_of (by decide +kernel) rfl rfl (Nat.le_of_ble_eq_true rfl) ?_
  refine g5_add_0 ho hl (by omega) ?_
  refine c8_in (by rw [hR.1]; omega) ?_
  refine g5_add_12 (fun _ => ?_) (fun c => by exfalso; omega)
  have e1 : am_up M lt (M o 1) x o 1 = L.length := by rw [am_upn (Or.inl hne), hR.1]
  refine g5_add_16 ho hl (by rw [hR.1]; omega) (by rw [hR.1]; omega) (by rw [e1]; omega) ?_
  rw [e1, hR.1]
  obtain ⟨a, b⟩ := rw_add (x := x) hne hR
  exact k _ a b
/-- the letters of a word -/
def wl (w : Int) : List Int := if w < 1 then [] else if w < 5 then [w - 1] else [(w - 5) / 4, (w - 5) % 4]
theorem c5_addWord {K : am_K} {M : am_M} {Q : Option am_V → am_M → Prop} {o lt z : Int} {n : Nat} {q : List Int} {L : List Int} (ho : am_kd K o = some (5, 2, [lt, z])) (hl : am_kd K lt = some (11, n, q)) (hn : (n : Int) ≤ 100000) (hR : rw_ M o lt L) {w : Int} (hw : -1 ≤ w ∧ w ≤ 20) (hc : (L.length : Int) + 2 ≤ n) (k : ∀ M', rw_ M' o lt (L ++ wl w) → off2 M M' o lt → Q none M') : am_CallN m5_addWord [vr o, vi w] K M Q := by
  refine am_callN_of (by decide +kernel) rfl rfl (Nat.le_of_ble_eq_true rfl) ?_
  refine g5_addWord_0 ?_
  refine g5_addWord_2 ?_
  refine c8_wordLength ?_
  by_cases h1 : w < 1
  · have hwl : wlen w = 0 := by unfold wlen; rw [if_pos h1]
    refine g5_addWord_7 (fun _ => ?_) (fun c => by exfalso; rw [hwl] at c; omega)
    refine g5_addWord_25 ?_
    exact k M (by unfold wl; rw [if_pos h1, List.append_nil]; exact hR) off2.rf
  · by_cases h5 : w < 5
    · have hwl : wlen w = 1 := by unfold wlen; rw [if_neg h1, if_pos h5]
      have h0 : wlet w 0 = w - 1 := by unfold wlet; rw [if_pos h5]
      refine g5_addWord_7 (fun c => by exfalso; rw [hwl] at c; omega) (fun _ => ?_)
      refine g5_addWord_10 ?_
      refine c8_wordLetter (by omega) ?_
      refine g5_addWord_16 ho ?_
      refine c5_add ho hl hn hR (by omega) (fun M1 hR1 hf1 => ?_)
      refine g5_addWord_19 (by omega) ?_
      refine g5_addWord_2 ?_
      refine c8_wordLength ?_
      refine g5_addWord_7 (fun _ => ?_) (fun c => by exfalso; rw [hwl] at c; omega)
      refine g5_addWord_25 ?_
      exact k M1 (by unfold wl; rw [if_neg h1, if_pos h5, ← h0]; exact hR1) hf1
    · have hwl : wlen w = 2 := by unfold wlen; rw [if_neg h1, if_neg h5]
      have h0 : wlet w 0 = (w - 5) / 4 := by unfold wlet; rw [if_neg h5, if_pos rfl]
      have h1' : wlet w (0 + 1) = (w - 5) % 4 := by unfold wlet; rw [if_neg h5, if_neg (by omega)]
      refine g5_addWord_7 (fun c => by exfalso; rw [hwl] at c; omega) (fun _ => ?_)
      refine g5_addWord_10 ?_
      refine c8_wordLetter (by omega) ?_
      refine g5_addWord_16 ho ?_
      refine c5_add ho hl hn hR (by omega) (fun M1 hR1 hf1 => ?_)
      refine g5_addWord_19 (by omega) ?_
      refine g5_addWord_2 ?_
      refine c8_wordLength ?_
      refine g5_addWord_7 (fun c => by exfalso; rw [hwl] at c; omega) (fun _ => ?_)
      refine g5_addWord_10 ?_
      refine c8_wordLetter (by omega) ?_
      refine g5_addWord_16 ho ?_
      refine c5_add ho hl hn hR1 (by simp; omega) (fun M2 hR2 hf2 => ?_)
      refine g5_addWord_19 (by omega) ?_
      refine g5_addWord_2 ?_
      refine c8_wordLength ?_
      refine g5_addWord_7 (fun _ => ?_) (fun c => by exfalso; rw [hwl] at c; omega)
      refine g5_addWord_25 ?_
      refine k M2 ?_ (hf1.tr hf2)
      unfold wl
      rw [if_neg h1, if_neg h5, ← h0, ← h1']
      simpa using hR2
theorem c5_copy {K : am_K} {M : am_M} {Q : Option am_V → am_M → Prop} {o lt z o2 lt2 z2 : Int} {n n2 : Nat} {q q2 : List Int} {L L2 : List Int} (ho : am_kd K o = some (5, 2, [lt, z])) (hl : am_kd K lt = some (11, n, q)) (hn : (n : Int) ≤ 100000) (ho2 : am_kd K o2 = some (5, 2, [lt2, z2])) (hl2 : am_kd K lt2 = some (11, n2, q2)) (hn2 : (n2 : Int) ≤ 100000) (hR2 : rw_ M o2 lt2 L2) (h12 : o ≠ o2) (hl12 : lt ≠ lt2) (hc : (L2.length : Int) ≤ n) (hc2 : (L2.length : Int) ≤ n2)
    (k : ∀ M', rw_ M' o lt L2 → off2 M M' o lt → Q none M') : am_CallN m5_copy [vr o, vr o2] K M Q := by
  have hne : o ≠ lt := am_kne ho hl (by simp)
  have hne1 : o ≠ lt2 := am_kne ho hl2 (by simp)
  have hne2 : o2 ≠ lt := am_kne ho2 hl (by simp)
  refine am_callN_of (by decide +kernel) rfl rfl (Nat.le_of_ble_eq_true rfl) ?_
  refine g5_copy_0 ho ?_
  refine c5_empty ho ?_
  refine g5_copy_4 ?_
  refine am_forR (fun i ls M' => ls = [some (vr o), some (vr o2), some (vi i)] ∧ rw_ M' o lt (L2.take i.toNat) ∧ off2 M M' o lt) 0 L2.length (by omega) ⟨rfl, by simpa using (rw_up0 (M := M) (o := o) (lt := lt)).1, rw_up0.2⟩ ?_ ?_
  · rintro ls M1 ⟨rfl, h1, h2⟩
    have hR2' := hR2.of h2 h12.symm hne2 hne1.symm hl12.symm
    refine g5_copy_6 ho2 (fun _ => ?_) (fun c => by exfalso; rw [hR2'.1] at c; omega)
    refine g5_copy_29 ?_
    rw [Int.toNat_natCast, List.take_length] at h1
    exact k M1 h1 h2
  · rintro i ls M1 h0 h1 ⟨rfl, h3, h4⟩ ih
    have hR2' := hR2.of h4 h12.symm hne2 hne1.symm hl12.symm
    refine g5_copy_6 ho2 (fun c => by exfalso; rw [hR2'.1] at c; omega) (fun _ => ?_)
    refine g5_copy_14 ho2 ?_
    refine c5_letterAt ho2 hl2 hn2 hR2' hc2 ?_
    rw [if_pos ⟨h0, h1⟩]
    refine g5_copy_20 ho ?_
    refine c5_add ho hl hn h3 (by simp; omega) (fun M2 hR3 hf3 => ?_)
    refine g5_copy_23 (by omega) ?_
    refine ih _ M2 ⟨rfl, ?_, h4.tr hf3⟩
    have e : L2.take (i + 1).toNat = L2.take i.toNat ++ [L2.getD i.toNat 0] := by
      have hlt : i.toNat < L2.length := by omega
      rw [show (i + 1).toNat = i.toNat + 1 by omega, List.take_add_one]
      simp [List.getD, List.getElem?_eq_getElem hlt]
    rw [e]
    exact hR3
/-- alike as far as both go -/
def lk_ (L1 L2 : List Int) : Prop := ∀ i : Nat, i < L1.length → i < L2.length → L1.getD i 0 = L2.getD i 0

theorem c5_isLikeSoFar {K : am_K} {M : am_M} {Q : Option am_V → am_M → Prop} {o lt z o2 lt2 z2 : Int} {n n2 : Nat} {q q2 : List Int} {L L2 : List Int} (ho : am_kd K o = some (5, 2, [lt, z])) (hl : am_kd K lt = some (11, n, q)) (hn : (n : Int) ≤ 100000) (hR : rw_ M o lt L) (ho2 : am_kd K o2 = some (5, 2, [lt2, z2])) (hl2 : am_kd K lt2 = some (11, n2, q2)) (hn2 : (n2 : Int) ≤ 100000) (hR2 : rw_ M o2 lt2 L2) (hc : (L.length : Int) ≤ n) (hc2 : (L2.length : Int) ≤ n2) (kt : lk_ L L2 → Q (some (vi 1)) M) (kf : ¬ lk_ L L2 → Q (some (vi 0)) M) : am_CallN m5_isLikeSoFar [vr o, vr o2] K M Q := by
  refine am_callN_of (by decide +kernel) rfl rfl (Nat.le_of_ble_eq_true rfl) ?_
  refine g5_isLikeSoFar_0 ?_
  have hmin : (if M o2 1 < M o 1 then M o2 1 else M o 1) = ((if L2.length < L.length then L2.length else L.length : Nat) : Int) := by
    rw [hR.1, hR2.1]
    split <;> split <;> omega
  refine am_forI (fun i => [some (vr o), some (vr o2), some (vi i)]) (fun _ => M) (fun i => ∀ j : Nat, (j : Int) < i → L.getD j 0 = L2.getD j 0) 0 (if L2.length < L.length then L2.length else L.length : Nat) (by omega) rfl rfl (fun j hj => by omega) (fun hI => ?_) (fun i h0 h1 hI ih => ?_)
  · refine g5_isLikeSoFar_2 ho ho2 (fun _ => ?_) (fun c => by exfalso; rw [hmin] at c; omega)
    refine g5_isLikeSoFar_38 (kt (fun j h1 h2 => hI j ?_))
    split <;> omega
  · refine g5_isLikeSoFar_2 ho ho2 (fun c => by exfalso; rw [hmin] at c; omega) (fun _ => ?_)
    have hb : i < L.length ∧ i < L2.length := by
      split at h1 <;> omega
    refine g5_isLikeSoFar_17 ho ?_
    refine c5_letterAt ho hl hn hR hc ?_
    rw [if_pos ⟨h0, hb.1⟩]
    refine g5_isLikeSoFar_22 ho2 ?_
    refine c5_letterAt ho2 hl2 hn2 hR2 hc2 ?_
    rw [if_pos ⟨h0, hb.2⟩]
    refine g5_isLikeSoFar_27 (fun c => ?_) (fun c => ?_)
    · refine g5_isLikeSoFar_32 (by omega) ?_
      refine ih (fun j hj => ?_)
      by_cases hji : (j : Int) < i
      · exact hI j hji
      · rw [show j = i.toNat by omega]
        exact c
    · refine g5_isLikeSoFar_30 (kf (fun h => c (h i.toNat (by omega) (by omega))))
theorem lk_eq {L1 L2 : List Int} (h : L1.length = L2.length) (hk : lk_ L1 L2) : L1 = L2 := by
  apply List.ext_getElem h
  intro i h1 h2
  have := hk i h1 h2
  simpa [List.getD, List.getElem?_eq_getElem h1, List.getElem?_eq_getElem h2] using this
theorem c5_isLike {K : am_K} {M : am_M} {Q : Option am_V → am_M → Prop} {o lt z o2 lt2 z2 : Int} {n n2 : Nat} {q q2 : List Int} {L L2 : List Int} (ho : am_kd K o = some (5, 2, [lt, z])) (hl : am_kd K lt = some (11, n, q)) (hn : (n : Int) ≤ 100000) (hR : rw_ M o lt L) (ho2 : am_kd K o2 = some (5, 2, [lt2, z2])) (hl2 : am_kd K lt2 = some (11, n2, q2)) (hn2 : (n2 : Int) ≤ 100000) (hR2 : rw_ M o2 lt2 L2) (hc : (L.length : Int) ≤ n) (hc2 : (L2.length : Int) ≤ n2) (k : Q (some (vi (if L = L2 then 1 else 0))) M) : am_CallN m5_isLike [vr o, vr o2] K M Q := by
  refine am_callN_of (by decide +kernel) rfl rfl (Nat.le_of_ble_eq_true rfl) ?_
  refine g5_isLike_0 ho ho2 (fun c => ?_) (fun c => ?_)
  · refine g5_isLike_23 ?_
    refine g5_isLike_24 (by omega) ?_
    have : ¬ L = L2 := fun h => c (by rw [hR.1, hR2.1, h])
    rw [if_neg this] at k
    exact k
  · rw [hR.1, hR2.1] at c
    refine g5_isLike_11 ho ?_
    refine c5_isLikeSoFar ho hl hn hR ho2 hl2 hn2 hR2 hc hc2 (fun h => ?_) (fun h => ?_)
    · refine g5_isLike_16 (fun c => by exfalso; omega) (fun _ => ?_)
      refine g5_isLike_19 ?_
      refine g5_isLike_24 (by omega) ?_
      rw [if_pos (lk_eq (by omega) h)] at k
      exact k
    · refine g5_isLike_16 (fun _ => ?_) (fun c => by exfalso; omega)
      refine g5_isLike_23 ?_
      refine g5_isLike_24 (by omega) ?_
      have : ¬ L = L2 := fun e => h (by rw [e]; exact fun _ _ _ => rfl)
      rw [if_neg this] at k
      exact k
/-- along a row -/
def wk (N : Int → Int → Int) (p : Int) : List Int → Int
  | [] => p
  | x :: l => wk N (N p x) l
theorem wk_app {N : Int → Int → Int} : ∀ (l : List Int) (p x : Int), wk N p (l ++ [x]) = N (wk N p l) x
  | [], _, _ => rfl
  | y :: l, p, x => wk_app l (N p y) x
theorem take_s {L : List Int} {i : Int} (h0 : 0 ≤ i) (h1 : i < L.length) : L.take (i + 1).toNat = L.take i.toNat ++ [L.getD i.toNat 0] := by
  have hlt : i.toNat < L.length := by omega
  rw [show (i + 1).toNat = i.toNat + 1 by omega, List.take_add_one]
  simp [List.getD, List.getElem?_eq_getElem hlt]
theorem getD_mem {L : List Int} {i : Int} (h0 : 0 ≤ i) (h1 : i < L.length) : L.getD i.toNat 0 ∈ L := by
  have hlt : i.toNat < L.length := by omega
  simp [List.getD, List.getElem?_eq_getElem hlt]
theorem wk_rng {N : Int → Int → Int} (hN : ∀ p x : Int, 0 ≤ p ∧ p < 6 → 0 ≤ x ∧ x < 4 → 0 ≤ N p x ∧ N p x < 6) : ∀ (l : List Int) (p : Int), (∀ x ∈ l, 0 ≤ x ∧ x < 4) → 0 ≤ p ∧ p < 6 → 0 ≤ wk N p l ∧ wk N p l < 6
  | [], _, _, hp => hp
  | x :: l, p, hl, hp => wk_rng hN l (N p x) (fun y hy => hl y (List.mem_cons_of_mem _ hy)) (hN p x hp (hl x List.mem_cons_self))

theorem c5_walkedBy {K : am_K} {M : am_M} {Q : Option am_V → am_M → Prop} {o lt z : Int} {n : Nat} {q : List Int} {L : List Int} (ho : am_kd K o = some (5, 2, [lt, z])) (hl : am_kd K lt = some (11, n, q)) (hn : (n : Int) ≤ 100000) (hR : rw_ M o lt L) {s nx hd : Int} (hs : am_kd K s = some (6, 2, [nx, hd])) (hsn : am_kd K nx = some (11, 24, [])) (hsh : am_kd K hd = some (11, 6, [])) (hc : (L.length : Int) ≤ n) (hN : ∀ j : Int, 0 ≤ j → j < 24 → 0 ≤ M nx j ∧ M nx j < 6) (hL : ∀ x ∈ L, 0 ≤ x ∧ x < 4) (k : Q (some (vi (wk (fun p x => M nx (p * 4 + x)) 0 L))) M) : am_CallN m5_walkedBy [vr o, vr s] K M Q := by
  have hN' : ∀ p x : Int, 0 ≤ p ∧ p < 6 → 0 ≤ x ∧ x < 4 → 0 ≤ M nx (p * 4 + x) ∧ M nx (p * 4 + x) < 6 := fun p x hp hx => hN _ (by omega) (by omega)
  refine am_callN_of (by decide +kernel) rfl rfl (Nat.le_of_ble_eq_true rfl) ?_
  refine g5_walkedBy_0 ?_
  refine am_for (fun i => [some (vr o), some (vr s), some (vi (wk (fun p x => M nx (p * 4 + x)) 0 (L.take i.toNat))), some (vi i)]) (fun _ => M) 0 L.length (by omega) rfl rfl ?_ (fun i h0 h1 ih => ?_)
  · refine g5_walkedBy_4 ho (fun _ => ?_) (fun c => by exfalso; rw [hR.1] at c; omega)
    refine g5_walkedBy_29 ?_
    rw [Int.toNat_natCast, List.take_length]
    exact k
  · refine g5_walkedBy_4 ho (fun c => by exfalso; rw [hR.1] at c; omega) (fun _ => ?_)
    refine g5_walkedBy_12 ho ?_
    refine c5_letterAt ho hl hn hR hc ?_
    rw [if_pos ⟨h0, h1⟩]
    refine g5_walkedBy_19 hs ?_
    refine c6_nextOf hs hsn hsh (wk_rng hN' _ _ (fun x hx => hL x (List.mem_of_mem_take hx)) (by omega)) (hL _ (getD_mem h0 h1)) ?_
    refine g5_walkedBy_22 (by omega) ?_
    rw [take_s h0 h1, wk_app] at ih
    exact ih
/-- what a program writes along a row from spot sp on: the letters, the spot behind them -/
def wt (MV WD : Int → Int → Int) (sp : Int) : List Int → List Int
  | [] => []
  | x :: l => wl (WD sp x) ++ wt MV WD (MV sp x) l
theorem wt_app {MV WD : Int → Int → Int} : ∀ (l : List Int) (sp x : Int), wt MV WD sp (l ++ [x]) = wt MV WD sp l ++ wl (WD (wk MV sp l) x)
  | [], sp, x => by simp [wt, wk]
  | y :: l, sp, x => by
    show wl (WD sp y) ++ wt MV WD (MV sp y) (l ++ [x]) = (wl (WD sp y) ++ wt MV WD (MV sp y) l) ++ wl (WD (wk MV (MV sp y) l) x)
    rw [wt_app l (MV sp y) x, List.append_assoc]
theorem wl_len (w : Int) : (wl w).length ≤ 2 := by
  unfold wl
  (repeat' split) <;> simp
theorem wt_len {MV WD : Int → Int → Int} : ∀ (l : List Int) (sp : Int), (wt MV WD sp l).length ≤ 2 * l.length
  | [], _ => by simp [wt]
  | x :: l, sp => by
    have h1 := wt_len (MV := MV) (WD := WD) l (MV sp x)
    have h2 := wl_len (WD sp x)
    simp only [wt, List.length_append, List.length_cons]
    omega

theorem c4_rewrite {K : am_K} {M : am_M} {Q : Option am_V → am_M → Prop} {o lt z o2 lt2 z2 : Int} {n n2 : Nat} {q q2 : List Int} {L : List Int} (ho : am_kd K o = some (5, 2, [lt, z])) (hl : am_kd K lt = some (11, n, q)) (hn : (n : Int) ≤ 100000) (hR : rw_ M o lt L) (ho2 : am_kd K o2 = some (5, 2, [lt2, z2])) (hl2 : am_kd K lt2 = some (11, n2, q2)) (hn2 : (n2 : Int) ≤ 100000) {p nx wd en : Int} (hp : am_kd K p = some (4, 3, [nx, wd, en])) (hpn : am_kd K nx = some (11, 24, [])) (hpw : am_kd K wd = some (11, 24, [])) (hpe : am_kd K en = some (11, 6, [])) (h12 : o ≠ o2) (hl12 : lt ≠ lt2) (hpd : (nx ≠ lt2 ∧ wd ≠ lt2 ∧ en ≠ lt2)) (hc : (L.length : Int) ≤ n) (hc2 : 2 * (L.length : Int) + 2 ≤ n2)
    (hN : ∀ j : Int, 0 ≤ j → j < 24 → 0 ≤ M nx j ∧ M nx j < 6) (hW : ∀ s x : Int, 0 ≤ s ∧ s < 6 → x ∈ L → -1 ≤ M wd (s * 4 + x) ∧ M wd (s * 4 + x) ≤ 20) (hE : ∀ j : Int, 0 ≤ j → j < 6 → -1 ≤ M en j ∧ M en j ≤ 20) (hL : ∀ x ∈ L, 0 ≤ x ∧ x < 4)
    (k0 : M en (wk (fun s x => M nx (s * 4 + x)) 0 L) = -1 → ∀ M', rw_ M' o2 lt2 (wt (fun s x => M nx (s * 4 + x)) (fun s x => M wd (s * 4 + x)) 0 L) → off2 M M' o2 lt2 → Q (some (vi 0)) M')
    (k1 : M en (wk (fun s x => M nx (s * 4 + x)) 0 L) ≠ -1 → ∀ M', rw_ M' o2 lt2 (wt (fun s x => M nx (s * 4 + x)) (fun s x => M wd (s * 4 + x)) 0 L ++ wl (M en (wk (fun s x => M nx (s * 4 + x)) 0 L))) → off2 M M' o2 lt2 → Q (some (vi 1)) M') : am_CallN m4_rewrite [vr p, vr o, vr o2] K M Q := by
  have hne1 : o ≠ lt2 := am_kne ho hl2 (by simp)
  have hne2 : o2 ≠ lt := am_kne ho2 hl (by simp)
  have d1 : nx ≠ o2 := am_kne hpn ho2 (by simp)
  have d2 : wd ≠ o2 := am_kne hpw ho2 (by simp)
  have d3 : en ≠ o2 := am_kne hpe ho2 (by simp)
  have hN' : ∀ p x : Int, 0 ≤ p ∧ p < 6 → 0 ≤ x ∧ x < 4 → 0 ≤ M nx (p * 4 + x) ∧ M nx (p * 4 + x) < 6 := fun p x hp hx => hN _ (by omega) (by omega)
  have hwk : ∀ i : Nat, 0 ≤ wk (fun s x => M nx (s * 4 + x)) 0 (L.take i) ∧ wk (fun s x => M nx (s * 4 + x)) 0 (L.take i) < 6 := fun i => wk_rng hN' _ _ (fun x hx => hL x (List.mem_of_mem_take hx)) (by omega)
  refine am_callN_of (by decide +kernel) rfl rfl (Nat.le_of_ble_eq_true rfl) ?_
  refine g4_rewrite_0 ho2 ?_
  refine c5_empty ho2 ?_
  refine g4_rewrite_4 ?_
  refine am_forR (fun i ls M' => ls = [some (vr p), some (vr o), some (vr o2), some (vi (wk (fun s x => M nx (s * 4 + x)) 0 (L.take i.toNat))), some (vi i), none] ∧ rw_ M' o2 lt2 (wt (fun s x => M nx (s * 4 + x)) (fun s x => M wd (s * 4 + x)) 0 (L.take i.toNat)) ∧ off2 M M' o2 lt2) 0 L.length (by omega) ⟨rfl, by simpa [wt] using (rw_up0 (M := M) (o := o2) (lt := lt2)).1, rw_up0.2⟩ ?_ ?_
  · rintro ls M1 ⟨rfl, h1, h2⟩
    have hR' := hR.of h2 h12 hne1 hne2.symm hl12
    have hw0 := hwk L.length
    rw [Int.toNat_natCast, List.take_length] at h1 ⊢
    rw [List.take_length] at hw0
    have ee : M1 en (wk (fun s x => M nx (s * 4 + x)) 0 L) = M en (wk (fun s x => M nx (s * 4 + x)) 0 L) := h2 _ _ d3 hpd.2.2
    have hEb := hE _ hw0.1 hw0.2
    have hlen := wt_len (MV := fun s x => M nx (s * 4 + x)) (WD := fun s x => M wd (s * 4 + x)) L 0
    refine g4_rewrite_9 ho ?_
    refine c5_size ho hl hn hR' ?_
    refine g4_rewrite_15 (fun _ => ?_) (fun c => by exfalso; omega)
    refine g4_rewrite_51 hp ?_
    refine c4_endOf hp hpn hpw hpe hw0 ?_
    refine g4_rewrite_56 (fun c => ?_) (fun c => ?_)
    · rw [ee] at c
      refine g4_rewrite_62 hp ?_
      refine c4_endOf hp hpn hpw hpe hw0 ?_
      refine g4_rewrite_68 ho2 ?_
      refine c5_addWord ho2 hl2 hn2 h1 (by rw [ee]; exact hEb) (by omega) (fun M2 hR2 hf2 => ?_)
      rw [ee] at hR2
      exact g4_rewrite_71 (k1 c M2 hR2 (h2.tr hf2))
    · rw [ee] at c
      exact g4_rewrite_60 (k0 c M1 h1 h2)
  · rintro i ls M1 h0 h1 ⟨rfl, h3, h4⟩ ih
    have hR' := hR.of h4 h12 hne1 hne2.symm hl12
    have hx := hL _ (getD_mem h0 h1)
    have hw0 := hwk i.toNat
    have e1 : M1 wd (wk (fun s x => M nx (s * 4 + x)) 0 (L.take i.toNat) * 4 + L.getD i.toNat 0) = M wd (wk (fun s x => M nx (s * 4 + x)) 0 (L.take i.toNat) * 4 + L.getD i.toNat 0) := h4 _ _ d2 hpd.2.1
    have hWb := hW _ _ hw0 (getD_mem h0 h1)
    have hlen := wt_len (MV := fun s x => M nx (s * 4 + x)) (WD := fun s x => M wd (s * 4 + x)) (L.take i.toNat) 0
    have hlen2 : (L.take i.toNat).length ≤ i.toNat := by rw [List.length_take]; exact Nat.min_le_left _ _
    refine g4_rewrite_9 ho ?_
    refine c5_size ho hl hn hR' ?_
    refine g4_rewrite_15 (fun c => by exfalso; omega) (fun _ => ?_)
    refine g4_rewrite_18 ho ?_
    refine c5_letterAt ho hl hn hR' hc ?_
    rw [if_pos ⟨h0, h1⟩]
    refine g4_rewrite_24 hp ?_
    refine c4_wordOf hp hpn hpw hpe hw0 hx ?_
    refine g4_rewrite_34 ho2 ?_
    refine c5_addWord ho2 hl2 hn2 h3 (by rw [e1]; exact hWb) (by omega) (fun M2 hR2 hf2 => ?_)
    rw [e1] at hR2
    have e2 : M2 nx (wk (fun s x => M nx (s * 4 + x)) 0 (L.take i.toNat) * 4 + L.getD i.toNat 0) = M nx (wk (fun s x => M nx (s * 4 + x)) 0 (L.take i.toNat) * 4 + L.getD i.toNat 0) := (h4.tr hf2) _ _ d1 hpd.1
    refine g4_rewrite_37 hp ?_
    refine c4_nextOf hp hpn hpw hpe hw0 hx ?_
    rw [e2]
    refine g4_rewrite_44 (by omega) ?_
    refine ih _ M2 ⟨?_, ?_, h4.tr hf2⟩
    · rw [take_s h0 h1, wk_app]
    · rw [take_s h0 h1, wt_app]
      exact hR2
