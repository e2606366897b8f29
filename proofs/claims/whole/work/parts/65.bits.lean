/-! ===== Int32 by its bits (a family of the kit's, given for pasting) ===== -/
def bt (x : Int32) (i : Nat) : Bool := x.toBitVec.getLsbD i
theorem b_ext {x y : Int32} (h : ∀ i, i < 32 → bt x i = bt y i) : x = y := Int32.toBitVec_inj.mp (BitVec.eq_of_getLsbD_eq (fun i hi => h i hi))
theorem b_or (x y : Int32) (i : Nat) : bt (x ||| y) i = (bt x i || bt y i) := by unfold bt; rw [Int32.toBitVec_or, BitVec.getLsbD_or]
theorem b_and (x y : Int32) (i : Nat) : bt (x &&& y) i = (bt x i && bt y i) := by unfold bt; rw [Int32.toBitVec_and, BitVec.getLsbD_and]
theorem b_xor (x y : Int32) (i : Nat) : bt (x ^^^ y) i = (bt x i ^^ bt y i) := by unfold bt; rw [Int32.toBitVec_xor, BitVec.getLsbD_xor]
theorem b_big {x : Int32} {i : Nat} (h : 32 ≤ i) : bt x i = false := BitVec.getLsbD_of_ge _ _ h
theorem b_255 (i : Nat) : bt 255 i = decide (i < 8) := by
  rcases Nat.lt_or_ge i 32 with h | h
  · exact (by decide +kernel : ∀ i, i < 32 → bt 255 i = decide (i < 8)) i h
  · rw [b_big h, decide_eq_false (by omega)]
theorem b_65535 (i : Nat) : bt 65535 i = decide (i < 16) := by
  rcases Nat.lt_or_ge i 32 with h | h
  · exact (by decide +kernel : ∀ i, i < 32 → bt 65535 i = decide (i < 16)) i h
  · rw [b_big h, decide_eq_false (by omega)]
theorem b_m1 : ∀ i, i < 32 → bt (-1) i = true := by decide +kernel
theorem b_0 (i : Nat) : bt 0 i = false := BitVec.getLsbD_zero
theorem s_l : ∀ n, n < 32 → ((nI n &&& 31).toBitVec.smod 32).toNat = n := by decide +kernel
theorem s_u : ∀ n, n < 32 → (((nI n).toUInt32 &&& Int32.toUInt32 31).toBitVec % 32).toNat = n := by decide +kernel
theorem b_shl (n : Nat) (hn : n < 32) (x : Int32) {i : Nat} (hi : i < 32) : bt (x <<< (nI n &&& 31)) i = (decide (n ≤ i) && bt x (i - n)) := by
  unfold bt
  rw [Int32.toBitVec_shiftLeft]
  show (x.toBitVec <<< ((nI n &&& 31).toBitVec.smod 32).toNat).getLsbD i = _
  rw [s_l n hn, BitVec.getLsbD_shiftLeft]
  rcases Nat.lt_or_ge i n with h | h
  · simp [h, Nat.not_le.mpr h]
  · simp [hi, h, Nat.not_lt.mpr h]
theorem b_ushr (n : Nat) (hn : n < 32) (x : Int32) (i : Nat) : bt ((x.toUInt32 >>> ((nI n).toUInt32 &&& Int32.toUInt32 31)).toInt32) i = bt x (n + i) := by
  show (x.toUInt32 >>> ((nI n).toUInt32 &&& Int32.toUInt32 31)).toBitVec.getLsbD i = x.toUInt32.toBitVec.getLsbD (n + i)
  rw [UInt32.toBitVec_shiftRight]
  show (x.toUInt32.toBitVec >>> (((nI n).toUInt32 &&& Int32.toUInt32 31).toBitVec % 32).toNat).getLsbD i = _
  rw [s_u n hn, BitVec.getLsbD_ushiftRight]
theorem b_sshr (n : Nat) (hn : n < 32) (x : Int32) {i : Nat} (hi : i < 32) : bt (x >>> (nI n &&& 31)) i = if n + i < 32 then bt x (n + i) else bt x 31 := by
  unfold bt
  rw [Int32.toBitVec_shiftRight]
  show (x.toBitVec.sshiftRight ((nI n &&& 31).toBitVec.smod 32).toNat).getLsbD i = _
  rw [s_l n hn, BitVec.getLsbD_sshiftRight, BitVec.msb_eq_getLsbD_last]
  simp [hi]
/-! ===== two bits of a word ===== -/
theorem b_3 (i : Nat) : bt 3 i = decide (i < 2) := by
  rcases Nat.lt_or_ge i 32 with h | h
  · exact (by decide +kernel : ∀ i, i < 32 → bt 3 i = decide (i < 2)) i h
  · rw [b_big h, decide_eq_false (by omega)]
def gw (w : Int32) (n : Nat) : Int32 := (w >>> (nI n &&& 31)) &&& 3
def pw (w : Int32) (n : Nat) (c : Int32) : Int32 := (w &&& ((3 <<< (nI n &&& 31)) ^^^ (-1))) ||| ((c &&& 3) <<< (nI n &&& 31))
theorem gw_b {w : Int32} {n : Nat} (hn : n ≤ 30) {i : Nat} (hi : i < 32) : bt (gw w n) i = (decide (i < 2) && bt w (n + i)) := by
  unfold gw
  rw [b_and, b_3, b_sshr n (by omega) w hi]
  by_cases h : i < 2
  · rw [if_pos (by omega)]
    simp [h]
  · simp [h]
theorem pw_b {w c : Int32} {n : Nat} (hn : n ≤ 30) {i : Nat} (hi : i < 32) : bt (pw w n c) i = ((bt w i && !(decide (n ≤ i) && decide (i - n < 2))) || (decide (n ≤ i) && (bt c (i - n) && decide (i - n < 2)))) := by
  unfold pw
  rw [b_or, b_and, b_xor, b_m1 i hi, b_shl n (by omega) 3 hi, b_shl n (by omega) (c &&& 3) hi, b_and, b_3]
  simp
theorem gw_hit {w c : Int32} {n : Nat} (hn : n ≤ 30) : gw (pw w n c) n = c &&& 3 := by
  refine b_ext (fun i hi => ?_)
  rw [gw_b hn hi, b_and, b_3]
  by_cases h : i < 2
  · rw [pw_b hn (by omega)]
    simp [h]
  · simp [h]
theorem gw_miss {w c : Int32} {n m : Nat} (hn : n ≤ 30) (hm : m ≤ 30) (h2 : n % 2 = 0) (h2' : m % 2 = 0) (hne : n ≠ m) : gw (pw w n c) m = gw w m := by
  refine b_ext (fun i hi => ?_)
  rw [gw_b hm hi, gw_b hm hi]
  by_cases h : i < 2
  · rw [pw_b hn (by omega)]
    by_cases h3 : n ≤ m + i
    · have h4 : ¬ m + i - n < 2 := by omega
      simp [h3, h4]
    · simp [h3]
  · simp [h]

/-! ===== programs that agree: the class, the letters of a lead ===== -/
def gl (M : am_M) (st i : Int) : Int := (Int32.ofInt ((Int32.ofInt (M 79 ((st * 5) + (i / 16))) >>> (Int32.ofInt ((i % 16) * 2) &&& 31)).toInt) &&& Int32.ofInt 3).toInt
def pl (M : am_M) (st i c : Int) : am_M := am_up M 79 ((st * 5) + (i / 16)) ((Int32.ofInt ((Int32.ofInt (M 79 ((st * 5) + (i / 16))) &&& Int32.ofInt ((Int32.ofInt ((Int32.ofInt 3 <<< (Int32.ofInt ((i % 16) * 2) &&& 31)).toInt) ^^^ Int32.ofInt (-1)).toInt)).toInt) ||| Int32.ofInt ((Int32.ofInt ((Int32.ofInt c &&& Int32.ofInt 3).toInt) <<< (Int32.ofInt ((i % 16) * 2) &&& 31)).toInt)).toInt)
theorem sh_n (i : Int) : Int32.ofInt ((i % 16) * 2) = nI (2 * (i % 16).toNat) := by
  have : (i % 16) * 2 = ((2 * (i % 16).toNat : Nat) : Int) := by omega
  rw [this]
  exact Int32.ofInt_eq_ofNat
theorem gl_eq (M : am_M) (st i : Int) : gl M st i = (gw (Int32.ofInt (M 79 ((st * 5) + (i / 16)))) (2 * (i % 16).toNat)).toInt := by
  unfold gl gw
  rw [Int32.ofInt_toInt, sh_n]
  rfl
theorem pl_eq (M : am_M) (st i c : Int) : pl M st i c = am_up M 79 ((st * 5) + (i / 16)) (pw (Int32.ofInt (M 79 ((st * 5) + (i / 16)))) (2 * (i % 16).toNat) (Int32.ofInt c)).toInt := by
  unfold pl pw
  simp only [Int32.ofInt_toInt, sh_n]
  rfl
theorem gl_of {M M' : am_M} (h : ∀ j : Int, M' 79 j = M 79 j) (st i : Int) : gl M' st i = gl M st i := by
  unfold gl
  rw [h]
theorem c3_and : ∀ c : Int, 0 ≤ c ∧ c < 4 → (Int32.ofInt c &&& 3).toInt = c := by
  intro c hc
  have : c = 0 ∨ c = 1 ∨ c = 2 ∨ c = 3 := by omega
  rcases this with rfl | rfl | rfl | rfl <;> decide +kernel
theorem gl_hit {M : am_M} {st i c : Int} (hc : 0 ≤ c ∧ c < 4) : gl (pl M st i c) st i = c := by
  rw [pl_eq, gl_eq, am_up_hit, Int32.ofInt_toInt, gw_hit (by omega)]
  exact c3_and c hc
theorem gl_miss {M : am_M} {st i c st' j : Int} (hi : 0 ≤ i ∧ i < 72) (hj : 0 ≤ j ∧ j < 72) (h : st' ≠ st ∨ j ≠ i) : gl (pl M st i c) st' j = gl M st' j := by
  rw [pl_eq, gl_eq, gl_eq]
  by_cases e : st' * 5 + j / 16 = st * 5 + i / 16
  · rw [e, am_up_hit, Int32.ofInt_toInt, gw_miss (by omega) (by omega) (by omega) (by omega) (by omega)]
  · rw [am_upn (Or.inr e)]
theorem pl_o {M : am_M} {st i c b j : Int} (h : b ≠ 79) : pl M st i c b j = M b j := am_upn (Or.inl h)
section
variable {M : am_M} {Q : Option am_V → am_M → Prop} {g : Gd}
theorem c0_leadLetter {st i : Int} (hs : 0 ≤ st ∧ st < 216) (hi : 0 ≤ i ∧ i < 72) (k : Q (some (vi (gl M st i))) M) : am_CallN m0_leadLetter [vr 75, vi st, vi i] KS M Q := by
  refine am_callN_of (by decide +kernel) rfl rfl (Nat.le_of_ble_eq_true rfl) ?_
  refine g0_leadLetter_0 ?_
  refine c8_in hs ?_
  refine g0_leadLetter_7 (fun c => by exfalso; omega) (fun _ => ?_)
  refine g0_leadLetter_10 ?_
  refine c8_in hi ?_
  refine g0_leadLetter_16 (fun _ => ?_) (fun c => by exfalso; omega)
  exact g0_leadLetter_21 (by omega) (by omega) (by omega) (by omega) (by omega) (by omega) (by omega) k
theorem c0_putLeadLetter {st i c : Int} (hs : 0 ≤ st ∧ st < 216) (hi : 0 ≤ i ∧ i < 72) (k : Q none (pl M st i c)) : am_CallN m0_putLeadLetter [vr 75, vi st, vi i, vi c] KS M Q := by
  refine am_callN_of (by decide +kernel) rfl rfl (Nat.le_of_ble_eq_true rfl) ?_
  refine g0_putLeadLetter_0 ?_
  refine c8_in hs ?_
  refine g0_putLeadLetter_7 (fun c => by exfalso; omega) (fun _ => ?_)
  refine g0_putLeadLetter_10 ?_
  refine c8_in hi ?_
  refine g0_putLeadLetter_16 (fun _ => ?_) (fun c => by exfalso; omega)
  exact g0_putLeadLetter_20 (by omega) (by omega) (by omega) (by omega) (by omega) (by omega) (by omega) (by omega) (by omega) k
def LD (M : am_M) (st : Int) (l : List Int × List Int) : Prop := M 78 st = (l.1.length : Int) - l.2.length ∧ (l.1 = [] ∨ l.2 = []) ∧ (l.1 ++ l.2).length ≤ 72 ∧ ∀ i : Nat, i < (l.1 ++ l.2).length → gl M st i = (l.1 ++ l.2).getD i 0
theorem LD.of {M M' : am_M} {st : Int} {l : List Int × List Int} (h : LD M st l) (h78 : M' 78 st = M 78 st) (h79 : ∀ j : Int, M' 79 j = M 79 j) : LD M' st l := ⟨by rw [h78]; exact h.1, h.2.1, h.2.2.1, fun i hi => by rw [gl_of h79]; exact h.2.2.2 i hi⟩
theorem LD.abs {M : am_M} {st : Int} {l : List Int × List Int} (h : LD M st l) : (if 0 ≤ M 78 st then M 78 st else -(M 78 st)) = ((l.1 ++ l.2).length : Int) := by
  rw [h.1, List.length_append]
  rcases h.2.1 with h1 | h1
  · rw [h1]
    simp only [List.length_nil]
    split <;> omega
  · rw [h1]
    simp only [List.length_nil]
    split <;> omega
def fF (M M' : am_M) : Prop := ∀ b j : Int, b ≠ 81 → b ≠ 83 → b ≠ 80 → b ≠ 82 → M' b j = M b j
theorem fF.rf {M : am_M} : fF M M := fun _ _ _ _ _ _ => rfl
theorem fF.tr {M M' M'' : am_M} (h : fF M M') (h' : fF M' M'') : fF M M'' := fun b j h1 h2 h3 h4 => (h' b j h1 h2 h3 h4).trans (h b j h1 h2 h3 h4)
theorem fF.a {M M' : am_M} (h : fF M M') : fA M M' := fun b j _ _ _ _ h5 h6 _ h8 h9 => h b j h5 h6 h8 h9
theorem n0_fetch {st o lt : Int} {w : List Int} (ho : am_kd KS o = some (5, 2, [lt, -1])) (hl : am_kd KS lt = some (11, 74, [])) (hn : (o ≠ 78 ∧ o ≠ 79) ∧ lt ≠ 78 ∧ lt ≠ 79) (hs : 0 ≤ st ∧ st < 216) (hw : (if 0 ≤ M 78 st then M 78 st else -(M 78 st)) = (w.length : Int)) (hlo : -1000 ≤ M 78 st) (hg : ∀ i : Nat, i < w.length → gl M st i = w.getD i 0) (h72 : w.length ≤ 72) (hr : rw_ M o lt []) (k : ∀ M', rw_ M' o lt w → off2 M M' o lt → Q none M') : am_AtN m0_fetch 56 [some (vr 75), some (vi st), none, none] [vr o] KS M Q := by
  refine g0_fetch_56 ?_
  refine am_forR (fun i ls M' => ls = [some (vr 75), some (vi st), some (vr o), some (vi i)] ∧ rw_ M' o lt (w.take i.toNat) ∧ off2 M M' o lt) 0 w.length (by omega) ⟨rfl, hr, off2.rf⟩ ?_ ?_
  · rintro ls M' ⟨rfl, hr', hf'⟩
    have e78 : M' 78 st = M 78 st := hf' 78 st (fun h => hn.1.1 h.symm) (fun h => hn.2.1 h.symm)
    refine g0_fetch_59 hs.1 hs.2 (by omega) (fun _ => ?_) (fun c => by exfalso; rw [e78, hw] at c; omega)
    refine g0_fetch_88 (k M' ?_ hf')
    rw [show ((w.length : Int)).toNat = w.length by omega, List.take_of_length_le (Nat.le_refl _)] at hr'
    exact hr'
  · rintro i ls M' hi0 hi1 ⟨rfl, hr', hf'⟩ ih
    have e78 : M' 78 st = M 78 st := hf' 78 st (fun h => hn.1.1 h.symm) (fun h => hn.2.1 h.symm)
    have eg : gl M' st i = w.getD i.toNat 0 := by
      rw [gl_of (fun j => hf' 79 j (fun h => hn.1.2 h.symm) (fun h => hn.2.2 h.symm))]
      have := hg i.toNat (by omega)
      rw [show ((i.toNat : Nat) : Int) = i by omega] at this
      exact this
    refine g0_fetch_59 hs.1 hs.2 (by omega) (fun c => by exfalso; rw [e78, hw] at c; omega) (fun _ => ?_)
    refine g0_fetch_72 ?_
    refine c0_leadLetter hs ⟨hi0, by omega⟩ ?_
    refine g0_fetch_79 ho ?_
    rw [eg]
    refine c5_add ho hl (by omega) hr' (by rw [List.length_take]; omega) (fun M2 hr2 hf2 => ?_)
    refine g0_fetch_82 (by omega) ?_
    refine ih _ M2 ⟨rfl, ?_, hf'.tr hf2⟩
    rw [take_s hi0 hi1]
    exact hr2
theorem c0_fetch {st : Int} {l : List Int × List Int} (hs : 0 ≤ st ∧ st < 216) (h : LD M st l) (k : ∀ M', rw_ M' 80 81 l.1 → rw_ M' 82 83 l.2 → fF M M' → Q none M') : am_CallN m0_fetch [vr 75, vi st] KS M Q := by
  have hlen := h.2.2.1
  rw [List.length_append] at hlen
  refine am_callN_of (by decide +kernel) rfl rfl (Nat.le_of_ble_eq_true rfl) ?_
  refine g0_fetch_0 ?_
  refine c5_empty kd80 ?_
  refine g0_fetch_7 ?_
  refine c5_empty kd82 ?_
  refine g0_fetch_14 ?_
  have hf0 : fF M (am_up (am_up M 80 1 0) 82 1 0) := fun b j h1 h2 h3 h4 => by rw [am_upn (by omega), am_upn (by omega)]
  have e78 : am_up (am_up M 80 1 0) 82 1 0 78 st = M 78 st := by rw [am_upn (Or.inl (by omega)), am_upn (Or.inl (by omega))]
  have e79 : ∀ j : Int, am_up (am_up M 80 1 0) 82 1 0 79 j = M 79 j := fun j => by rw [am_upn (Or.inl (by omega)), am_upn (Or.inl (by omega))]
  have hL0 := h.of e78 e79
  have ha := hL0.abs
  have h1 := h.1
  have hr80 : rw_ (am_up (am_up M 80 1 0) 82 1 0) 80 81 [] := ⟨by rw [am_upn (Or.inl (by omega)), am_up_hit]; rfl, fun i hi => absurd hi (by simp)⟩
  have hr82 : rw_ (am_up (am_up M 80 1 0) 82 1 0) 82 83 [] := ⟨by rw [am_up_hit]; rfl, fun i hi => absurd hi (by simp)⟩
  refine c8_in hs ?_
  refine g0_fetch_21 (fun c => by exfalso; omega) (fun _ => ?_)
  refine g0_fetch_24 hs.1 hs.2 (fun _ => ?_) (fun c => by exfalso; omega)
  refine g0_fetch_36 hs.1 hs.2 (fun c => ?_) (fun c => ?_)
  · rw [e78] at c
    have hl1 : l.1 = [] := by
      rcases h.2.1 with h2 | h2
      · exact h2
      · rw [h2] at h1
        simp only [List.length_nil] at h1
        exact List.eq_nil_of_length_eq_zero (by omega)
    rw [hl1, List.nil_append] at ha
    have hg := hL0.2.2.2
    rw [hl1, List.nil_append] at hg
    refine g0_fetch_52 ?_
    refine n0_fetch kd82 kd83 (by omega) hs ha (by rw [e78]; omega) hg (by rw [hl1] at hlen; simp at hlen; omega) hr82 (fun M' h2 h3 => k M' ?_ h2 (hf0.tr (fun b j h4 h5 h6 h7 => ?_)))
    · rw [hl1]
      exact hr80.of h3 (by omega) (by omega) (by omega) (by omega)
    · exact h3 b j h7 h5
  · rw [e78] at c
    have hl2 : l.2 = [] := by
      rcases h.2.1 with h2 | h2
      · rw [h2] at h1
        simp only [List.length_nil] at h1
        omega
      · exact h2
    rw [hl2, List.append_nil] at ha
    have hg := hL0.2.2.2
    rw [hl2, List.append_nil] at hg
    refine g0_fetch_45 ?_
    refine n0_fetch kd80 kd81 (by omega) hs ha (by rw [e78]; omega) hg (by rw [hl2] at hlen; simp at hlen; omega) hr80 (fun M' h2 h3 => k M' h2 ?_ (hf0.tr (fun b j h4 h5 h6 h7 => ?_)))
    · rw [hl2]
      exact hr82.of h3 (by omega) (by omega) (by omega) (by omega)
    · exact h3 b j h6 h4
end
