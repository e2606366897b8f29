/-! ===== contracts: the shared helpers ===== -/
theorem am_qv {Q : Option am_V → am_M → Prop} {x y : Int} {M : am_M} (h : x = y) (k : Q (some (vi x)) M) : Q (some (vi y)) M := h ▸ k
def wlen (w : Int) : Int := if w < 1 then 0 else if w < 5 then 1 else 2
def wlet (w i : Int) : Int := if w < 5 then w - 1 else if i = 0 then (w - 5) / 4 else (w - 5) % 4
def bit (p : Prop) [Decidable p] : Int := if p then 1 else 0

theorem c8_within {K : am_K} {M : am_M} {Q : Option am_V → am_M → Prop} {a b : Int} (k : Q (some (vi (if 0 ≤ a ∧ a < b then 1 else 0))) M) : am_CallN m8_within [vi a, vi b] K M Q := by
  refine am_callN_of (by decide +kernel) rfl rfl (Nat.le_of_ble_eq_true rfl) ?_
  refine g8_within_0 (fun c1 => ?_) (fun c2 => ?_)
  · first
    | (exfalso; omega)
    | (refine g8_within_13 ?_
       refine g8_within_14 (by first | assumption | omega) ?_
       exact am_qv (by (repeat' split) <;> omega) k)
  · first
    | (exfalso; omega)
    | (refine g8_within_4 (fun c3 => ?_) (fun c4 => ?_)
       · first
         | (exfalso; omega)
         | (refine g8_within_13 ?_
            refine g8_within_14 (by first | assumption | omega) ?_
            exact am_qv (by (repeat' split) <;> omega) k)
       · first
         | (exfalso; omega)
         | (refine g8_within_9 ?_
            refine g8_within_14 (by first | assumption | omega) ?_
            exact am_qv (by (repeat' split) <;> omega) k))

theorem c8_in {K : am_K} {M : am_M} {Q : Option am_V → am_M → Prop} {a b : Int} (h : 0 ≤ a ∧ a < b) (k : Q (some (vi 1)) M) : am_CallN m8_within [vi a, vi b] K M Q := c8_within (by rw [if_pos h]; exact k)
theorem c8_out {K : am_K} {M : am_M} {Q : Option am_V → am_M → Prop} {a b : Int} (h : ¬ (0 ≤ a ∧ a < b)) (k : Q (some (vi 0)) M) : am_CallN m8_within [vi a, vi b] K M Q := c8_within (by rw [if_neg h]; exact k)

theorem c8_oneIf {K : am_K} {M : am_M} {Q : Option am_V → am_M → Prop} {a : Int} (h : a = 0 ∨ a = 1) (k : Q (some (vi a)) M) : am_CallN m8_oneIf [vi a] K M Q := by
  refine am_callN_of (by decide +kernel) rfl rfl (Nat.le_of_ble_eq_true rfl) ?_
  refine g8_oneIf_0 (fun c1 => ?_) (fun c2 => ?_)
  · first
    | (exfalso; omega)
    | (refine g8_oneIf_8 ?_
       refine g8_oneIf_9 ?_
       exact am_qv (by (repeat' split) <;> omega) k)
  · first
    | (exfalso; omega)
    | (refine g8_oneIf_4 ?_
       refine g8_oneIf_9 ?_
       exact am_qv (by (repeat' split) <;> omega) k)

theorem c8_wordLength {K : am_K} {M : am_M} {Q : Option am_V → am_M → Prop} {w : Int} (k : Q (some (vi (wlen w))) M) : am_CallN m8_wordLength [vi w] K M Q := by
  refine am_callN_of (by decide +kernel) rfl rfl (Nat.le_of_ble_eq_true rfl) ?_
  refine g8_wordLength_0 (fun c1 => ?_) (fun c2 => ?_)
  · first
    | (exfalso; omega)
    | (refine g8_wordLength_7 (fun c3 => ?_) (fun c4 => ?_)
       · first
         | (exfalso; omega)
         | (refine g8_wordLength_16 ?_
            refine g8_wordLength_17 ?_
            exact am_qv (by unfold wlen; (repeat' split) <;> omega) k)
       · first
         | (exfalso; omega)
         | (refine g8_wordLength_12 ?_
            refine g8_wordLength_17 ?_
            exact am_qv (by unfold wlen; (repeat' split) <;> omega) k))
  · first
    | (exfalso; omega)
    | (refine g8_wordLength_5 ?_
       exact am_qv (by unfold wlen; (repeat' split) <;> omega) k)

theorem c8_wordLetter {K : am_K} {M : am_M} {Q : Option am_V → am_M → Prop} {w i : Int} (hw : 0 ≤ w ∧ w ≤ 20) (k : Q (some (vi (wlet w i))) M) : am_CallN m8_wordLetter [vi w, vi i] K M Q := by
  refine am_callN_of (by decide +kernel) rfl rfl (Nat.le_of_ble_eq_true rfl) ?_
  refine g8_wordLetter_0 (fun c1 => ?_) (fun c2 => ?_)
  · first
    | (exfalso; omega)
    | (refine g8_wordLetter_9 (fun c3 => ?_) (fun c4 => ?_)
       · first
         | (exfalso; omega)
         | (refine g8_wordLetter_21 (by first | assumption | omega) (by first | assumption | omega) ?_
            refine g8_wordLetter_26 ?_
            exact am_qv (by unfold wlet; (repeat' split) <;> omega) k)
       · first
         | (exfalso; omega)
         | (refine g8_wordLetter_13 (by first | assumption | omega) (by first | assumption | omega) ?_
            refine g8_wordLetter_26 ?_
            exact am_qv (by unfold wlet; (repeat' split) <;> omega) k))
  · first
    | (exfalso; omega)
    | (refine g8_wordLetter_5 (by first | assumption | omega) ?_
       exact am_qv (by unfold wlet; (repeat' split) <;> omega) k)
