/-! ===== claims: what they are, over any tables ===== -/
abbrev Sn : Type := (Int → Int → Int) × (Int → Int)
abbrev Pg : Type := (Int → Int → Int) × (Int → Int → Int) × (Int → Int)
abbrev CD : Type := Sn × Pg × Option Pg × Sn
/-- a word over k letters -/
def wv (k w : Int) : Prop := 0 ≤ w ∧ w ≤ 20 ∧ ∀ x ∈ wl w, 0 ≤ x ∧ x < k
def okS (A : Sn) : Prop := ∀ p x : Int, 0 ≤ p ∧ p < 6 → 0 ≤ x ∧ x < 4 → 0 ≤ A.1 p x ∧ A.1 p x < 6
def okP (k : Int) (P : Pg) : Prop := (∀ s x : Int, 0 ≤ s ∧ s < 6 → 0 ≤ x ∧ x < 4 → 0 ≤ P.1 s x ∧ P.1 s x < 6) ∧ (∀ s x : Int, 0 ≤ s ∧ s < 6 → 0 ≤ x ∧ x < k → wv k (P.2.1 s x)) ∧ ∀ s : Int, 0 ≤ s ∧ s < 6 → P.2.2 s = -1 ∨ wv k (P.2.2 s)
def okC (k : Int) (c : CD) : Prop := (2 ≤ k ∧ k ≤ 4) ∧ okS c.1 ∧ okP k c.2.1 ∧ (∀ P, c.2.2.1 = some P → okP k P) ∧ okS c.2.2.2
def tl (q : Option Pg) (B : Sn) (sp pt w : Int) : Int × Int := match q with
  | none => (sp, aw B.1 pt w)
  | some P => if w < 1 then (sp, pt) else if w < 5 then (P.1 sp (w - 1), aw B.1 pt (P.2.1 sp (w - 1))) else
      (P.1 (P.1 sp ((w - 5) / 4)) ((w - 5) % 4), aw B.1 (aw B.1 pt (P.2.1 sp ((w - 5) / 4))) (P.2.1 (P.1 sp ((w - 5) / 4)) ((w - 5) % 4)))
def af (c : CD) (pl x : Int) : Int := 216 * c.1.1 (pl / 216) x + 36 * c.2.1.1 (pl / 36 % 6) x + 6 * (tl c.2.2.1 c.2.2.2 (pl / 6 % 6) (pl % 6) (c.2.1.2.1 (pl / 36 % 6) x)).1 + (tl c.2.2.1 c.2.2.2 (pl / 6 % 6) (pl % 6) (c.2.1.2.1 (pl / 36 % 6) x)).2
/-- bad by the ends, behind the first program's end -/
def bd2 (q : Option Pg) (B : Sn) (t : Int × Int) : Int := match q with
  | none => if B.2 t.2 = 1 then 0 else 1
  | some P => if P.2.2 t.1 = -1 then 1 else if B.2 (aw B.1 t.2 (P.2.2 t.1)) = 1 then 0 else 1
def bd (c : CD) (pl : Int) : Int := if c.1.2 (pl / 216) = 1 then (if c.2.1.2.2 (pl / 36 % 6) = -1 then 1 else bd2 c.2.2.1 c.2.2.2 (tl c.2.2.1 c.2.2.2 (pl / 6 % 6) (pl % 6) (c.2.1.2.2 (pl / 36 % 6)))) else 0
theorem aw_rng {A : Sn} (h : okS A) {p w : Int} (hp : 0 ≤ p ∧ p < 6) (hw : 0 ≤ w ∧ w ≤ 20) : 0 ≤ aw A.1 p w ∧ aw A.1 p w < 6 := by
  unfold aw
  split
  · exact hp
  · split
    · exact h p (w - 1) hp (by omega)
    · exact h _ _ (h p ((w - 5) / 4) hp (by omega)) (by omega)
theorem wv_1 {k w : Int} (h : wv k w) (h1 : ¬ w < 1) (h5 : w < 5) : 0 ≤ w - 1 ∧ w - 1 < k := by
  have := h.2.2 (w - 1) (by unfold wl; rw [if_neg h1, if_pos h5]; simp)
  exact this
theorem wv_2 {k w : Int} (h : wv k w) (h5 : ¬ w < 5) : (0 ≤ (w - 5) / 4 ∧ (w - 5) / 4 < k) ∧ (0 ≤ (w - 5) % 4 ∧ (w - 5) % 4 < k) := by
  have h1 : ¬ w < 1 := by omega
  exact ⟨h.2.2 _ (by unfold wl; rw [if_neg h1, if_neg h5]; simp), h.2.2 _ (by unfold wl; rw [if_neg h1, if_neg h5]; simp)⟩
theorem tl_rng {k : Int} {q : Option Pg} {B : Sn} (hk : 2 ≤ k ∧ k ≤ 4) (hq : ∀ P, q = some P → okP k P) (hB : okS B) {sp pt w : Int} (hs : 0 ≤ sp ∧ sp < 6) (hp : 0 ≤ pt ∧ pt < 6) (hw : wv k w) :
    (0 ≤ (tl q B sp pt w).1 ∧ (tl q B sp pt w).1 < 6) ∧ (0 ≤ (tl q B sp pt w).2 ∧ (tl q B sp pt w).2 < 6) := by
  unfold tl
  match q, hq with
  | none, _ => exact ⟨hs, aw_rng hB hp ⟨hw.1, hw.2.1⟩⟩
  | some P, hq =>
    have hP := hq P rfl
    dsimp only
    split
    · exact ⟨hs, hp⟩
    · rename_i h1
      split
      · rename_i h5
        have hx := wv_1 hw h1 h5
        have hww := hP.2.1 sp (w - 1) hs hx
        exact ⟨hP.1 sp (w - 1) hs (by omega), aw_rng hB hp ⟨hww.1, hww.2.1⟩⟩
      · rename_i h5
        obtain ⟨hx, hy⟩ := wv_2 hw h5
        have hs1 := hP.1 sp ((w - 5) / 4) hs (by omega)
        have hw1 := hP.2.1 sp ((w - 5) / 4) hs hx
        have hw2 := hP.2.1 _ ((w - 5) % 4) hs1 hy
        exact ⟨hP.1 _ _ hs1 (by omega), aw_rng hB (aw_rng hB hp ⟨hw1.1, hw1.2.1⟩) ⟨hw2.1, hw2.2.1⟩⟩
theorem af_rng {k : Int} {c : CD} (h : okC k c) {pl x : Int} (hp : 0 ≤ pl ∧ pl < 1296) (hx : 0 ≤ x ∧ x < k) : 0 ≤ af c pl x ∧ af c pl x < 1296 := by
  obtain ⟨hk, hA, hP, hq, hB⟩ := h
  have h1 := hA (pl / 216) x (by omega) (by omega)
  have h2 := hP.1 (pl / 36 % 6) x (by omega) (by omega)
  have h3 := tl_rng hk hq hB (sp := pl / 6 % 6) (pt := pl % 6) (by omega) (by omega) (hP.2.1 (pl / 36 % 6) x (by omega) hx)
  unfold af
  omega
theorem bd01 (c : CD) (pl : Int) : bd c pl = 0 ∨ bd c pl = 1 := by
  unfold bd bd2
  split
  · split
    · exact Or.inr rfl
    · split
      · split
        · exact Or.inl rfl
        · exact Or.inr rfl
      · split
        · exact Or.inr rfl
        · split
          · exact Or.inl rfl
          · exact Or.inr rfl
  · exact Or.inl rfl
/-! a sentence's, a program's tables in the memory -/
def isS (M : am_M) (o : Int) (A : Sn) : Prop := ∃ n h : Int, am_kd KS o = some (6, 2, [n, h]) ∧ am_kd KS n = some (11, 24, []) ∧ am_kd KS h = some (11, 6, []) ∧ (∀ p x : Int, 0 ≤ p ∧ p < 6 → 0 ≤ x ∧ x < 4 → M n (p * 4 + x) = A.1 p x) ∧ ∀ p : Int, 0 ≤ p ∧ p < 6 → M h p = A.2 p
def isP (M : am_M) (o : Int) (P : Pg) : Prop := ∃ n w e : Int, am_kd KS o = some (4, 3, [n, w, e]) ∧ am_kd KS n = some (11, 24, []) ∧ am_kd KS w = some (11, 24, []) ∧ am_kd KS e = some (11, 6, []) ∧ (∀ s x : Int, 0 ≤ s ∧ s < 6 → 0 ≤ x ∧ x < 4 → M n (s * 4 + x) = P.1 s x ∧ M w (s * 4 + x) = P.2.1 s x) ∧ ∀ s : Int, 0 ≤ s ∧ s < 6 → M e s = P.2.2 s
theorem kd_ne {K : am_K} {a b : Int} {e e' : am_C} (h : am_kd K a = some e) (h' : am_kd K b = some e') (hne : e ≠ e') : a ≠ b := by
  intro hab
  rw [hab, h'] at h
  exact hne (Option.some.inj h).symm
/-- cells of 24 or 6 ints: tables' cells -/
def tab (a : Int) : Prop := am_kd KS a = some (11, 24, []) ∨ am_kd KS a = some (11, 6, [])
theorem isS.of {M M' : am_M} {o : Int} {A : Sn} (h : isS M o A) (hf : ∀ a j : Int, tab a → M' a j = M a j) : isS M' o A := by
  obtain ⟨n, hh, h1, h2, h3, h4, h5⟩ := h
  exact ⟨n, hh, h1, h2, h3, fun p x hp hx => by rw [hf _ _ (Or.inl h2)]; exact h4 p x hp hx, fun p hp => by rw [hf _ _ (Or.inr h3)]; exact h5 p hp⟩
theorem isP.of {M M' : am_M} {o : Int} {P : Pg} (h : isP M o P) (hf : ∀ a j : Int, tab a → M' a j = M a j) : isP M' o P := by
  obtain ⟨n, w, e, h1, h2, h3, h4, h5, h6⟩ := h
  exact ⟨n, w, e, h1, h2, h3, h4, fun s x hp hx => by rw [hf _ _ (Or.inl h2), hf _ _ (Or.inl h3)]; exact h5 s x hp hx, fun s hp => by rw [hf _ _ (Or.inr h4)]; exact h6 s hp⟩
section CS
variable {M : am_M} {Q : Option am_V → am_M → Prop} {o : Int} {A : Sn} {P : Pg}
theorem isS.kd (h : isS M o A) : ∃ r, am_kd KS o = some (6, 2, r) := by
  obtain ⟨n, hh, h1, -⟩ := h
  exact ⟨_, h1⟩
theorem isP.kd (h : isP M o P) : ∃ r, am_kd KS o = some (4, 3, r) := by
  obtain ⟨n, w, e, h1, -⟩ := h
  exact ⟨_, h1⟩
theorem q6_nextOf {p x : Int} (h : isS M o A) (hp : 0 ≤ p ∧ p < 6) (hx : 0 ≤ x ∧ x < 4) (k : Q (some (vi (A.1 p x))) M) : am_CallN m6_nextOf [vr o, vi p, vi x] KS M Q := by
  obtain ⟨n, hh, h1, h2, h3, h4, h5⟩ := h
  refine c6_nextOf h1 h2 h3 hp hx ?_
  rw [h4 p x hp hx]
  exact k
theorem q6_holdsAt {p : Int} (h : isS M o A) (hp : 0 ≤ p ∧ p < 6) (k : Q (some (vi (if A.2 p = 1 then 1 else 0))) M) : am_CallN m6_holdsAt [vr o, vi p] KS M Q := by
  obtain ⟨n, hh, h1, h2, h3, h4, h5⟩ := h
  refine c6_holdsAt h1 h2 h3 hp ?_
  rw [h5 p hp]
  exact k
theorem q6_afterWord {p w : Int} (h : isS M o A) (hA : okS A) (hp : 0 ≤ p ∧ p < 6) (hw : 0 ≤ w ∧ w ≤ 20) (k : Q (some (vi (aw A.1 p w))) M) : am_CallN m6_afterWord [vr o, vi p, vi w] KS M Q := by
  obtain ⟨n, hh, h1, h2, h3, h4, h5⟩ := h
  refine c6_afterWord (c := 0) h1 h2 h3 hp hw (fun j h0 h24 => ?_) ?_
  · have e := h4 (j / 4) (j % 4) (by omega) (by omega)
    rw [show j / 4 * 4 + j % 4 = j by omega] at e
    rw [e]
    exact hA _ _ (by omega) (by omega)
  · refine am_qv ?_ k
    unfold aw
    split
    · rfl
    · split
      · dsimp only
        rw [h4 p (w - 1) hp (by omega)]
      · have e1 := h4 p ((w - 5) / 4) hp (by omega)
        dsimp only
        rw [e1, h4 _ ((w - 5) % 4) (hA p ((w - 5) / 4) hp (by omega)) (by omega)]
theorem q4_nextOf {s x : Int} (h : isP M o P) (hs : 0 ≤ s ∧ s < 6) (hx : 0 ≤ x ∧ x < 4) (k : Q (some (vi (P.1 s x))) M) : am_CallN m4_nextOf [vr o, vi s, vi x] KS M Q := by
  obtain ⟨n, w, e, h1, h2, h3, h4, h5, h6⟩ := h
  refine c4_nextOf h1 h2 h3 h4 hs hx ?_
  rw [(h5 s x hs hx).1]
  exact k
theorem q4_wordOf {s x : Int} (h : isP M o P) (hs : 0 ≤ s ∧ s < 6) (hx : 0 ≤ x ∧ x < 4) (k : Q (some (vi (P.2.1 s x))) M) : am_CallN m4_wordOf [vr o, vi s, vi x] KS M Q := by
  obtain ⟨n, w, e, h1, h2, h3, h4, h5, h6⟩ := h
  refine c4_wordOf h1 h2 h3 h4 hs hx ?_
  rw [(h5 s x hs hx).2]
  exact k
theorem q4_endOf {s : Int} (h : isP M o P) (hs : 0 ≤ s ∧ s < 6) (k : Q (some (vi (P.2.2 s))) M) : am_CallN m4_endOf [vr o, vi s] KS M Q := by
  obtain ⟨n, w, e, h1, h2, h3, h4, h5, h6⟩ := h
  refine c4_endOf h1 h2 h3 h4 hs ?_
  rw [h6 s hs]
  exact k
end CS
/-- the claim that is stated -/
def clm (M : am_M) (k : Int) (c : CD) : Prop := isS M (M 66 3) c.1 ∧ isP M (M 66 4) c.2.1 ∧ (match c.2.2.1 with | none => M 66 5 = -1 | some P => M 66 5 ≠ -1 ∧ isP M (M 66 5) P) ∧ isS M (M 66 6) c.2.2.2 ∧ M 66 7 = k

theorem c2_tailAfter {M : am_M} {Q : Option am_V → am_M → Prop} {k t w : Int} {c : CD} (hc : clm M k c) (hok : okC k c) (ht : 0 ≤ t ∧ t < 36) (hw : wv k w) (kk : Q (some (vi (6 * (tl c.2.2.1 c.2.2.2 (t / 6) (t % 6) w).1 + (tl c.2.2.1 c.2.2.2 (t / 6) (t % 6) w).2))) M) : am_CallN m2_tailAfter [vr 66, vi t, vi w] KS M Q := by
  obtain ⟨A, P, q, B⟩ := c
  obtain ⟨cA, cP, cq, cB, ck⟩ := hc
  obtain ⟨hk, hA, hP, hq, hB⟩ := hok
  dsimp only at cA cP cq cB kk hA hP hq hB
  obtain ⟨rB, kB⟩ := cB.kd
  have hs : 0 ≤ t / 6 ∧ t / 6 < 6 := by omega
  have hp : 0 ≤ t % 6 ∧ t % 6 < 6 := by omega
  refine am_callN_of (by decide +kernel) rfl rfl (Nat.le_of_ble_eq_true rfl) ?_
  match q, cq, hq, kk with
  | none, cq, hq, kk =>
    refine g2_tailAfter_0 ht.1 ht.1 (fun h => absurd cq h) (fun _ => ?_)
    refine g2_tailAfter_18 (by omega) kB ?_
    have hr := aw_rng hB hp ⟨hw.1, hw.2.1⟩
    refine q6_afterWord cB hB hp ⟨hw.1, hw.2.1⟩ ?_
    refine g2_tailAfter_32 (by omega) ?_
    refine am_qv ?_ kk
    show 6 * (t / 6) + aw B.1 (t % 6) w = _
    omega
  | some P2, cq, hq, kk =>
    have hP2 := hq P2 rfl
    obtain ⟨rQ, kQ⟩ := cq.2.kd
    refine g2_tailAfter_0 ht.1 ht.1 (fun _ => ?_) (fun h => absurd h cq.1)
    refine g2_tailAfter_34 ?_
    refine g2_tailAfter_37 ?_
    refine c8_wordLength ?_
    unfold tl at kk
    dsimp only at kk
    by_cases h1 : w < 1
    · have hl : wlen w = 0 := by unfold wlen; rw [if_pos h1]
      rw [if_pos h1] at kk
      refine g2_tailAfter_43 (fun _ => ?_) (fun c => by exfalso; rw [hl] at c; omega)
      refine g2_tailAfter_92 (by omega) (by omega) ?_
      refine am_qv ?_ kk
      show 6 * (t / 6) + t % 6 = _
      omega
    · by_cases h5 : w < 5
      · have hl : wlen w = 1 := by unfold wlen; rw [if_neg h1, if_pos h5]
        have h0 : wlet w 0 = w - 1 := by unfold wlet; rw [if_pos h5]
        have hx := wv_1 hw h1 h5
        have hw1 := hP2.2.1 (t / 6) (w - 1) hs hx
        have hs1 := hP2.1 (t / 6) (w - 1) hs (by omega)
        have hp1 := aw_rng hB hp ⟨hw1.1, hw1.2.1⟩
        rw [if_neg h1, if_pos h5] at kk
        refine g2_tailAfter_43 (fun c => by exfalso; rw [hl] at c; omega) (fun _ => ?_)
        refine g2_tailAfter_46 ?_
        refine c8_wordLetter ⟨hw.1, hw.2.1⟩ ?_
        rw [h0]
        refine g2_tailAfter_52 kQ ?_
        refine q4_wordOf cq.2 hs (by omega) ?_
        refine g2_tailAfter_70 kB ?_
        refine q6_afterWord cB hB hp ⟨hw1.1, hw1.2.1⟩ ?_
        refine g2_tailAfter_73 kQ ?_
        refine q4_nextOf cq.2 hs (by omega) ?_
        refine g2_tailAfter_85 (by omega) ?_
        refine g2_tailAfter_37 ?_
        refine c8_wordLength ?_
        refine g2_tailAfter_43 (fun _ => ?_) (fun c => by exfalso; rw [hl] at c; omega)
        refine g2_tailAfter_92 (by omega) (by omega) ?_
        refine am_qv ?_ kk
        show 6 * P2.1 (t / 6) (w - 1) + aw B.1 (t % 6) (P2.2.1 (t / 6) (w - 1)) = _
        omega
      · have hl : wlen w = 2 := by unfold wlen; rw [if_neg h1, if_neg h5]
        have h0 : wlet w 0 = (w - 5) / 4 := by unfold wlet; rw [if_neg h5, if_pos rfl]
        have h1' : wlet w (0 + 1) = (w - 5) % 4 := by unfold wlet; rw [if_neg h5, if_neg (by omega)]
        obtain ⟨hx, hy⟩ := wv_2 hw h5
        have hw1 := hP2.2.1 (t / 6) ((w - 5) / 4) hs hx
        have hs1 := hP2.1 (t / 6) ((w - 5) / 4) hs (by omega)
        have hp1 := aw_rng hB hp ⟨hw1.1, hw1.2.1⟩
        have hw2 := hP2.2.1 _ ((w - 5) % 4) hs1 hy
        have hs2 := hP2.1 _ ((w - 5) % 4) hs1 (by omega)
        have hp2 := aw_rng hB hp1 ⟨hw2.1, hw2.2.1⟩
        rw [if_neg h1, if_neg h5] at kk
        refine g2_tailAfter_43 (fun c => by exfalso; rw [hl] at c; omega) (fun _ => ?_)
        refine g2_tailAfter_46 ?_
        refine c8_wordLetter ⟨hw.1, hw.2.1⟩ ?_
        rw [h0]
        refine g2_tailAfter_52 kQ ?_
        refine q4_wordOf cq.2 hs (by omega) ?_
        refine g2_tailAfter_70 kB ?_
        refine q6_afterWord cB hB hp ⟨hw1.1, hw1.2.1⟩ ?_
        refine g2_tailAfter_73 kQ ?_
        refine q4_nextOf cq.2 hs (by omega) ?_
        refine g2_tailAfter_85 (by omega) ?_
        refine g2_tailAfter_37 ?_
        refine c8_wordLength ?_
        refine g2_tailAfter_43 (fun c => by exfalso; rw [hl] at c; omega) (fun _ => ?_)
        refine g2_tailAfter_46 ?_
        refine c8_wordLetter ⟨hw.1, hw.2.1⟩ ?_
        rw [h1']
        refine g2_tailAfter_52 kQ ?_
        refine q4_wordOf cq.2 hs1 (by omega) ?_
        refine g2_tailAfter_70 kB ?_
        refine q6_afterWord cB hB hp1 ⟨hw2.1, hw2.2.1⟩ ?_
        refine g2_tailAfter_73 kQ ?_
        refine q4_nextOf cq.2 hs1 (by omega) ?_
        refine g2_tailAfter_85 (by omega) ?_
        refine g2_tailAfter_37 ?_
        refine c8_wordLength ?_
        refine g2_tailAfter_43 (fun _ => ?_) (fun c => by exfalso; rw [hl] at c; omega)
        refine g2_tailAfter_92 (by omega) (by omega) ?_
        refine am_qv ?_ kk
        show 6 * P2.1 (P2.1 (t / 6) ((w - 5) / 4)) ((w - 5) % 4) + aw B.1 (aw B.1 (t % 6) (P2.2.1 (t / 6) ((w - 5) / 4))) (P2.2.1 (P2.1 (t / 6) ((w - 5) / 4)) ((w - 5) % 4)) = _
        omega
theorem c2_after {M : am_M} {Q : Option am_V → am_M → Prop} {k pl x : Int} {c : CD} (hc : clm M k c) (hok : okC k c) (hp : 0 ≤ pl ∧ pl < 1296) (hx : 0 ≤ x ∧ x < k) (kk : Q (some (vi (af c pl x))) M) : am_CallN m2_after [vr 66, vi pl, vi x] KS M Q := by
  obtain ⟨cA, cP, cq, cB, ck⟩ := id hc
  obtain ⟨hk, hA, hP, hq, hB⟩ := id hok
  obtain ⟨rA, kA⟩ := cA.kd
  obtain ⟨rP, kP⟩ := cP.kd
  have hww := hP.2.1 (pl / 36 % 6) x (by omega) hx
  have e1 : pl % 36 / 6 = pl / 6 % 6 := by omega
  have e2 : pl % 36 % 6 = pl % 6 := by omega
  have h1 := hA (pl / 216) x (by omega) (by omega)
  have h2 := hP.1 (pl / 36 % 6) x (by omega) (by omega)
  have h3 := tl_rng hk hq hB (sp := pl / 6 % 6) (pt := pl % 6) (by omega) (by omega) hww
  refine am_callN_of (by decide +kernel) rfl rfl (Nat.le_of_ble_eq_true rfl) ?_
  refine g2_after_0 hp.1 hp.1 (by omega) hp.1 kP ?_
  refine q4_wordOf cP (by omega) (by omega) ?_
  refine g2_after_30 kd66 ?_
  refine c2_tailAfter hc hok (by omega) hww ?_
  rw [e1, e2]
  refine g2_after_33 kA ?_
  refine q6_nextOf cA (by omega) (by omega) ?_
  refine g2_after_44 (by omega) kP ?_
  refine q4_nextOf cP (by omega) (by omega) ?_
  refine g2_after_58 (by omega) (by omega) (by omega) ?_
  refine am_qv ?_ kk
  unfold af
  omega
theorem c2_isBad {M : am_M} {Q : Option am_V → am_M → Prop} {k pl : Int} {c : CD} (hc : clm M k c) (hok : okC k c) (hp : 0 ≤ pl ∧ pl < 1296) (kk : Q (some (vi (bd c pl))) M) : am_CallN m2_isBad [vr 66, vi pl] KS M Q := by
  obtain ⟨A, P, q, B⟩ := c
  obtain ⟨cA, cP, cq, cB, ck⟩ := id hc
  obtain ⟨hk, hA, hP, hq, hB⟩ := id hok
  dsimp only at cA cP cq cB hA hP hq hB
  obtain ⟨rA, kA⟩ := cA.kd
  obtain ⟨rP, kP⟩ := cP.kd
  obtain ⟨rB, kB⟩ := cB.kd
  have e1 : pl % 36 / 6 = pl / 6 % 6 := by omega
  have e2 : pl % 36 % 6 = pl % 6 := by omega
  refine am_callN_of (by decide +kernel) rfl rfl (Nat.le_of_ble_eq_true rfl) ?_
  refine g2_isBad_0 hp.1 kA ?_
  refine q6_holdsAt cA (by omega) ?_
  by_cases ha : A.2 (pl / 216) = 1
  · rw [if_pos ha]
    unfold bd at kk
    dsimp only at kk
    rw [if_pos ha] at kk
    refine g2_isBad_12 (fun _ => ?_) (fun c => by exfalso; omega)
    refine g2_isBad_17 hp.1 (by omega) kP ?_
    refine q4_endOf cP (by omega) ?_
    by_cases he : P.2.2 (pl / 36 % 6) = -1
    · rw [if_pos he] at kk
      refine g2_isBad_31 (fun c => absurd he c) (fun _ => ?_)
      exact g2_isBad_37 kk
    · rw [if_neg he] at kk
      have hww : wv k (P.2.2 (pl / 36 % 6)) := (hP.2.2 (pl / 36 % 6) (by omega)).resolve_left he
      refine g2_isBad_31 (fun _ => ?_) (fun c => absurd c he)
      refine g2_isBad_39 hp.1 ?_
      refine c2_tailAfter hc hok (by omega) hww ?_
      have h3 := tl_rng hk hq hB (sp := pl / 6 % 6) (pt := pl % 6) (by omega) (by omega) hww
      rw [e1, e2]
      dsimp only
      generalize ht : tl q B (pl / 6 % 6) (pl % 6) (P.2.2 (pl / 36 % 6)) = t at h3 kk
      have e3 : (6 * t.1 + t.2) / 6 = t.1 := by omega
      have e4 : (6 * t.1 + t.2) % 6 = t.2 := by omega
      match q, cq, hq, kk with
      | none, cq, hq, kk =>
        refine g2_isBad_48 (fun h => absurd cq h) (fun _ => ?_)
        refine g2_isBad_56 (by omega) kB ?_
        rw [e4]
        refine q6_holdsAt cB h3.2 ?_
        unfold bd2 at kk
        dsimp only at kk
        by_cases hb : B.2 t.2 = 1
        · rw [if_pos hb] at kk ⊢
          refine g2_isBad_67 (fun _ => ?_) (fun c => by exfalso; omega)
          refine g2_isBad_74 ?_
          exact g2_isBad_75 (by omega) kk
        · rw [if_neg hb] at kk ⊢
          refine g2_isBad_67 (fun c => by exfalso; omega) (fun _ => ?_)
          refine g2_isBad_70 ?_
          exact g2_isBad_75 (by omega) kk
      | some P2, cq, hq, kk =>
        have hP2 := hq P2 rfl
        obtain ⟨rQ, kQ⟩ := cq.2.kd
        refine g2_isBad_48 (fun _ => ?_) (fun h => absurd h cq.1)
        refine g2_isBad_76 (by omega) kQ ?_
        rw [e3]
        refine q4_endOf cq.2 h3.1 ?_
        unfold bd2 at kk
        dsimp only at kk
        by_cases he2 : P2.2.2 t.1 = -1
        · rw [if_pos he2] at kk
          refine g2_isBad_87 (fun c => absurd he2 c) (fun _ => ?_)
          exact g2_isBad_95 kk
        · rw [if_neg he2] at kk
          have hw2 : wv k (P2.2.2 t.1) := (hP2.2.2 t.1 h3.1).resolve_left he2
          refine g2_isBad_87 (fun _ => ?_) (fun c => absurd c he2)
          refine g2_isBad_97 (by omega) kB ?_
          rw [e4]
          refine q6_afterWord cB hB h3.2 ⟨hw2.1, hw2.2.1⟩ ?_
          refine g2_isBad_114 kB ?_
          refine q6_holdsAt cB (aw_rng hB h3.2 ⟨hw2.1, hw2.2.1⟩) ?_
          by_cases hb : B.2 (aw B.1 t.2 (P2.2.2 t.1)) = 1
          · rw [if_pos hb] at kk ⊢
            refine g2_isBad_117 (fun _ => ?_) (fun c => by exfalso; omega)
            refine g2_isBad_124 ?_
            exact g2_isBad_125 (by omega) kk
          · rw [if_neg hb] at kk ⊢
            refine g2_isBad_117 (fun c => by exfalso; omega) (fun _ => ?_)
            refine g2_isBad_120 ?_
            exact g2_isBad_125 (by omega) kk
  · rw [if_neg ha]
    unfold bd at kk
    dsimp only at kk
    rw [if_neg ha] at kk
    refine g2_isBad_12 (fun c => by exfalso; omega) (fun _ => ?_)
    exact g2_isBad_15 kk
