/-! ===== letters that stay: the reference ===== -/
section
variable {K : am_K} {M : am_M} {Q : Option am_V → am_M → Prop}
theorem n9_often {w l t i : Int} (hw : 0 ≤ w ∧ w ≤ 20) (hi : 0 ≤ i ∧ i < wlen w) (hi2 : i < 3) (ht : 0 ≤ t ∧ t < 100) (k : am_AtN m9_often 4 [some (vi w), some (vi l), some (vi (t + (if wlet w i = l then 1 else 0))), some (vi (i + 1))] [] K M Q) : am_AtN m9_often 4 [some (vi w), some (vi l), some (vi t), some (vi i)] [] K M Q := by
  refine g9_often_4 ?_
  refine c9_longOf hw.1 ?_
  refine g9_often_9 (fun c => by exfalso; omega) (fun _ => ?_)
  refine g9_often_12 ?_
  refine c9_letterOf hw ?_
  refine g9_often_18 (fun c => ?_) (fun c => ?_)
  · rw [if_neg c] at k
    exact g9_often_26 (g9_often_27 (by omega) (by omega) k)
  · rw [if_pos c] at k
    exact g9_often_22 (g9_often_27 (by omega) (by omega) k)
theorem z9_often {w l t i : Int} (hw : 0 ≤ w) (hi : wlen w ≤ i) (k : Q (some (vi t)) M) : am_AtN m9_often 4 [some (vi w), some (vi l), some (vi t), some (vi i)] [] K M Q := by
  refine g9_often_4 ?_
  refine c9_longOf hw ?_
  refine g9_often_9 (fun _ => ?_) (fun c => by exfalso; omega)
  exact g9_often_35 k
theorem c9_often {w l : Int} (hw : 0 ≤ w ∧ w ≤ 20) (k : Q (some (vi (tmi w l))) M) : am_CallN m9_often [vi w, vi l] K M Q := by
  refine am_callN_of (by decide +kernel) rfl rfl (Nat.le_of_ble_eq_true rfl) ?_
  refine g9_often_0 ?_
  rw [tmi_eq hw.1] at k
  by_cases h1 : w < 1
  · have hl : wlen w = 0 := by unfold wlen; rw [if_pos h1]
    rw [if_pos h1] at k
    exact z9_often hw.1 (by omega) k
  · rw [if_neg h1] at k
    by_cases h5 : w < 5
    · have hl : wlen w = 1 := by unfold wlen; rw [if_neg h1, if_pos h5]
      rw [if_pos h5] at k
      refine n9_often hw (by omega) (by omega) (by omega) ?_
      refine z9_often hw.1 (by omega) ?_
      rw [Int.zero_add]
      exact k
    · have hl : wlen w = 2 := by unfold wlen; rw [if_neg h1, if_neg h5]
      rw [if_neg h5] at k
      refine n9_often hw (by omega) (by omega) (by omega) ?_
      refine n9_often hw (by omega) (by omega) (by split <;> omega) ?_
      refine z9_often hw.1 (by omega) ?_
      rw [Int.zero_add]
      exact k
end
/-- layer n by its number; where a letter leads; what has been written so far -/
def hr (u : Ud) (n : Nat) (j : Int) : Prop := rch u n (j / 400) (j % 400 - 200)
def tg (u : Ud) (j x : Int) : Int := 400 * unx u (j / 400) x + j % 400 + udl u (j / 400) x
def TT (u : Ud) (n : Nat) (i y j : Int) : Prop := ∃ j' x : Int, (0 ≤ j' ∧ (j' < i ∨ (j' = i ∧ x < y))) ∧ (0 ≤ x ∧ x < u.2.2.2) ∧ hr u n j' ∧ j = tg u j' x
theorem hr_of {u : Ud} (hA : okS u.1) (hP : okP u.2.2.2 u.2.1) (hk : u.2.2.2 ≤ 4) {n : Nat} (hn : n < 75) {st ov : Int} (h : rch u n st ov) : (0 ≤ 400 * st + 200 + ov ∧ 400 * st + 200 + ov < 14400) ∧ (400 * st + 200 + ov) / 400 = st ∧ (400 * st + 200 + ov) % 400 - 200 = ov := by
  have h1 := rch_rng hA hP hk n st ov h
  omega
theorem tg_rng {u : Ud} (hA : okS u.1) (hP : okP u.2.2.2 u.2.1) (hk : u.2.2.2 ≤ 4) {n : Nat} (hn : n < 74) {j x : Int} (h : hr u n j) (hx : 0 ≤ x ∧ x < u.2.2.2) : (0 ≤ tg u j x ∧ tg u j x < 14400) ∧ hr u (n + 1) (tg u j x) := by
  have h1 := rch_rng hA hP hk n _ _ h
  have h2 := udl_rng u (j / 400) x
  have h3 := unx_rng hA hP hk h1.1 hx
  have e1 : tg u j x / 400 = unx u (j / 400) x := by
    unfold tg
    omega
  have e2 : tg u j x % 400 - 200 = j % 400 - 200 + udl u (j / 400) x := by
    unfold tg
    omega
  refine ⟨by unfold tg; omega, ?_⟩
  show rch u (n + 1) (tg u j x / 400) (tg u j x % 400 - 200)
  rw [e1, e2]
  exact ⟨_, _, x, h, hx, rfl, rfl⟩
theorem TT_next {u : Ud} (hA : okS u.1) (hP : okP u.2.2.2 u.2.1) (hk : u.2.2.2 ≤ 4) {n : Nat} (hn : n < 74) {j : Int} : TT u n 14400 0 j ↔ hr u (n + 1) j := by
  constructor
  · rintro ⟨j', x, -, hx, h, rfl⟩
    exact (tg_rng hA hP hk hn h hx).2
  · rintro ⟨st', ov', x, h, hx, h1, h2⟩
    have h3 := hr_of hA hP hk (by omega) h
    have h5 : hr u n (400 * st' + 200 + ov') := by
      show rch u n _ _
      rw [h3.2.1, h3.2.2]
      exact h
    refine ⟨400 * st' + 200 + ov', x, ⟨h3.1.1, Or.inl h3.1.2⟩, hx, h5, ?_⟩
    unfold tg
    rw [h3.2.1]
    omega
theorem TT_skip {u : Ud} {n : Nat} {i j : Int} (h : ¬ hr u n i) : TT u n i 0 j ↔ TT u n (i + 1) 0 j := by
  constructor
  · rintro ⟨j', x, h1, hx, h2, h3⟩
    exact ⟨j', x, by omega, hx, h2, h3⟩
  · rintro ⟨j', x, h1, hx, h2, h3⟩
    refine ⟨j', x, ⟨h1.1, ?_⟩, hx, h2, h3⟩
    by_cases e : j' = i
    · subst e
      exact absurd h2 h
    · omega
theorem TT_row {u : Ud} {n : Nat} {i j : Int} : TT u n i u.2.2.2 j ↔ TT u n (i + 1) 0 j := by
  constructor
  · rintro ⟨j', x, h1, hx, h2, h3⟩
    exact ⟨j', x, by omega, hx, h2, h3⟩
  · rintro ⟨j', x, h1, hx, h2, h3⟩
    exact ⟨j', x, by omega, hx, h2, h3⟩
theorem TT_s {u : Ud} {n : Nat} {i y j : Int} (hi : 0 ≤ i) (hy : 0 ≤ y ∧ y < u.2.2.2) (h : hr u n i) : TT u n i (y + 1) j ↔ (j = tg u i y ∨ TT u n i y j) := by
  constructor
  · rintro ⟨j', x, h1, hx, h2, h3⟩
    by_cases e : j' = i ∧ x = y
    · obtain ⟨rfl, rfl⟩ := e
      exact Or.inl h3
    · exact Or.inr ⟨j', x, by omega, hx, h2, h3⟩
  · rintro (h1 | ⟨j', x, h1, hx, h2, h3⟩)
    · exact ⟨i, y, by omega, hy, h, h1⟩
    · exact ⟨j', x, by omega, hx, h2, h3⟩
def LH (M : am_M) (u : Ud) (n : Nat) : Prop := ∀ j : Int, 0 ≤ j ∧ j < 14400 → (M 100 j = 0 ∨ M 100 j = 1) ∧ (M 100 j = 1 ↔ hr u n j)
def SV (u : Ud) (r : Int) : Prop := (r = -9 ∧ ∀ n : Nat, n < 74 → ¬ pth u n 0 0) ∨ ∃ n : Nat, r = n ∧ pth u n 0 0 ∧ ∀ m : Nat, m < n → ¬ pth u m 0 0
theorem SU_SV {u : Ud} {r r' : Int} (h : SU u r) (h' : SV u r') : r = r' := by
  rcases h with ⟨h1, h2⟩ | ⟨n, hn, h1, h2, h3⟩
  · rcases h' with ⟨h4, h5⟩ | ⟨m, h4, h5, h6⟩
    · omega
    · exact absurd h5 (h2 m)
  · rcases h' with ⟨h4, h5⟩ | ⟨m, h4, h5, h6⟩
    · exact absurd h2 (h5 n (by omega))
    · have : n = m := by
        rcases Nat.lt_trichotomy n m with h | h | h
        · exact absurd h2 (h6 n h)
        · exact h
        · exact absurd h5 (h3 m h)
      omega
theorem c9_unlike {M : am_M} {Q : Option am_V → am_M → Prop} {s p l : Int} (hd : mdat M) (hs : 0 ≤ s ∧ s ≤ 7) (hp : 0 ≤ p ∧ p ≤ 3) (kk : ∀ r M', SV (sm M s, pm M p, l, M 86 1) r → fr9 M M' → Q (some (vi r)) M') : am_CallN m9_unlike [vr 86, vi s, vi p, vi l] KS M Q := by
  have hk := hd.1
  have oA := hd.sok hs
  have oP := hd.pok hp
  have hM88 := hd.2.2.1
  generalize hkk : M 86 1 = k at hk kk oP
  generalize hAA : sm M s = A at oA kk
  generalize hPP : pm M p = P at oP kk
  refine am_callN_of (by decide +kernel) rfl rfl (Nat.le_of_ble_eq_true rfl) ?_
  refine g9_unlike_0 ?_
  refine am_for (fun i => [some (vr 86), some (vi s), some (vi p), some (vi l), some (vi i), none, none, none, none, none, none, none, none, none]) (fun i => am_fl M 100 0 i (fun _ => 0)) 0 14400 (by omega) rfl am_fl_0.symm ?_ (fun i h0 h1 ih => ?_)
  · refine g9_unlike_3 (fun _ => ?_) (fun c => by exfalso; omega)
    refine g9_unlike_25 ?_
    have key : ∀ (d : Nat) (n : Nat) (M2 : am_M), n + d = 74 → LH M2 (A, P, l, k) n → (∀ m : Nat, m < n → ¬ pth (A, P, l, k) m 0 0) → fr9 M M2 → am_AtN m9_unlike 37 [some (vr 86), some (vi s), some (vi p), some (vi l), some (vi (n : Int)), none, none, none, none, none, none, none, none, none] [] KS M2 Q := by
      intro d
      induction d with
      | zero =>
        intro n M2 hn hL hm hf
        refine g9_unlike_37 (fun _ => ?_) (fun c => by exfalso; omega)
        exact g9_unlike_337 (kk _ M2 (Or.inl ⟨rfl, fun m h => hm m (by omega)⟩) hf)
      | succ d ihd =>
        intro n M2 hn hL hm hf
        refine g9_unlike_37 (fun c => by exfalso; omega) (fun _ => ?_)
        refine g9_unlike_44 ?_
        refine am_for (fun i => [some (vr 86), some (vi s), some (vi p), some (vi l), some (vi (n : Int)), some (vi 0), some (vi i), none, none, none, none, none, none, none]) (fun i => am_fl M2 101 0 i (fun _ => 0)) 0 14400 (by omega) rfl am_fl_0.symm ?_ (fun i h0 h1 ih => ?_)
        · refine g9_unlike_50 (fun _ => ?_) (fun c => by exfalso; omega)
          refine g9_unlike_72 ?_
          refine am_forR (fun i ls M3 => ∃ f : Int, ls = [some (vr 86), some (vi s), some (vi p), some (vi l), some (vi (n : Int)), some (vi f), some (vi i), none, none, none, none, none, none, none] ∧ (f = 0 ∨ f = 1) ∧ (f = 1 ↔ ∃ j : Int, (0 ≤ j ∧ j < i) ∧ hr (A, P, l, k) n j ∧ ub (A, P, l, k) (j / 400) (j % 400 - 200)) ∧ (∀ j : Int, 0 ≤ j ∧ j < 14400 → (M3 101 j = 0 ∨ M3 101 j = 1) ∧ (M3 101 j = 1 ↔ TT (A, P, l, k) n i 0 j)) ∧ LH M3 (A, P, l, k) n ∧ fr9 M M3) 0 14400 (by omega) ⟨0, rfl, Or.inl rfl, ?_, ?_, ?_, ?_⟩ ?_ ?_
          · constructor
            · intro h
              exfalso
              omega
            · rintro ⟨j, h, -⟩
              exfalso
              omega
          · intro j hj
            rw [am_fl_in hj]
            refine ⟨Or.inl rfl, ?_⟩
            constructor
            · intro h
              exfalso
              omega
            · rintro ⟨j', x, h1, hx, -⟩
              exfalso
              omega
          · intro j hj
            rw [am_fl_out (by omega)]
            exact hL j hj
          · intro b j hkp
            rw [am_fl_out (by unfold kp at hkp; omega)]
            exact hf b j hkp
          · rintro ls M3 ⟨f, rfl, hf01, hfi, h101, hL3, hf3⟩
            refine g9_unlike_75 (fun _ => ?_) (fun c => by exfalso; omega)
            refine g9_unlike_292 (fun c => ?_) (fun c => ?_)
            · refine g9_unlike_300 ?_
              refine am_for (fun i => [some (vr 86), some (vi s), some (vi p), some (vi l), some (vi (n : Int)), some (vi f), some (vi i), none, none, none, none, none, none, none]) (fun i => am_fl M3 100 0 i (fun j => M3 101 j)) 0 14400 (by omega) rfl am_fl_0.symm ?_ (fun i h0 h1 ih => ?_)
              · refine g9_unlike_303 (fun _ => ?_) (fun c => by exfalso; omega)
                refine g9_unlike_331 (by omega) ?_
                refine ihd (n + 1) _ (by omega) ?_ ?_ ?_
                · intro j hj
                  rw [am_fl_in hj]
                  refine ⟨(h101 j hj).1, ?_⟩
                  rw [(h101 j hj).2]
                  exact TT_next (u := (A, P, l, k)) oA oP hk.2 (by omega)
                · intro m hmn hpm
                  by_cases e : m = n
                  · subst e
                    obtain ⟨st, ov, h1, h2⟩ := pth_rch (u := (A, P, l, k)) m 0 0 0 ⟨rfl, rfl⟩ hpm
                    rw [Nat.zero_add] at h1
                    have h3 := hr_of (u := (A, P, l, k)) oA oP hk.2 (by omega) h1
                    have h4 : f = 1 := hfi.mpr ⟨400 * st + 200 + ov, by omega, by
                      show rch _ _ _ _
                      rw [h3.2.1, h3.2.2]
                      exact h1, by rw [h3.2.1, h3.2.2]; exact h2⟩
                    omega
                  · exact hm m (by omega) hpm
                · intro b j hkp
                  rw [am_fl_out (by unfold kp at hkp; omega)]
                  exact hf3 b j hkp
              · have e1 : am_fl M3 100 0 i (fun j => M3 101 j) 101 i = M3 101 i := am_fl_out (by omega)
                refine g9_unlike_303 (fun c => by exfalso; omega) (fun _ => ?_)
                refine g9_unlike_311 (by omega) (by omega) (by omega) (by omega) (by rw [e1]; exact (h101 i ⟨h0, h1⟩).1) (by omega) ?_
                exact am_mem (am_fl_t (f := fun j => M3 101 j) (by omega) e1) ih
            · refine g9_unlike_297 (kk _ M3 (Or.inr ⟨n, rfl, ?_, hm⟩) hf3)
              obtain ⟨j, hj, h1, h2⟩ := hfi.mp (by omega)
              exact rch_pth n 0 _ _ h1 h2
          · rintro i ls M3 hi0 hi1 ⟨f, rfl, hf01, hfi, h101, hL3, hf3⟩ ihi
            have hLi := hL3 i ⟨hi0, hi1⟩
            refine g9_unlike_75 (fun c => by exfalso; omega) (fun _ => ?_)
            refine g9_unlike_83 hi0 hi1 (fun c => ?_) (fun c => ?_)
            · have hnr : ¬ hr (A, P, l, k) n i := fun h => by have := hLi.2.mpr h; omega
              refine g9_unlike_286 (by omega) ?_
              refine ihi _ M3 ⟨f, rfl, hf01, ?_, ?_, hL3, hf3⟩
              · rw [hfi]
                constructor
                · rintro ⟨j, hj, h1, h2⟩
                  exact ⟨j, by omega, h1, h2⟩
                · rintro ⟨j, hj, h1, h2⟩
                  refine ⟨j, ⟨hj.1, ?_⟩, h1, h2⟩
                  by_cases e : j = i
                  · subst e
                    exact absurd h1 hnr
                  · omega
              · intro j hj
                rw [← TT_skip hnr]
                exact h101 j hj
            · have hri : hr (A, P, l, k) n i := hLi.2.mp (by omega)
              have hrr := rch_rng (u := (A, P, l, k)) oA oP hk.2 _ _ _ hri
              have e94 : M3 94 (6 * p + i / 400 % 6) = P.2.2 (i / 400 % 6) := by
                rw [← hPP, hf3 94 _ (by unfold kp; omega)]
                rfl
              have e88 : M3 88 (6 * s + i / 400 / 6) = A.2 (i / 400 / 6) := by
                rw [← hAA, hf3 88 _ (by unfold kp; omega)]
                rfl
              have hA01 : A.2 (i / 400 / 6) = 0 ∨ A.2 (i / 400 / 6) = 1 := by
                rw [← hAA]
                exact hM88 _ (by omega)
              have hwe := oP.2.2 (i / 400 % 6) (by omega)
              have ck : M3 86 1 = k := by rw [hf3 86 1 (by unfold kp; omega)]; exact hkk
              have tail : ∀ f' : Int, (f' = 0 ∨ f' = 1) → (f' = 1 ↔ (f = 1 ∨ ub (A, P, l, k) (i / 400) (i % 400 - 200))) → am_AtN m9_unlike 183 [some (vr 86), some (vi s), some (vi p), some (vi l), some (vi (n : Int)), some (vi f), some (vi i), some (vi (i / 400 / 6)), some (vi (i / 400 % 6)), some (vi (i % 400)), some (vi (P.2.2 (i / 400 % 6))), none, none, none] [vi f'] KS M3 Q := by
                intro f' hf' hfe
                refine g9_unlike_183 ?_
                refine am_forR (fun x ls M4 => ls = [some (vr 86), some (vi s), some (vi p), some (vi l), some (vi (n : Int)), some (vi f'), some (vi i), some (vi (i / 400 / 6)), some (vi (i / 400 % 6)), some (vi (i % 400)), some (vi (P.2.2 (i / 400 % 6))), some (vi x), none, none] ∧ (∀ j : Int, 0 ≤ j ∧ j < 14400 → (M4 101 j = 0 ∨ M4 101 j = 1) ∧ (M4 101 j = 1 ↔ TT (A, P, l, k) n i x j)) ∧ LH M4 (A, P, l, k) n ∧ fr9 M M4) 0 k (by omega) ⟨rfl, h101, hL3, hf3⟩ ?_ ?_
                · rintro ls M4 ⟨rfl, h4, hL4, hf4⟩
                  have ck : M4 86 1 = k := by rw [hf4 86 1 (by unfold kp; omega)]; exact hkk
                  refine g9_unlike_188 (fun _ => ?_) (fun c => by exfalso; omega)
                  refine g9_unlike_286 (by omega) ?_
                  refine ihi _ M4 ⟨f', rfl, hf', ?_, ?_, hL4, hf4⟩
                  · rw [hfe, hfi]
                    constructor
                    · rintro (⟨j, hj, h1, h2⟩ | h2)
                      · exact ⟨j, by omega, h1, h2⟩
                      · exact ⟨i, by omega, hri, h2⟩
                    · rintro ⟨j, hj, h1, h2⟩
                      by_cases e : j = i
                      · subst e
                        exact Or.inr h2
                      · exact Or.inl ⟨j, by omega, h1, h2⟩
                  · intro j hj
                    rw [← TT_row (u := (A, P, l, k))]
                    exact h4 j hj
                · rintro x ls M4 hx0 hx1 ⟨rfl, h4, hL4, hf4⟩ ihx
                  have ck : M4 86 1 = k := by rw [hf4 86 1 (by unfold kp; omega)]; exact hkk
                  have e93 : M4 93 (24 * p + 4 * (i / 400 % 6) + x) = P.2.1 (i / 400 % 6) x := by
                    rw [← hPP, hf4 93 _ (by unfold kp; omega)]
                    rfl
                  have e92 : M4 92 (24 * p + 4 * (i / 400 % 6) + x) = P.1 (i / 400 % 6) x := by
                    rw [← hPP, hf4 92 _ (by unfold kp; omega)]
                    rfl
                  have e87 : M4 87 (24 * s + 4 * (i / 400 / 6) + x) = A.1 (i / 400 / 6) x := by
                    rw [← hAA, hf4 87 _ (by unfold kp; omega)]
                    rfl
                  have hwx := oP.2.1 (i / 400 % 6) x (by omega) (by omega)
                  have ht := tmi_rng (P.2.1 (i / 400 % 6) x) l
                  have rA := oA (i / 400 / 6) x (by omega) (by omega)
                  have rP := oP.1 (i / 400 % 6) x (by omega) (by omega)
                  have htg := tg_rng (u := (A, P, l, k)) oA oP hk.2 (by omega) hri ⟨hx0, hx1⟩
                  have eT : 400 * (6 * A.1 (i / 400 / 6) x + P.1 (i / 400 % 6) x) + i % 400 + (tmi (P.2.1 (i / 400 % 6) x) l - (if x = l then 1 else 0)) = tg (A, P, l, k) i x := by
                    have e1 : unx (A, P, l, k) (i / 400) x = A.1 (i / 400 / 6) x * 6 + P.1 (i / 400 % 6) x := rfl
                    have e2 : udl (A, P, l, k) (i / 400) x = tmi (P.2.1 (i / 400 % 6) x) l - (if x = l then 1 else 0) := rfl
                    unfold tg
                    rw [e2, e1]
                    omega
                  have fin : am_AtN m9_unlike 233 [some (vr 86), some (vi s), some (vi p), some (vi l), some (vi (n : Int)), some (vi f'), some (vi i), some (vi (i / 400 / 6)), some (vi (i / 400 % 6)), some (vi (i % 400)), some (vi (P.2.2 (i / 400 % 6))), some (vi x), some (vi (24 * p + 4 * (i / 400 % 6) + x)), none] [vi (if x = l then 1 else 0), vi (tmi (P.2.1 (i / 400 % 6) x) l)] KS M4 Q := by
                    have hb : (if x = l then (1 : Int) else 0) = 0 ∨ (if x = l then (1 : Int) else 0) = 1 := by split <;> omega
                    have h5 : ((400 * (6 * M4 87 (24 * s + 4 * (i / 400 / 6) + x) + M4 92 (24 * p + 4 * (i / 400 % 6) + x))) + i % 400) + (tmi (P.2.1 (i / 400 % 6) x) l - (if x = l then 1 else 0)) = tg (A, P, l, k) i x := by
                      rw [e87, e92]
                      exact eT
                    refine g9_unlike_233 (by omega) (by omega) (by omega) (by omega) (by omega) (by omega) (by omega) (by omega) (by omega) (by omega) (by omega) (by omega) (by omega) (by rw [h5]; omega) (by rw [h5]; omega) (by rw [h5]; omega) (by omega) ?_
                    rw [h5]
                    refine ihx _ _ ⟨rfl, fun j hj => ?_, fun j hj => ?_, hf4.tr (fr9.up (by unfold kp; omega))⟩
                    · rw [TT_s (u := (A, P, l, k)) hi0 ⟨hx0, hx1⟩ hri]
                      by_cases e : j = tg (A, P, l, k) i x
                      · rw [e, am_up_hit]
                        exact ⟨Or.inr rfl, ⟨fun _ => Or.inl rfl, fun _ => rfl⟩⟩
                      · rw [am_upn (Or.inr e)]
                        refine ⟨(h4 j hj).1, ?_⟩
                        rw [(h4 j hj).2]
                        constructor
                        · intro h
                          exact Or.inr h
                        · rintro (h | h)
                          · exact absurd h e
                          · exact h
                    · rw [am_upn (Or.inl (by omega))]
                      exact hL4 j hj
                  refine g9_unlike_188 (fun c => by exfalso; omega) (fun _ => ?_)
                  refine g9_unlike_197 (by omega) (by omega) (by omega) (by omega) (by omega) (by omega) ?_
                  rw [e93]
                  refine c9_often ⟨hwx.1, hwx.2.1⟩ ?_
                  refine g9_unlike_222 (fun c => ?_) (fun c => ?_)
                  · rw [if_neg c] at fin
                    exact g9_unlike_232 fin
                  · rw [if_pos c] at fin
                    exact g9_unlike_228 fin
              refine g9_unlike_93 (by omega) (by omega) (by omega) (by omega) (by omega) (by omega) (by omega) (by omega) (by omega) (fun c1 => ?_) (fun c1 => ?_)
              · rw [e94]
                refine g9_unlike_178 (tail 1 (Or.inr rfl) ⟨fun _ => Or.inl (by omega), fun _ => rfl⟩)
              · rw [e94]
                have t0 : ¬ ub (A, P, l, k) (i / 400) (i % 400 - 200) → am_AtN m9_unlike 182 [some (vr 86), some (vi s), some (vi p), some (vi l), some (vi (n : Int)), some (vi f), some (vi i), some (vi (i / 400 / 6)), some (vi (i / 400 % 6)), some (vi (i % 400)), some (vi (P.2.2 (i / 400 % 6))), none, none, none] [] KS M3 Q := by
                  intro hnu
                  refine g9_unlike_182 (tail 0 (Or.inl rfl) ⟨fun h => by exfalso; omega, ?_⟩)
                  rintro (h | h)
                  · exfalso
                    omega
                  · exact absurd h hnu
                refine g9_unlike_142 (by omega) (by omega) (by omega) (by omega) (fun c2 => ?_) (fun c2 => ?_)
                · rw [e88] at c2
                  refine t0 (fun h => ?_)
                  have h1 : A.2 (i / 400 / 6) = 1 := h.1
                  omega
                · rw [e88] at c2
                  refine g9_unlike_157 (fun c3 => ?_) (fun c3 => ?_)
                  · exact t0 (fun h => h.2.1 c3)
                  · have hwv : 0 ≤ P.2.2 (i / 400 % 6) ∧ P.2.2 (i / 400 % 6) ≤ 20 := by
                      rcases hwe with h | h
                      · exact absurd h c3
                      · exact ⟨h.1, h.2.1⟩
                    have ht := tmi_rng (P.2.2 (i / 400 % 6)) l
                    refine g9_unlike_163 ?_
                    refine c9_often hwv ?_
                    refine g9_unlike_171 (by omega) (fun c4 => ?_) (fun c4 => ?_)
                    · refine t0 (fun h => ?_)
                      have h1 : i % 400 - 200 + tmi (P.2.2 (i / 400 % 6)) l ≠ 0 := h.2.2
                      omega
                    · refine g9_unlike_178 (tail 1 (Or.inr rfl) ⟨fun _ => Or.inr ⟨?_, c3, ?_⟩, fun _ => rfl⟩)
                      · show A.2 (i / 400 / 6) = 1
                        omega
                      · show i % 400 - 200 + tmi (P.2.2 (i / 400 % 6)) l ≠ 0
                        omega
        · refine g9_unlike_50 (fun c => by exfalso; omega) (fun _ => ?_)
          refine g9_unlike_58 (by omega) (by omega) (by omega) ?_
          exact am_mem (am_fl_t (f := fun _ => 0) (by omega) rfl) ih
    refine key 74 0 _ (by omega) ?_ (fun m hm => by exfalso; omega) ?_
    · intro j hj
      by_cases e : j = 200
      · subst e
        rw [am_up_hit]
        exact ⟨Or.inr rfl, fun _ => ⟨by omega, by omega⟩, fun _ => rfl⟩
      · rw [am_upn (Or.inr e), am_fl_in hj]
        refine ⟨Or.inl rfl, fun h => by exfalso; omega, ?_⟩
        rintro ⟨h1, h2⟩
        exfalso
        omega
    · intro b j hkp
      rw [am_upn (by unfold kp at hkp; omega), am_fl_out (by unfold kp at hkp; omega)]
  · refine g9_unlike_3 (fun c => by exfalso; omega) (fun _ => ?_)
    refine g9_unlike_11 (by omega) (by omega) (by omega) ?_
    exact am_mem (am_fl_t (f := fun _ => 0) (by omega) rfl) ih
