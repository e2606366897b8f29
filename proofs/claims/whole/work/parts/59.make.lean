/-! ===== the reference: a sentence of a kind ===== -/
theorem mh01 (kind n : Int) : mh kind n = 0 ∨ mh kind n = 1 := by
  unfold mh
  (repeat' split) <;> omega
def NM (M : am_M) (q : List (Int × Int)) : Prop := ∀ j : Nat, j < q.length → M 90 j = (q.getD j (0, 0)).1
theorem s9_make {M : am_M} {Q : Option am_V → am_M → Prop} {q : List (Int × Int)} {s kind a z i x t : Int} (hN : NM M q) (hl : q.length ≤ 39) (k : am_AtN m9_make 197 [some (vr 86), some (vi s), some (vi kind), some (vi a), some (vi z), some (vi q.length), some (vi i), some (vi x), some (vi t), some (vi (ix q t))] [] KS M Q) : am_AtN m9_make 172 [some (vr 86), some (vi s), some (vi kind), some (vi a), some (vi z), some (vi q.length), some (vi i), some (vi x), some (vi t), some (vi 0)] [] KS M Q := by
  have hr := ix_rng (p := t) (q := q)
  refine am_for (fun j => [some (vr 86), some (vi s), some (vi kind), some (vi a), some (vi z), some (vi q.length), some (vi i), some (vi x), some (vi t), some (vi j)]) (fun _ => M) 0 (ix q t) hr.1 rfl rfl ?_ (fun j h0 h1 ih => ?_)
  · by_cases hlt : ix q t < q.length
    · have h2 := ix_hit hlt
      have h3 := hN (ix q t).toNat (by omega)
      rw [show (((ix q t).toNat : Nat) : Int) = ix q t by omega, h2] at h3
      refine g9_make_172 (fun c => by exfalso; omega) (fun _ => ?_)
      exact g9_make_179 (by omega) (by omega) (fun _ => k) (fun c => absurd h3 c)
    · exact g9_make_172 (fun _ => k) (fun c => by exfalso; omega)
  · have h2 := ix_ne (p := t) (q := q) (j := j.toNat) (by omega)
    have h3 := hN j.toNat (by omega)
    rw [show ((j.toNat : Nat) : Int) = j by omega] at h3
    refine g9_make_172 (fun c => by exfalso; omega) (fun _ => ?_)
    refine g9_make_179 (by omega) (by omega) (fun c => by exfalso; rw [h3] at c; exact h2 c) (fun _ => ?_)
    exact g9_make_191 (by omega) ih
def lt_ (kind : Int) : Prop := kind = 2 ∨ kind = 4 ∨ kind = 5 ∨ kind = 6
theorem c9_make {M : am_M} {Q : Option am_V → am_M → Prop} {s kind a : Int} (hd : mdat M)
    (k1 : (0 ≤ s ∧ s ≤ 7) → kval kind a (M 86 1) → ∀ M', (∀ p x : Int, 0 ≤ p ∧ p < 6 → 0 ≤ x ∧ x < 4 → M' 87 (24 * s + 4 * p + x) = (mk_ kind a (M 86 1)).1 p x) → (∀ p : Int, 0 ≤ p ∧ p < 6 → M' 88 (6 * s + p) = (mk_ kind a (M 86 1)).2 p) → (∀ b j : Int, kp b j → ¬ (b = 87 ∧ 24 * s ≤ j ∧ j < 24 * s + 24) → ¬ (b = 88 ∧ 6 * s ≤ j ∧ j < 6 * s + 6) → M' b j = M b j) → Q (some (vi (mq kind a (M 86 1)).length)) M')
    (k0 : ¬ (0 ≤ s ∧ s ≤ 7) ∨ (lt_ kind ∧ ¬ (0 ≤ a ∧ a < M 86 1)) → ∀ M', fr9 M M' → Q (some (vi (-1))) M')
    (k2 : (0 ≤ s ∧ s ≤ 7) → ¬ (lt_ kind ∧ ¬ (0 ≤ a ∧ a < M 86 1)) → (¬ (0 ≤ kind ∧ kind ≤ 7) ∨ (kind = 3 ∧ ¬ (1 ≤ a ∧ a ≤ 6))) → ∀ M', fr9 M M' → Q (some (vi (-2))) M') : am_CallN m9_make [vr 86, vi s, vi kind, vi a] KS M Q := by
  have hk := hd.1
  have hf0 : fr9 M (am_up M 86 0 0) := fr9.up (by unfold kp; omega)
  have e1 : am_up M 86 0 0 86 1 = M 86 1 := am_upn (Or.inr (by omega))
  generalize hkk : M 86 1 = k at hk k0 k1 k2 e1
  refine am_callN_of (by decide +kernel) rfl rfl (Nat.le_of_ble_eq_true rfl) ?_
  refine g9_make_0 ?_
  refine c9_noSentence ?_
  by_cases hs : 0 ≤ s ∧ s ≤ 7
  · rw [if_pos hs]
    refine g9_make_9 (fun _ => ?_) (fun c => by exfalso; omega)
    refine g9_make_14 ?_
    refine c9_in ?_
    by_cases hK : 0 ≤ kind ∧ kind ≤ 7
    · rw [if_pos hK]
      refine g9_make_23 (fun _ => ?_) (fun c => by exfalso; omega)
      have body : kval kind a k → ∀ z : Int, am_AtN m9_make 92 [some (vr 86), some (vi s), some (vi kind), some (vi a), some (vi z), none, none, none, none, none] [] KS (am_up M 86 0 0) Q := by
        intro hv z
        have hq := mn_ok hk hv
        refine g9_make_92 ?_
        refine c9_bare hs ?_
        refine g9_make_97 ?_
        have key : ∀ (d : Nat) (i : Nat) (M2 : am_M), i + d = 36 → i ≤ (bf (mn kind a) k.toNat i).length → NM M2 (bf (mn kind a) k.toNat i) →
            (∀ p x : Int, 0 ≤ p ∧ p < 6 → 0 ≤ x ∧ x < 4 → M2 87 (24 * s + 4 * p + x) = if p < i ∧ x < k then nbr (mq kind a k) (mn kind a ((mq kind a k).getD p.toNat (0, 0)).1 x) else 0) →
            (∀ p : Int, 0 ≤ p ∧ p < 6 → M2 88 (6 * s + p) = if p < i then mh kind ((mq kind a k).getD p.toNat (0, 0)).1 else 1) →
            (∀ b j : Int, kp b j → ¬ (b = 87 ∧ 24 * s ≤ j ∧ j < 24 * s + 24) → ¬ (b = 88 ∧ 6 * s ≤ j ∧ j < 6 * s + 6) → M2 b j = M b j) →
            am_AtN m9_make 110 [some (vr 86), some (vi s), some (vi kind), some (vi a), some (vi z), some (vi (bf (mn kind a) k.toNat i).length), some (vi (i : Int)), none, none, none] [] KS M2 Q := by
          intro d
          induction d with
          | zero =>
            intro i M2 hi hil
            have := (hq i).2.1
            omega
          | succ d ih =>
            intro i M2 hi hil hN h87 h88 hF
            have hl6 := (hq i).2.1
            obtain ⟨t, ht⟩ := bf_pren (mn kind a) k.toNat i (36 - i)
            rw [show i + (36 - i) = 36 by omega] at ht
            by_cases hlt : i < (bf (mn kind a) k.toNat i).length
            · obtain ⟨e, he⟩ : ∃ e, (bf (mn kind a) k.toNat i)[i]? = some e := ⟨_, List.getElem?_eq_getElem hlt⟩
              have hS := ((hq i).2.2.2 e (List.mem_of_getElem? he)).1
              have heb := vn_rng hk hv hS
              have em : M2 90 i = e.1 := by
                rw [hN i hlt]
                simp [List.getD, he]
              have eqf : ((mq kind a k).getD i (0, 0)).1 = e.1 := by
                unfold mq
                rw [ht]
                simp [List.getD, List.getElem?_append_left hlt, he]
              refine g9_make_110 (fun c => by exfalso; omega) (fun _ => ?_)
              refine g9_make_117 (by omega) (by omega) (by omega) (by omega) ?_
              rw [em]
              refine c9_isSoAt ?_
              refine g9_make_139 kd88 (by omega) (by omega) (mh01 kind e.1) ?_
              refine am_forR (fun x ls M3 => ls = [some (vr 86), some (vi s), some (vi kind), some (vi a), some (vi z), some (vi (br (mn kind a) (bf (mn kind a) k.toNat i) e.1 x.toNat).length), some (vi (i : Int)), some (vi x), none, none] ∧ NM M3 (br (mn kind a) (bf (mn kind a) k.toNat i) e.1 x.toNat) ∧
                (∀ p y : Int, 0 ≤ p ∧ p < 6 → 0 ≤ y ∧ y < 4 → M3 87 (24 * s + 4 * p + y) = if (p < i ∨ (p = i ∧ y < x)) ∧ y < k then nbr (mq kind a k) (mn kind a ((mq kind a k).getD p.toNat (0, 0)).1 y) else 0) ∧
                (∀ p : Int, 0 ≤ p ∧ p < 6 → M3 88 (6 * s + p) = if p < i + 1 then mh kind ((mq kind a k).getD p.toNat (0, 0)).1 else 1) ∧
                (∀ b j : Int, kp b j → ¬ (b = 87 ∧ 24 * s ≤ j ∧ j < 24 * s + 24) → ¬ (b = 88 ∧ 6 * s ≤ j ∧ j < 6 * s + 6) → M3 b j = M b j)) 0 k (by omega) ⟨rfl, ?_, ?_, ?_, ?_⟩ ?_ ?_
              · intro j hj
                rw [am_upn (Or.inl (by omega))]
                exact hN j hj
              · intro p y hp hy
                rw [am_upn (Or.inl (by omega)), h87 p y hp hy]
                by_cases hc : p < i ∧ y < k
                · rw [if_pos hc, if_pos (by omega)]
                · rw [if_neg hc, if_neg (by omega)]
              · intro p hp
                by_cases hc : p = i
                · subst hc
                  rw [am_up_hit, if_pos (by omega), show ((i : Int)).toNat = i by omega, eqf]
                · rw [am_upn (Or.inr (by omega)), h88 p hp]
                  by_cases hc2 : p < i
                  · rw [if_pos hc2, if_pos (by omega)]
                  · rw [if_neg hc2, if_neg (by omega)]
              · intro b j hkp h1 h2
                rw [am_upn (by omega)]
                exact hF b j hkp h1 h2
              · rintro ls M3 ⟨rfl, hN3, h873, h883, hF3⟩
                have ck : M3 86 1 = k := by rw [hF3 86 1 (by unfold kp; omega) (by omega) (by omega)]; exact hkk
                refine g9_make_143 (fun _ => ?_) (fun c => by exfalso; omega)
                refine g9_make_241 (by omega) ?_
                have hbs := bf_s he (k := k.toNat) (sc := mn kind a)
                rw [← hbs] at hN3 ⊢
                refine ih (i + 1) M3 (by omega) ?_ hN3 (fun p y hp hy => ?_) h883 hF3
                · obtain ⟨t2, ht2⟩ := bf_pre (mn kind a) k.toNat i
                  rw [ht2]
                  simp
                  omega
                · rw [h873 p y hp hy]
                  by_cases hc : (p < i ∨ (p = i ∧ y < k)) ∧ y < k
                  · rw [if_pos hc, if_pos (by omega)]
                  · rw [if_neg hc, if_neg (by omega)]
              · rintro x ls M3 hx0 hx1 ⟨rfl, hN3, h873, h883, hF3⟩ ihx
                have ck : M3 86 1 = k := by rw [hF3 86 1 (by unfold kp; omega) (by omega) (by omega)]; exact hkk
                have hbr : ∀ n : Nat, n ≤ k.toNat → bok ((10 : Nat) : Int) (br (mn kind a) (bf (mn kind a) k.toNat i) e.1 n) := fun n hn => bok_br (h0 := e.2) (sc := mn kind a) (hq i).1 he n (by omega) (fun y h0 h1 => by
                  have h2 := (vn_rng hk hv (vn_go hk hv hS (x := y) ⟨h0, by omega⟩)).1
                  exact ⟨h2.1, h2.2⟩)
                have hb1 := hbr x.toNat (by omega)
                have hb2 := hbr (x.toNat + 1) (by omega)
                have ebs : br (mn kind a) (bf (mn kind a) k.toNat i) e.1 (x.toNat + 1) = bs (mn kind a) (br (mn kind a) (bf (mn kind a) k.toNat i) e.1 x.toNat) e.1 x := by
                  rw [br, show ((x.toNat : Nat) : Int) = x by omega]
                have em3 : M3 90 i = e.1 := by
                  obtain ⟨l2, hl2⟩ := br_pre (mn kind a) (bf (mn kind a) k.toNat i) e.1 x.toNat
                  rw [hN3 i (by rw [hl2]; simp; omega), hl2]
                  simp [List.getD, List.getElem?_append_left hlt, he]
                have hpre : ∃ t3, mq kind a k = br (mn kind a) (bf (mn kind a) k.toNat i) e.1 (x.toNat + 1) ++ t3 := by
                  obtain ⟨t2, ht2⟩ := bf_pren (mn kind a) k.toNat (i + 1) (36 - (i + 1))
                  rw [show i + 1 + (36 - (i + 1)) = 36 by omega, bf_s he] at ht2
                  have : ∀ (d2 n : Nat), ∃ t4, br (mn kind a) (bf (mn kind a) k.toNat i) e.1 (n + d2) = br (mn kind a) (bf (mn kind a) k.toNat i) e.1 n ++ t4 := by
                    intro d2
                    induction d2 with
                    | zero => exact fun n => ⟨[], (List.append_nil _).symm⟩
                    | succ d2 ih2 =>
                      intro n
                      obtain ⟨t4, ht4⟩ := ih2 n
                      have : br (mn kind a) (bf (mn kind a) k.toNat i) e.1 (n + (d2 + 1)) = bs (mn kind a) (br (mn kind a) (bf (mn kind a) k.toNat i) e.1 (n + d2)) e.1 ((n + d2 : Nat) : Int) := rfl
                      rw [this]
                      unfold bs
                      split
                      · exact ⟨t4 ++ _, by rw [ht4, List.append_assoc]⟩
                      · exact ⟨t4, ht4⟩
                  obtain ⟨t4, ht4⟩ := this (k.toNat - (x.toNat + 1)) (x.toNat + 1)
                  rw [show x.toNat + 1 + (k.toNat - (x.toNat + 1)) = k.toNat by omega] at ht4
                  refine ⟨t4 ++ t2, ?_⟩
                  unfold mq
                  rw [ht2, ht4, List.append_assoc]
                obtain ⟨t3, ht3⟩ := hpre
                have hin := bs_in (sc := mn kind a) (x := x) hb1.1 heb.1.1 hx0
                have hix := bs_ix (sc := mn kind a) (x := x) (pl := e.1) hb1.1
                rw [← ebs] at hin hix
                have hval : nbr (mq kind a k) (mn kind a e.1 x) = ix (br (mn kind a) (bf (mn kind a) k.toNat i) e.1 x.toNat) (mn kind a e.1 x) := by
                  unfold nbr
                  rw [ht3, hw_pre hin, if_neg hin, ix_pre hin, hix]
                have hl2 : (br (mn kind a) (bf (mn kind a) k.toNat i) e.1 (x.toNat + 1)).length ≤ 6 := by
                  have h9 := (hq 36).2.1
                  have h10 : mq kind a k = bf (mn kind a) k.toNat 36 := rfl
                  rw [← h10, ht3] at h9
                  simp at h9
                  omega
                have hixr := ix_rng (p := mn kind a e.1 x) (q := br (mn kind a) (bf (mn kind a) k.toNat i) e.1 x.toNat)
                have hxx : ∀ p : Int, (x + 1).toNat = x.toNat + 1 := fun _ => by omega
                have hto := vn_rng hk hv (vn_go hk hv hS (x := x) ⟨hx0, hx1⟩)
                refine g9_make_143 (fun c => by exfalso; omega) (fun _ => ?_)
                refine g9_make_152 (by omega) (by omega) ?_
                rw [em3]
                refine c9_leads (fun h3 => by have := hv.2.2 h3; omega) (by omega) ⟨hx0, by omega⟩ ?_
                refine g9_make_167 ?_
                have hlx : (br (mn kind a) (bf (mn kind a) k.toNat i) e.1 x.toNat).length ≤ (br (mn kind a) (bf (mn kind a) k.toNat i) e.1 (x.toNat + 1)).length := by
                  rw [ebs]
                  unfold bs
                  split
                  · simp
                  · exact Nat.le_refl _
                refine s9_make hN3 (by omega) ?_
                have h87n : ∀ (M4 : am_M), (∀ p y : Int, 0 ≤ p ∧ p < 6 → 0 ≤ y ∧ y < 4 → M4 87 (24 * s + 4 * p + y) = M3 87 (24 * s + 4 * p + y)) → ∀ p y : Int, 0 ≤ p ∧ p < 6 → 0 ≤ y ∧ y < 4 → am_up M4 87 (24 * s + 4 * i + x) (ix (br (mn kind a) (bf (mn kind a) k.toNat i) e.1 x.toNat) (mn kind a e.1 x)) 87 (24 * s + 4 * p + y) = if (p < i ∨ (p = i ∧ y < x + 1)) ∧ y < k then nbr (mq kind a k) (mn kind a ((mq kind a k).getD p.toNat (0, 0)).1 y) else 0 := by
                  intro M4 hM4 p y hp hy
                  by_cases hc : p = i ∧ y = x
                  · obtain ⟨rfl, rfl⟩ := hc
                    rw [am_up_hit, if_pos (by omega), show ((i : Int)).toNat = i by omega, eqf, hval]
                  · rw [am_upn (Or.inr (by omega)), hM4 p y hp hy, h873 p y hp hy]
                    by_cases hc2 : (p < i ∨ (p = i ∧ y < x)) ∧ y < k
                    · rw [if_pos hc2, if_pos (by omega)]
                    · rw [if_neg hc2, if_neg (by omega)]
                refine g9_make_197 (fun c => ?_) (fun c => ?_)
                · have hn : ¬ hw (br (mn kind a) (bf (mn kind a) k.toNat i) e.1 x.toNat) (mn kind a e.1 x) = -2 := fun hn => c (ix_none hb1.1 hn)
                  have eq2 : br (mn kind a) (bf (mn kind a) k.toNat i) e.1 (x + 1).toNat = br (mn kind a) (bf (mn kind a) k.toNat i) e.1 x.toNat := by
                    rw [show (x + 1).toNat = x.toNat + 1 by omega, ebs]
                    unfold bs
                    rw [if_neg hn]
                  refine g9_make_216 (by omega) (by omega) (by omega) (by omega) (by omega) (by omega) (by omega) ?_
                  refine ihx _ _ ⟨by rw [eq2], ?_, h87n M3 (fun _ _ _ _ => rfl), ?_, ?_⟩
                  · rw [eq2]
                    intro j hj
                    rw [am_upn (Or.inl (by omega))]
                    exact hN3 j hj
                  · intro p hp
                    rw [am_upn (Or.inl (by omega))]
                    exact h883 p hp
                  · intro b j hkp h1 h2
                    rw [am_upn (by omega)]
                    exact hF3 b j hkp h1 h2
                · have hn : hw (br (mn kind a) (bf (mn kind a) k.toNat i) e.1 x.toNat) (mn kind a e.1 x) = -2 := by
                    by_cases hn : hw (br (mn kind a) (bf (mn kind a) k.toNat i) e.1 x.toNat) (mn kind a e.1 x) = -2
                    · exact hn
                    · have := ix_lt hn
                      omega
                  have eq2 : br (mn kind a) (bf (mn kind a) k.toNat i) e.1 (x + 1).toNat = br (mn kind a) (bf (mn kind a) k.toNat i) e.1 x.toNat ++ [(mn kind a e.1 x, e.1 * 4 + x)] := by
                    rw [show (x + 1).toNat = x.toNat + 1 by omega, ebs]
                    unfold bs
                    rw [if_pos hn]
                  refine g9_make_204 (by omega) (by omega) (by omega) ?_
                  refine g9_make_216 (by omega) (by omega) (by omega) (by omega) (by omega) (by omega) (by omega) ?_
                  refine ihx _ _ ⟨by rw [eq2]; simp, ?_, h87n _ (fun p y _ _ => am_upn (Or.inl (by omega))), ?_, ?_⟩
                  · rw [eq2]
                    intro j hj
                    rw [am_upn (Or.inl (by omega))]
                    by_cases hjl : j = (br (mn kind a) (bf (mn kind a) k.toNat i) e.1 x.toNat).length
                    · subst hjl
                      rw [am_up_hit]
                      simp [List.getD]
                    · have hj' : j < (br (mn kind a) (bf (mn kind a) k.toNat i) e.1 x.toNat).length := by simp at hj; omega
                      rw [am_upn (Or.inr (by omega)), hN3 j hj']
                      simp [List.getD, List.getElem?_append_left hj']
                  · intro p hp
                    rw [am_upn (Or.inl (by omega)), am_upn (Or.inl (by omega))]
                    exact h883 p hp
                  · intro b j hkp h1 h2
                    rw [am_upn (by omega), am_upn (by unfold kp at hkp; omega)]
                    exact hF3 b j hkp h1 h2
            · have hend : mq kind a k = bf (mn kind a) k.toNat i := bf_end (i := i) (n := 36) (by omega) (by omega)
              have hil2 : (i : Int) = (mq kind a k).length := by
                rw [hend]
                omega
              refine g9_make_110 (fun _ => ?_) (fun c => by exfalso; omega)
              refine g9_make_247 ?_
              rw [← hend]
              refine k1 hs hv M2 (fun p x hp hx => ?_) (fun p hp => ?_) hF
              · rw [h87 p x hp hx, hil2]
                rfl
              · rw [h88 p hp, hil2]
                rfl
        refine key 36 0 _ (by omega) (by omega) ?_ ?_ ?_ ?_
        · intro j hj
          have : j = 0 := by
            have : j < 1 := hj
            omega
          subst this
          rw [show ((0 : Nat) : Int) = 0 by omega, am_up_hit]
          rfl
        · intro p x hp hx
          rw [am_upn (Or.inl (by omega)), if_neg (by omega)]
          unfold ba
          rw [am_fl_out (by omega), am_fl_in (by omega)]
        · intro p hp
          rw [am_upn (Or.inl (by omega)), if_neg (by omega)]
          unfold ba
          rw [am_fl_in (by omega)]
        · intro b j hkp h1 h2
          rw [am_upn (by unfold kp at hkp; omega)]
          unfold ba
          rw [am_fl_out (by omega), am_fl_out (by omega)]
          exact hf0 b j hkp
      have mid : ¬ (lt_ kind ∧ ¬ (0 ≤ a ∧ a < k)) → ∀ z : Int, am_AtN m9_make 72 [some (vr 86), some (vi s), some (vi kind), some (vi a), some (vi z), none, none, none, none, none] [] KS (am_up M 86 0 0) Q := by
        intro hla z
        have hla2 : lt_ kind → 0 ≤ a ∧ a < k := fun h => by
          by_cases h2 : 0 ≤ a ∧ a < k
          · exact h2
          · exact absurd ⟨h, h2⟩ hla
        refine g9_make_72 (fun c => ?_) (fun c => ?_)
        · exact body ⟨hK, hla2, fun h => absurd h c⟩ z
        · refine g9_make_77 ?_
          refine c9_in ?_
          by_cases ha : 1 ≤ a ∧ a ≤ 6
          · rw [if_pos ha]
            refine g9_make_86 (fun _ => ?_) (fun c => by exfalso; omega)
            exact body ⟨hK, hla2, fun _ => ha⟩ z
          · rw [if_neg ha]
            refine g9_make_86 (fun c => by exfalso; omega) (fun _ => ?_)
            exact g9_make_89 (k2 hs hla (Or.inr ⟨c, ha⟩) _ hf0)
      by_cases hl : lt_ kind
      · have t50 : am_AtN m9_make 50 [some (vr 86), some (vi s), some (vi kind), some (vi a), none, none, none, none, none, none] [] KS (am_up M 86 0 0) Q := by
          refine g9_make_50 ?_
          refine g9_make_55 (fun c => by exfalso; omega) (fun _ => ?_)
          refine g9_make_62 ?_
          refine c9_noLetter (by omega) ?_
          rw [e1]
          by_cases ha : 0 ≤ a ∧ a < k
          · rw [if_pos ha]
            refine g9_make_67 (fun _ => ?_) (fun c => by exfalso; omega)
            exact mid (fun h => h.2 ha) 1
          · rw [if_neg ha]
            refine g9_make_67 (fun c => by exfalso; omega) (fun _ => ?_)
            exact g9_make_70 (k0 (Or.inr ⟨hl, ha⟩) _ hf0)
        refine g9_make_29 (fun _ => t50) (fun c2 => ?_)
        refine g9_make_34 (fun _ => t50) (fun c4 => ?_)
        refine g9_make_39 (fun _ => t50) (fun c5 => ?_)
        exact g9_make_44 (fun c6 => by exfalso; unfold lt_ at hl; omega) (fun _ => t50)
      · unfold lt_ at hl
        refine g9_make_29 (fun c => by exfalso; omega) (fun _ => ?_)
        refine g9_make_34 (fun c => by exfalso; omega) (fun _ => ?_)
        refine g9_make_39 (fun c => by exfalso; omega) (fun _ => ?_)
        refine g9_make_44 (fun _ => ?_) (fun c => by exfalso; omega)
        refine g9_make_54 ?_
        refine g9_make_55 (fun _ => ?_) (fun c => by exfalso; omega)
        exact mid (fun h => hl h.1) 0
    · rw [if_neg hK]
      refine g9_make_23 (fun c => by exfalso; omega) (fun _ => ?_)
      exact g9_make_26 (k2 hs (fun h => by unfold lt_ at h; omega) (Or.inl hK) _ hf0)
  · rw [if_neg hs]
    refine g9_make_9 (fun c => by exfalso; omega) (fun _ => ?_)
    exact g9_make_12 (k0 (Or.inl hs) _ hf0)
