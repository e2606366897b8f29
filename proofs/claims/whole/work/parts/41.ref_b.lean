/-! ===== the reference: its walk over the places, pictures ===== -/
/-- places of the memory that questions leave as they are -/
def kp (b j : Int) : Prop := ¬ (b = 89 ∨ b = 90 ∨ b = 91 ∨ (95 ≤ b ∧ b ≤ 98) ∨ (100 ≤ b ∧ b ≤ 108) ∨ (110 ≤ b ∧ b ≤ 112)) ∧ (b = 86 → j = 1 ∨ j = 31)
def fr9 (M M' : am_M) : Prop := ∀ b j : Int, kp b j → M' b j = M b j
theorem fr9.rf {M : am_M} : fr9 M M := fun _ _ _ => rfl
theorem fr9.tr {M M' M'' : am_M} (h : fr9 M M') (h' : fr9 M' M'') : fr9 M M'' := fun b j hk => (h' b j hk).trans (h b j hk)
theorem fr9.up {M : am_M} {a i v : Int} (h : ¬ kp a i) : fr9 M (am_up M a i v) := fun b j hk => am_upn (by
  by_cases h1 : b = a
  · by_cases h2 : j = i
    · exact absurd (by rw [← h1, ← h2]; exact hk) h
    · exact Or.inr h2
  · exact Or.inl h1)
theorem fr9.st {M : am_M} {s p : Int} : fr9 M (st_ M s p) := fun b j hk => st_o (by unfold kp at hk; omega)
theorem fr9.ksm {M M' : am_M} (h : fr9 M M') : sm M' = sm M := by
  funext a
  refine Prod.ext ?_ ?_
  · funext p x
    exact h 87 _ (by unfold kp; omega)
  · funext p
    exact h 88 _ (by unfold kp; omega)
theorem fr9.kpm {M M' : am_M} (h : fr9 M M') : pm M' = pm M := by
  funext a
  refine Prod.ext ?_ (Prod.ext ?_ ?_)
  · funext p x
    exact h 92 _ (by unfold kp; omega)
  · funext p x
    exact h 93 _ (by unfold kp; omega)
  · funext p
    exact h 94 _ (by unfold kp; omega)
theorem fr9.kcm {M M' : am_M} (h : fr9 M M') {a b c d : Int} : cm M' a b c d = cm M a b c d := by
  unfold cm qm
  rw [h.ksm, h.kpm]
def mdat (M : am_M) : Prop := (2 ≤ M 86 1 ∧ M 86 1 ≤ 4) ∧ (∀ j : Int, 0 ≤ j ∧ j < 192 → 0 ≤ M 87 j ∧ M 87 j < 6) ∧ (∀ j : Int, 0 ≤ j ∧ j < 48 → M 88 j = 0 ∨ M 88 j = 1) ∧ (∀ j : Int, 0 ≤ j ∧ j < 96 → 0 ≤ M 92 j ∧ M 92 j < 6) ∧ (∀ p s x : Int, 0 ≤ p ∧ p < 4 → 0 ≤ s ∧ s < 6 → 0 ≤ x ∧ x < M 86 1 → wv (M 86 1) (M 93 (24 * p + 4 * s + x))) ∧ ∀ j : Int, 0 ≤ j ∧ j < 24 → M 94 j = -1 ∨ wv (M 86 1) (M 94 j)
theorem mdat.of {M M' : am_M} (h : mdat M) (hf : fr9 M M') : mdat M' := by
  have e : M' 86 1 = M 86 1 := hf 86 1 (by unfold kp; omega)
  obtain ⟨h1, h2, h3, h4, h5, h6⟩ := h
  refine ⟨by rw [e]; exact h1, fun j hj => ?_, fun j hj => ?_, fun j hj => ?_, fun p s x hp hs hx => ?_, fun j hj => ?_⟩
  · rw [hf 87 j (by unfold kp; omega)]
    exact h2 j hj
  · rw [hf 88 j (by unfold kp; omega)]
    exact h3 j hj
  · rw [hf 92 j (by unfold kp; omega)]
    exact h4 j hj
  · rw [hf 93 _ (by unfold kp; omega), e]
    exact h5 p s x hp hs (by omega)
  · rw [hf 94 j (by unfold kp; omega), e]
    exact h6 j hj
theorem mdat.sok {M : am_M} (h : mdat M) {a : Int} (ha : 0 ≤ a ∧ a ≤ 7) : okS (sm M a) := fun p x hp hx => h.2.1 _ (by omega)
theorem mdat.pok {M : am_M} (h : mdat M) {p : Int} (hp : 0 ≤ p ∧ p ≤ 3) : okP (M 86 1) (pm M p) :=
  ⟨fun s x hs hx => h.2.2.2.1 _ (by omega), fun s x hs hx => h.2.2.2.2.1 p s x (by omega) hs hx, fun s hs => h.2.2.2.2.2 _ (by omega)⟩
theorem mdat.ok {M : am_M} (h : mdat M) {a p q b : Int} (ha : 0 ≤ a ∧ a ≤ 7) (hp : 0 ≤ p ∧ p ≤ 3) (hq : -1 ≤ q ∧ q ≤ 3) (hb : 0 ≤ b ∧ b ≤ 7) : okC (M 86 1) (cm M a p q b) := by
  refine ⟨h.1, h.sok ha, h.pok hp, fun P hP => ?_, h.sok hb⟩
  have hP' : qm M q = some P := hP
  unfold qm at hP'
  split at hP'
  · cases hP'
  · rw [← Option.some.inj hP']
    exact h.pok (by omega)
/-- the walk in the reference's arrays -/
def RM (M : am_M) (q : List (Int × Int)) : Prop := M 86 15 = q.length ∧ (∀ j : Nat, j < q.length → M 95 j = (q.getD j (0, 0)).1) ∧ (∀ p : Int, 0 ≤ p ∧ p < 1296 → M 98 p = if hw q p = -2 then 0 else 1) ∧ ∀ p : Int, 0 ≤ p ∧ p < 1296 → (0 ≤ hw q p → M 96 p = hw q p / 4 ∧ M 97 p = hw q p % 4) ∧ (hw q p = -1 → M 96 p = -9)
def RW (M : am_M) (q : List (Int × Int)) : Prop := ∀ p : Int, 0 ≤ p ∧ p < 1296 → (0 ≤ hw q p → M 96 p = hw q p / 4 ∧ M 97 p = hw q p % 4) ∧ (hw q p = -1 → M 96 p = -9)
theorem RM.st {M : am_M} {q : List (Int × Int)} (h : RM M q) (s p : Int) : RM (st_ M s p) q := by
  obtain ⟨h1, h2, h3, h4⟩ := h
  refine ⟨by rw [st_o (by omega)]; exact h1, fun j hj => by rw [st_o (by omega)]; exact h2 j hj, fun p hp => by rw [st_o (by omega)]; exact h3 p hp, fun p hp => ?_⟩
  rw [st_o (by omega), st_o (by omega)]
  exact h4 p hp
theorem fb_app {b : Int → Int} {e : Int × Int} : ∀ (l : List (Int × Int)), (∀ x ∈ l, 0 ≤ x.1) → fb b (l ++ [e]) = if fb b l = -9 then (if b e.1 = 1 then e.1 else -9) else fb b l
  | [], _ => by simp [fb]
  | x :: l, h => by
    have ih := fb_app (b := b) (e := e) l (fun y hy => h y (List.mem_cons_of_mem _ hy))
    have hx := h x List.mem_cons_self
    show (if b x.1 = 1 then x.1 else fb b (l ++ [e])) = if (if b x.1 = 1 then x.1 else fb b l) = -9 then _ else (if b x.1 = 1 then x.1 else fb b l)
    by_cases h1 : b x.1 = 1
    · rw [if_pos h1, if_pos h1, if_neg (by omega)]
    · rw [if_neg h1, if_neg h1, ih]
theorem take_p {l : List (Int × Int)} {i : Nat} {e : Int × Int} (h : l[i]? = some e) : l.take (i + 1) = l.take i ++ [e] := by
  rw [List.take_add_one, h]
  rfl
theorem c9_meet {M : am_M} {Q : Option am_V → am_M → Prop} {a p q b : Int} (hd : mdat M) (ha : 0 ≤ a ∧ a ≤ 7) (hp : 0 ≤ p ∧ p ≤ 3) (hq : -1 ≤ q ∧ q ≤ 3) (hb : 0 ≤ b ∧ b ≤ 7)
    (kk : ∀ M', RM M' (bf (af (cm M a p q b)) (M 86 1).toNat 1296) → fr9 M M' → Q (some (vi (fb (bd (cm M a p q b)) (bf (af (cm M a p q b)) (M 86 1).toNat 1296)))) M') : am_CallN m9_meet [vr 86, vi a, vi p, vi q, vi b] KS M Q := by
  have hok := hd.ok ha hp hq hb
  have hk := hd.1
  generalize hkk : M 86 1 = k at hok hk kk
  generalize hcc : cm M a p q b = c at hok kk
  have hsc : ∀ p x : Int, 0 ≤ p → p < ((1296 : Nat) : Int) → 0 ≤ x → x < (k.toNat : Int) → 0 ≤ af c p x ∧ af c p x < ((1296 : Nat) : Int) := fun p x h0 h1 h2 h3 => af_rng hok ⟨h0, h1⟩ ⟨h2, by omega⟩
  have hB := bok_bf (NS := ((1296 : Nat) : Int)) (sc := af c) (k := k.toNat) (by omega) (by omega) hsc
  refine am_callN_of (by decide +kernel) rfl rfl (Nat.le_of_ble_eq_true rfl) ?_
  refine g9_meet_0 ?_
  refine am_for (fun i => [some (vr 86), some (vi a), some (vi p), some (vi q), some (vi b), some (vi i), none, none, none, none]) (fun i => am_fl M 98 0 i (fun _ => 0)) 0 1296 (by omega) rfl am_fl_0.symm ?_ (fun i h0 h1 ih => ?_)
  · refine g9_meet_3 (fun _ => ?_) (fun c => by exfalso; omega)
    refine g9_meet_25 ?_
    have key : ∀ (d : Nat) (i : Nat) (M2 : am_M), i + d = 1296 → RM M2 (bf (af c) k.toNat i) → fr9 M M2 → am_AtN m9_meet 59 [some (vr 86), some (vi a), some (vi p), some (vi q), some (vi b), some (vi (fb (bd c) ((bf (af c) k.toNat i).take i))), some (vi (i : Int)), none, none, none] [] KS M2 Q := by
      intro d
      induction d with
      | zero =>
        intro i M2 hi hR hf
        have hl := (hB i).bound
        refine g9_meet_59 (fun _ => ?_) (fun c => by exfalso; rw [hR.1] at c; omega)
        refine g9_meet_203 ?_
        rw [List.take_of_length_le (by omega)]
        rw [show (1296 : Nat) = i by omega] at kk
        exact kk M2 hR hf
      | succ d ih =>
        intro i M2 hi hR hf
        by_cases hlt : i < (bf (af c) k.toNat i).length
        · obtain ⟨e, he⟩ : ∃ e, (bf (af c) k.toNat i)[i]? = some e := ⟨_, List.getElem?_eq_getElem hlt⟩
          have heb := (hB i).2.2.1 e (List.mem_of_getElem? he)
          have heb2 : 0 ≤ e.1 ∧ e.1 < 1296 := heb
          have em : M2 95 i = e.1 := by
            rw [hR.2.1 i hlt]
            simp [List.getD, he]
          have hfb := fb_app (b := bd c) (e := e) ((bf (af c) k.toNat i).take i) (fun x hx => ((hB i).2.2.1 x (List.mem_of_mem_take hx)).1)
          rw [← take_p he] at hfb
          have cont : ∀ M3, RM M3 (bf (af c) k.toNat i) → fr9 M M3 → am_AtN m9_meet 105 [some (vr 86), some (vi a), some (vi p), some (vi q), some (vi b), some (vi (fb (bd c) ((bf (af c) k.toNat i).take i))), some (vi (i : Int)), some (vi e.1), none, none] [vi (fb (bd c) ((bf (af c) k.toNat i).take (i + 1)))] KS M3 Q := by
            intro M3 hR3 hf3
            refine g9_meet_105 ?_
            refine am_forR (fun x ls M4 => ls = [some (vr 86), some (vi a), some (vi p), some (vi q), some (vi b), some (vi (fb (bd c) ((bf (af c) k.toNat i).take (i + 1)))), some (vi (i : Int)), some (vi e.1), some (vi x), none] ∧ RM M4 (br (af c) (bf (af c) k.toNat i) e.1 x.toNat) ∧ fr9 M M4) 0 k (by omega) ⟨rfl, hR3, hf3⟩ ?_ ?_
            · rintro ls M4 ⟨rfl, hR4, hf4⟩
              have ck : M4 86 1 = k := by rw [hf4 86 1 (by unfold kp; omega)]; exact hkk
              refine g9_meet_110 (fun _ => ?_) (fun c => by exfalso; omega)
              refine g9_meet_197 (by omega) ?_
              have h2 := ih (i + 1) M4 (by omega) (by rw [bf_s he]; exact hR4) hf4
              obtain ⟨t, ht⟩ := bf_pre (af c) k.toNat i
              rw [ht, List.take_append_of_le_length (by omega)] at h2
              exact h2
            · rintro x ls M4 hx0 hx1 ⟨rfl, hR4, hf4⟩ ihx
              have ck : M4 86 1 = k := by rw [hf4 86 1 (by unfold kp; omega)]; exact hkk
              have hc4 : cm M4 a p q b = c := by rw [hf4.kcm]; exact hcc
              have hbr := bok_br (h0 := e.2) (sc := af c) (hB i) he x.toNat (by omega) (fun y h0 h1 => hsc e.1 y heb.1 heb.2 h0 (by omega))
              have hbr2 := bok_br (h0 := e.2) (sc := af c) (hB i) he (x.toNat + 1) (by omega) (fun y h0 h1 => hsc e.1 y heb.1 heb.2 h0 (by omega))
              have hA := hsc e.1 x heb.1 heb.2 hx0 (by omega)
              have ebs : br (af c) (bf (af c) k.toNat i) e.1 (x.toNat + 1) = bs (af c) (br (af c) (bf (af c) k.toNat i) e.1 x.toNat) e.1 x := by
                rw [br, show ((x.toNat : Nat) : Int) = x by omega]
              rw [ebs] at hbr2
              refine g9_meet_110 (fun c => by exfalso; omega) (fun _ => ?_)
              refine g9_meet_119 ?_
              refine c9_leadsTo (k := k) ha hp hq hb (by rw [hc4]; exact hok) heb ⟨hx0, hx1⟩ (fun s t => ?_)
              rw [hc4]
              have hR5 := hR4.st s t
              have hf5 := hf4.tr (fr9.st (s := s) (p := t))
              generalize st_ M4 s t = M5 at hR5 hf5
              have e5 := hR5.2.2.1 (af c e.1 x) hA
              refine g9_meet_132 hA.1 hA.2 (fun c1 => ?_) (fun c1 => ?_)
              · have hn : ¬ hw (br (af c) (bf (af c) k.toNat i) e.1 x.toNat) (af c e.1 x) = -2 := by
                  intro hn
                  rw [if_pos hn] at e5
                  exact c1 e5
                refine g9_meet_191 (by omega) ?_
                refine ihx _ M5 ⟨rfl, ?_, hf5⟩
                rw [show (x + 1).toNat = x.toNat + 1 by omega, ebs]
                unfold bs
                rw [if_neg hn]
                exact hR5
              · have hn : hw (br (af c) (bf (af c) k.toNat i) e.1 x.toNat) (af c e.1 x) = -2 := by
                  by_cases hn : hw (br (af c) (bf (af c) k.toNat i) e.1 x.toNat) (af c e.1 x) = -2
                  · exact hn
                  · rw [if_neg hn] at e5
                    omega
                have hlen : ((br (af c) (bf (af c) k.toNat i) e.1 x.toNat).length : Int) < 1296 := by
                  have := hbr2.bound
                  unfold bs at this
                  rw [if_pos hn] at this
                  simp at this
                  omega
                have e6 := hR5.1
                generalize hqq : br (af c) (bf (af c) k.toNat i) e.1 x.toNat = qq at hR5 hn hlen e6 ebs hbr
                generalize hto : af c e.1 x = to at hA hn ebs
                have f1 : am_up (am_up (am_up M5 98 to 1) 96 to e.1) 97 to x 86 15 = qq.length := by
                  rw [am_upn (Or.inl (by omega)), am_upn (Or.inl (by omega)), am_upn (Or.inl (by omega)), e6]
                have f2 : am_up (am_up (am_up (am_up M5 98 to 1) 96 to e.1) 97 to x) 95 (am_up (am_up (am_up M5 98 to 1) 96 to e.1) 97 to x 86 15) to 86 15 = qq.length := by
                  rw [am_upn (Or.inl (by omega)), f1]
                refine g9_meet_144 hA.1 hA.2 hA.1 hA.2 hA.1 hA.2 (by rw [f1]; omega) (by rw [f1]; omega) (by rw [f2]; omega) ?_
                rw [f2, f1]
                refine g9_meet_191 (by omega) ?_
                refine ihx _ _ ⟨rfl, ?_, ?_⟩
                · rw [show (x + 1).toNat = x.toNat + 1 by omega, ebs]
                  unfold bs
                  rw [hto, if_pos hn]
                  refine ⟨by rw [am_up_hit]; simp, fun j hj => ?_, fun p' hp' => ?_, fun p' hp' => ?_⟩
                  · rw [am_upn (Or.inl (by omega))]
                    by_cases hjl : j = qq.length
                    · subst hjl
                      rw [am_up_hit]
                      simp [List.getD]
                    · have hj' : j < qq.length := by simp at hj; omega
                      rw [am_upn (Or.inr (by omega)), am_upn (Or.inl (by omega)), am_upn (Or.inl (by omega)), am_upn (Or.inl (by omega)), hR5.2.1 j hj']
                      simp [List.getD, List.getElem?_append_left hj']
                  · rw [am_upn (Or.inl (by omega)), am_upn (Or.inl (by omega)), am_upn (Or.inl (by omega)), am_upn (Or.inl (by omega)), hw_app hbr.1]
                    by_cases hpp : p' = to
                    · subst hpp
                      rw [am_up_hit, if_pos hn, if_pos rfl, if_neg (by omega)]
                    · rw [am_upn (Or.inr hpp), hR5.2.2.1 p' hp']
                      have hX : (if hw qq p' = -2 then (if to = p' then e.1 * 4 + x else -2) else hw qq p') = hw qq p' := by
                        split
                        · rename_i hz
                          rw [if_neg (fun h => hpp h.symm), hz]
                        · rfl
                      rw [hX]
                  · have g96 : am_up (am_up (am_up (am_up (am_up M5 98 to 1) 96 to e.1) 97 to x) 95 qq.length to) 86 15 (qq.length + 1) 96 p' = if p' = to then e.1 else M5 96 p' := by
                      rw [am_upn (Or.inl (by omega)), am_upn (Or.inl (by omega)), am_upn (Or.inl (by omega))]
                      split
                      · rename_i hz
                        rw [hz, am_up_hit]
                      · rename_i hz
                        rw [am_upn (Or.inr hz), am_upn (Or.inl (by omega))]
                    have g97 : am_up (am_up (am_up (am_up (am_up M5 98 to 1) 96 to e.1) 97 to x) 95 qq.length to) 86 15 (qq.length + 1) 97 p' = if p' = to then x else M5 97 p' := by
                      rw [am_upn (Or.inl (by omega)), am_upn (Or.inl (by omega))]
                      split
                      · rename_i hz
                        rw [hz, am_up_hit]
                      · rename_i hz
                        rw [am_upn (Or.inr hz), am_upn (Or.inl (by omega)), am_upn (Or.inl (by omega))]
                    rw [g96, g97, hw_app hbr.1]
                    by_cases hpp : p' = to
                    · subst hpp
                      rw [if_pos rfl, if_pos rfl, if_pos hn, if_pos rfl]
                      exact ⟨fun _ => ⟨by omega, by omega⟩, fun h => by omega⟩
                    · rw [if_neg hpp, if_neg hpp]
                      have hthis := hR5.2.2.2 p' hp'
                      have hX : (if hw qq p' = -2 then (if to = p' then e.1 * 4 + x else -2) else hw qq p') = hw qq p' := by
                        split
                        · rename_i hz
                          rw [if_neg (fun h => hpp h.symm), hz]
                        · rfl
                      rw [hX]
                      exact hthis
                · exact hf5.tr ((((fr9.up (by unfold kp; omega)).tr (fr9.up (by unfold kp; omega))).tr (fr9.up (by unfold kp; omega))).tr ((fr9.up (by unfold kp; omega)).tr (fr9.up (by unfold kp; omega))))
          have hc2 : cm M2 a p q b = c := by rw [hf.kcm]; exact hcc
          refine g9_meet_59 (fun c => by exfalso; rw [hR.1] at c; omega) (fun _ => ?_)
          refine g9_meet_68 (by omega) (by omega) (fun c1 => ?_) (fun c1 => ?_)
          · rw [em]
            refine g9_meet_103 ?_
            rw [if_neg c1] at hfb
            have h2 := cont M2 hR hf
            rw [hfb] at h2
            exact h2
          · rw [em]
            rw [if_pos c1] at hfb
            refine g9_meet_84 ?_
            refine c9_isBad (k := k) ha hp hq hb (by rw [hc2]; exact hok) (fun j hj => (hd.of hf).2.2.1 j hj) heb (fun s t => ?_)
            rw [hc2]
            have h2 := cont (st_ M2 s t) (hR.st s t) (hf.tr fr9.st)
            rcases bd01 c e.1 with hbd | hbd
            · rw [if_neg (by omega)] at hfb
              rw [hbd]
              refine g9_meet_95 (fun _ => ?_) (fun c => by exfalso; omega)
              refine g9_meet_103 ?_
              rw [hfb, ← c1] at h2
              exact h2
            · rw [if_pos hbd] at hfb
              rw [hbd]
              refine g9_meet_95 (fun c => by exfalso; omega) (fun _ => ?_)
              refine g9_meet_98 ?_
              rw [hfb] at h2
              exact h2
        · refine g9_meet_59 (fun _ => ?_) (fun c => by exfalso; rw [hR.1] at c; omega)
          refine g9_meet_203 ?_
          rw [List.take_of_length_le (by omega)]
          rw [bf_end (i := i) (n := 1296) (by omega) (by omega)] at kk
          exact kk M2 hR hf
    refine key 1296 0 _ (by omega) ?_ ?_
    · show RM _ [(0, -1)]
      refine ⟨am_up_hit, fun j hj => ?_, fun p' hp' => ?_, fun p' hp' => ?_⟩
      · have : j = 0 := by simp at hj; omega
        subst this
        rw [am_upn (Or.inl (by omega)), am_upn (Or.inl (by omega))]
        exact am_up_hit
      · rw [am_upn (Or.inl (by omega)), am_upn (Or.inl (by omega)), am_upn (Or.inl (by omega))]
        by_cases h0 : p' = 0
        · subst h0
          rw [am_up_hit]
          rfl
        · rw [am_upn (Or.inr h0), am_fl_in hp']
          simp [hw, fun e : (0 : Int) = p' => h0 e.symm]
          intro h
          exact absurd h.symm h0
      · by_cases h0 : p' = 0
        · subst h0
          refine ⟨fun h => absurd h (by decide), fun _ => ?_⟩
          rw [am_upn (Or.inl (by omega))]
          exact am_up_hit
        · have : hw [(0, -1)] p' = -2 := by
            simp [hw]
            intro h
            exact absurd h.symm h0
          rw [this]
          exact ⟨fun h => by omega, fun h => by omega⟩
    · have hf0 : fr9 M (am_fl M 98 0 1296 (fun _ => 0)) := fun b j hk => am_fl_out (by unfold kp at hk; omega)
      refine hf0.tr ?_
      exact (((fr9.up (by unfold kp; omega)).tr (fr9.up (by unfold kp; omega))).tr (fr9.up (by unfold kp; omega))).tr (fr9.up (by unfold kp; omega))
  · refine g9_meet_3 (fun c => by exfalso; omega) (fun _ => ?_)
    refine g9_meet_11 h0 h1 (by omega) ?_
    exact am_mem (am_fl_s (f := fun _ => 0) h0) ih
theorem c9_told {M : am_M} {Q : Option am_V → am_M → Prop} {q : List (Int × Int)} {n : Nat} {e : Int × Int} {i : Int} (hR : RW M q) (hB : bok ((1296 : Nat) : Int) q) (hn : q[n]? = some e) (hi : -1 ≤ i) (kk : ∀ M', fr9 M M' → Q (some (vi (pic q e.1 i))) M') : am_CallN m9_told [vr 86, vi e.1, vi i] KS M Q := by
  have hil := (List.getElem?_eq_some_iff.mp hn).1
  have hl := hB.bound
  have hln := (ln_pa hB n e hn 1296 (by omega) 0 (by omega)).1
  have pl_ok : ∀ m : Nat, m ≤ ln q 1296 e.1 → (0 ≤ pa q m e.1 ∧ pa q m e.1 < 1296) ∧ (m < ln q 1296 e.1 → 0 ≤ hw q (pa q m e.1)) ∧ (m = ln q 1296 e.1 → hw q (pa q m e.1) = -1) := by
    intro m hm
    obtain ⟨_, ⟨j, e', hj, hp⟩, h3, h4⟩ := ln_pa hB n e hn 1296 (by omega) m hm
    have hb := hB.2.2.1 e' (List.mem_of_getElem? hj)
    have hw' := hw_at hB hj
    have h1 := hB.1 e' (List.mem_of_getElem? hj)
    rw [hp] at hb hw'
    exact ⟨hb, h3, fun h => by have := h4 h; omega⟩
  refine am_callN_of (by decide +kernel) rfl rfl (Nat.le_of_ble_eq_true rfl) ?_
  refine g9_told_0 ?_
  refine am_forR (fun m ls M' => ls = [some (vr 86), some (vi e.1), some (vi i), some (vi m), some (vi (pa q m.toNat e.1))] ∧ (∀ b j : Int, b ≠ 112 → M' b j = M b j) ∧ ∀ j : Nat, (j : Int) < m → M' 112 j = hw q (pa q j e.1) % 4) 0 (ln q 1296 e.1) (by omega) ⟨rfl, fun _ _ _ => rfl, fun j hj => by omega⟩ ?_ ?_
  · rintro ls M1 ⟨rfl, h1, h2⟩
    obtain ⟨hb, -, h3⟩ := pl_ok (ln q 1296 e.1) (by omega)
    have h3 := h3 rfl
    have hf : fr9 M M1 := fun b j hk => h1 b j (by unfold kp at hk; omega)
    rw [Int.toNat_natCast]
    refine g9_told_5 hb.1 hb.2 (fun _ => ?_) (fun c => by exfalso; rw [h1 96 _ (by omega)] at c; exact c ((hR _ hb).2 h3))
    have kk := kk M1 hf
    unfold pic at kk
    by_cases hi1 : i = -1
    · rw [if_pos hi1] at kk
      refine g9_told_45 (fun c => absurd hi1 c) (fun _ => ?_)
      refine g9_told_50 ?_
      exact g9_told_74 kk
    · rw [if_neg hi1] at kk
      refine g9_told_45 (fun _ => ?_) (fun c => absurd c hi1)
      by_cases h2i : 0 ≤ i ∧ i < ln q 1296 e.1
      · rw [if_pos h2i] at kk
        refine g9_told_54 (fun c => by exfalso; omega) (fun _ => ?_)
        refine g9_told_59 (by omega) (by omega) (by omega) (by omega) ?_
        refine g9_told_74 ?_
        have e1 := h2 (ln q 1296 e.1 - 1 - i.toNat) (by omega)
        rw [show ((ln q 1296 e.1 - 1 - i.toNat : Nat) : Int) = (ln q 1296 e.1 : Int) - 1 - i by omega] at e1
        rw [e1]
        exact kk
      · rw [if_neg h2i] at kk
        refine g9_told_54 (fun _ => ?_) (fun c => by exfalso; omega)
        refine g9_told_72 ?_
        exact g9_told_74 kk
  · rintro m ls M1 hm0 hm1 ⟨rfl, h1, h2⟩ ih
    obtain ⟨hb, h3, -⟩ := pl_ok m.toNat (by omega)
    have h3 := h3 (by omega)
    obtain ⟨r1, r2⟩ := (hR _ hb).1 h3
    have e96 : M1 96 (pa q m.toNat e.1) = hw q (pa q m.toNat e.1) / 4 := by rw [h1 96 _ (by omega)]; exact r1
    have e97 : M1 97 (pa q m.toNat e.1) = hw q (pa q m.toNat e.1) % 4 := by rw [h1 97 _ (by omega)]; exact r2
    refine g9_told_5 hb.1 hb.2 (fun c => by exfalso; omega) (fun _ => ?_)
    refine g9_told_17 hb.1 hb.2 hm0 (by omega) (by omega) hb.1 hb.2 ?_
    rw [am_upn (Or.inl (by omega)), e96, e97]
    refine ih _ _ ⟨?_, fun b j hb => by rw [am_upn (Or.inl hb)]; exact h1 b j hb, fun j hj => ?_⟩
    · rw [show (m + 1).toNat = m.toNat + 1 by omega, pa_s]
    · by_cases hjm : (j : Int) = m
      · rw [hjm, am_up_hit, show j = m.toNat by omega]
      · rw [am_upn (Or.inr hjm)]
        exact h2 j (by omega)
