/-! ===== the reference: a sentence that follows ===== -/
def bb (A B : Sn) (p : Int) : Int := if A.2 (p / 6) = 1 then (if B.2 (p % 6) = 1 then 0 else 1) else 0
def RN (M : am_M) (q : List (Int × Int)) : Prop := M 86 15 = q.length ∧ (∀ j : Nat, j < q.length → M 95 j = (q.getD j (0, 0)).1) ∧ (∀ p : Int, 0 ≤ p ∧ p < 36 → M 98 p = if hw q p = -2 then 0 else 1) ∧ RW M q
theorem bf_pren (sc : Int → Int → Int) (k i : Nat) : ∀ d : Nat, ∃ t, bf sc k (i + d) = bf sc k i ++ t
  | 0 => ⟨[], (List.append_nil _).symm⟩
  | d + 1 => by
    obtain ⟨t, ht⟩ := bf_pren sc k i d
    obtain ⟨t2, ht2⟩ := bf_pre sc k (i + d)
    exact ⟨t ++ t2, by rw [show i + (d + 1) = i + d + 1 by omega, ht2, ht, List.append_assoc]⟩
theorem fb_two {b : Int → Int} : ∀ (l r : List (Int × Int)), (∀ x ∈ l, 0 ≤ x.1) → fb b l = -9 → fb b (l ++ r) = fb b r
  | [], _, _, _ => rfl
  | e :: l, r, h, hn => by
    have h0 := h e List.mem_cons_self
    have hb : ¬ b e.1 = 1 := by
      intro hb
      unfold fb at hn
      rw [if_pos hb] at hn
      omega
    have hn2 : fb b l = -9 := by
      unfold fb at hn
      rw [if_neg hb] at hn
      exact hn
    have ih := fb_two (b := b) l r (fun x hx => h x (List.mem_cons_of_mem _ hx)) hn2
    show (if b e.1 = 1 then e.1 else fb b (l ++ r)) = fb b r
    rw [if_neg hb, ih]
theorem c9_part {M : am_M} {Q : Option am_V → am_M → Prop} {a b : Int} (hd : mdat M) (ha : 0 ≤ a ∧ a ≤ 7) (hb : 0 ≤ b ∧ b ≤ 7) (k0 : fb (bb (sm M a) (sm M b)) (bf (ap (sm M a) (sm M b)) (M 86 1).toNat 36) = -9 → ∀ M', fr9 M M' → Q (some (vi (-9))) M') (k1 : ∀ (i : Nat) (e : Int × Int) (M' : am_M), i ≤ 36 → (bf (ap (sm M a) (sm M b)) (M 86 1).toNat i)[i]? = some e → fb (bb (sm M a) (sm M b)) (bf (ap (sm M a) (sm M b)) (M 86 1).toNat 36) = e.1 → RW M' (bf (ap (sm M a) (sm M b)) (M 86 1).toNat i) → fr9 M M' → Q (some (vi e.1)) M') : am_CallN m9_part [vr 86, vi a, vi b] KS M Q := by
  have hk := hd.1
  have oA := hd.sok ha
  have oB := hd.sok hb
  have hM88 := hd.2.2.1
  generalize hkk : M 86 1 = k at hk k0 k1
  generalize hAA : sm M a = A at oA k0 k1
  generalize hBB : sm M b = B at oB k0 k1
  have hsc : ∀ p x : Int, 0 ≤ p → p < ((36 : Nat) : Int) → 0 ≤ x → x < (k.toNat : Int) → 0 ≤ ap A B p x ∧ ap A B p x < ((36 : Nat) : Int) := fun p x h0 h1 h2 h3 => ap_rng oA oB ⟨h0, h1⟩ ⟨h2, by omega⟩
  have hB := bok_bf (NS := ((36 : Nat) : Int)) (sc := ap A B) (k := k.toNat) (by omega) (by omega) hsc
  refine am_callN_of (by decide +kernel) rfl rfl (Nat.le_of_ble_eq_true rfl) ?_
  refine g9_part_0 ?_
  refine am_for (fun i => [some (vr 86), some (vi a), some (vi b), some (vi i), none, none, none]) (fun i => am_fl M 98 0 i (fun _ => 0)) 0 36 (by omega) rfl am_fl_0.symm ?_ (fun i h0 h1 ih => ?_)
  · refine g9_part_2 (fun _ => ?_) (fun c => by exfalso; omega)
    refine g9_part_21 ?_
    have key : ∀ (d : Nat) (i : Nat) (M2 : am_M), i + d = 36 → RN M2 (bf (ap A B) k.toNat i) → fb (bb A B) ((bf (ap A B) k.toNat i).take i) = -9 → fr9 M M2 → am_AtN m9_part 50 [some (vr 86), some (vi a), some (vi b), some (vi (i : Int)), none, none, none] [] KS M2 Q := by
      intro d
      induction d with
      | zero =>
        intro i M2 hi hR hfb hf
        have hl := (hB i).bound
        refine g9_part_50 (fun _ => ?_) (fun c => by exfalso; rw [hR.1] at c; omega)
        refine g9_part_232 (k0 ?_ M2 hf)
        rw [List.take_of_length_le (by omega)] at hfb
        rw [show (36 : Nat) = i by omega]
        exact hfb
      | succ d ih =>
        intro i M2 hi hR hfb hf
        by_cases hlt : i < (bf (ap A B) k.toNat i).length
        · obtain ⟨e, he⟩ : ∃ e, (bf (ap A B) k.toNat i)[i]? = some e := ⟨_, List.getElem?_eq_getElem hlt⟩
          have heb := (hB i).2.2.1 e (List.mem_of_getElem? he)
          have heb2 : 0 ≤ e.1 ∧ e.1 < 36 := heb
          have em : M2 95 i = e.1 := by
            rw [hR.2.1 i hlt]
            simp [List.getD, he]
          have hfa := fb_app (b := bb A B) (e := e) ((bf (ap A B) k.toNat i).take i) (fun x hx => ((hB i).2.2.1 x (List.mem_of_mem_take hx)).1)
          rw [← take_p he, if_pos hfb] at hfa
          have e88a : M2 88 (6 * a + e.1 / 6) = A.2 (e.1 / 6) := by
            rw [← hAA, hf 88 _ (by unfold kp; omega)]
            rfl
          have e88b : M2 88 (6 * b + e.1 % 6) = B.2 (e.1 % 6) := by
            rw [← hBB, hf 88 _ (by unfold kp; omega)]
            rfl
          have h01a : A.2 (e.1 / 6) = 0 ∨ A.2 (e.1 / 6) = 1 := by
            rw [← hAA]
            exact hM88 _ (by omega)
          have h01b : B.2 (e.1 % 6) = 0 ∨ B.2 (e.1 % 6) = 1 := by
            rw [← hBB]
            exact hM88 _ (by omega)
          have cont : ¬ bb A B e.1 = 1 → am_AtN m9_part 105 [some (vr 86), some (vi a), some (vi b), some (vi (i : Int)), some (vi e.1), none, none] [] KS M2 Q := by
            intro hnb
            rw [if_neg hnb] at hfa
            refine g9_part_105 ?_
            refine am_forR (fun x ls M4 => ls = [some (vr 86), some (vi a), some (vi b), some (vi (i : Int)), some (vi e.1), some (vi x), none] ∧ RN M4 (br (ap A B) (bf (ap A B) k.toNat i) e.1 x.toNat) ∧ fr9 M M4) 0 k (by omega) ⟨rfl, hR, hf⟩ ?_ ?_
            · rintro ls M4 ⟨rfl, hR4, hf4⟩
              have ck : M4 86 1 = k := by rw [hf4 86 1 (by unfold kp; omega)]; exact hkk
              refine g9_part_108 (fun _ => ?_) (fun c => by exfalso; omega)
              refine g9_part_226 (by omega) ?_
              refine ih (i + 1) M4 (by omega) (by rw [bf_s he]; exact hR4) ?_ hf4
              obtain ⟨t, ht⟩ := bf_pre (ap A B) k.toNat i
              rw [ht, List.take_append_of_le_length (by omega)]
              exact hfa
            · rintro x ls M4 hx0 hx1 ⟨rfl, hR4, hf4⟩ ihx
              have ck : M4 86 1 = k := by rw [hf4 86 1 (by unfold kp; omega)]; exact hkk
              have hbr := bok_br (h0 := e.2) (sc := ap A B) (hB i) he x.toNat (by omega) (fun y h0 h1 => hsc e.1 y heb.1 heb.2 h0 (by omega))
              have hbr2 := bok_br (h0 := e.2) (sc := ap A B) (hB i) he (x.toNat + 1) (by omega) (fun y h0 h1 => hsc e.1 y heb.1 heb.2 h0 (by omega))
              have hA := hsc e.1 x heb.1 heb.2 hx0 (by omega)
              have ebs : br (ap A B) (bf (ap A B) k.toNat i) e.1 (x.toNat + 1) = bs (ap A B) (br (ap A B) (bf (ap A B) k.toNat i) e.1 x.toNat) e.1 x := by
                rw [br, show ((x.toNat : Nat) : Int) = x by omega]
              rw [ebs] at hbr2
              have e87a : M4 87 (24 * a + 4 * (e.1 / 6) + x) = A.1 (e.1 / 6) x := by
                rw [← hAA, hf4 87 _ (by unfold kp; omega)]
                rfl
              have e87b : M4 87 (24 * b + 4 * (e.1 % 6) + x) = B.1 (e.1 % 6) x := by
                rw [← hBB, hf4 87 _ (by unfold kp; omega)]
                rfl
              have ra := oA (e.1 / 6) x (by omega) (by omega)
              have rb := oB (e.1 % 6) x (by omega) (by omega)
              have eto : 6 * M4 87 (24 * a + 4 * (e.1 / 6) + x) + M4 87 (24 * b + 4 * (e.1 % 6) + x) = ap A B e.1 x := by
                rw [e87a, e87b]
                unfold ap
                omega
              have hA2 : 0 ≤ ap A B e.1 x ∧ ap A B e.1 x < 36 := hA
              have e5 := hR4.2.2.1 (ap A B e.1 x) hA2
              refine g9_part_108 (fun c => by exfalso; omega) (fun _ => ?_)
              refine g9_part_117 (by omega) (by omega) (by omega) (by omega) (by omega) (by omega) (by omega) (by omega) (by omega) (by omega) (by omega) (by omega) (by omega) (by omega) (by omega) (by omega) (by omega) (by omega) (fun c1 => ?_) (fun c1 => ?_)
              · rw [eto] at c1
                have hn : ¬ hw (br (ap A B) (bf (ap A B) k.toNat i) e.1 x.toNat) (ap A B e.1 x) = -2 := by
                  intro hn
                  rw [if_pos hn] at e5
                  exact c1 e5
                refine g9_part_220 (by omega) ?_
                refine ihx _ M4 ⟨rfl, ?_, hf4⟩
                rw [show (x + 1).toNat = x.toNat + 1 by omega, ebs]
                unfold bs
                rw [if_neg hn]
                exact hR4
              · rw [eto] at c1 ⊢
                have hn : hw (br (ap A B) (bf (ap A B) k.toNat i) e.1 x.toNat) (ap A B e.1 x) = -2 := by
                  by_cases hn : hw (br (ap A B) (bf (ap A B) k.toNat i) e.1 x.toNat) (ap A B e.1 x) = -2
                  · exact hn
                  · rw [if_neg hn] at e5
                    omega
                have hlen : ((br (ap A B) (bf (ap A B) k.toNat i) e.1 x.toNat).length : Int) < 36 := by
                  have := hbr2.bound
                  unfold bs at this
                  rw [if_pos hn] at this
                  simp at this
                  omega
                have e6 := hR4.1
                generalize hqq : br (ap A B) (bf (ap A B) k.toNat i) e.1 x.toNat = qq at hR4 hn hlen e6 ebs hbr
                generalize hto : ap A B e.1 x = to at hA2 hn ebs
                have f1 : am_up (am_up (am_up M4 98 to 1) 96 to e.1) 97 to x 86 15 = qq.length := by
                  rw [am_upn (Or.inl (by omega)), am_upn (Or.inl (by omega)), am_upn (Or.inl (by omega)), e6]
                have f2 : am_up (am_up (am_up (am_up M4 98 to 1) 96 to e.1) 97 to x) 95 (am_up (am_up (am_up M4 98 to 1) 96 to e.1) 97 to x 86 15) to 86 15 = qq.length := by
                  rw [am_upn (Or.inl (by omega)), f1]
                refine g9_part_173 (by omega) (by omega) (by omega) (by omega) (by omega) (by omega) (by rw [f1]; omega) (by rw [f1]; omega) (by rw [f2]; omega) ?_
                rw [f2, f1]
                refine g9_part_220 (by omega) ?_
                refine ihx _ _ ⟨rfl, ?_, ?_⟩
                · rw [show (x + 1).toNat = x.toNat + 1 by omega, ebs]
                  unfold bs
                  rw [hto, if_pos hn]
                  have hX : ∀ p' : Int, p' ≠ to → hw (qq ++ [(to, e.1 * 4 + x)]) p' = hw qq p' := by
                    intro p' hpp
                    rw [hw_app hbr.1]
                    split
                    · rename_i hz
                      rw [if_neg (fun h => hpp h.symm), hz]
                    · rfl
                  have hY : hw (qq ++ [(to, e.1 * 4 + x)]) to = e.1 * 4 + x := by
                    rw [hw_app hbr.1, if_pos hn, if_pos rfl]
                  refine ⟨by rw [am_up_hit]; simp, fun j hj => ?_, fun p' hp' => ?_, fun p' hp' => ?_⟩
                  · rw [am_upn (Or.inl (by omega))]
                    by_cases hjl : j = qq.length
                    · subst hjl
                      rw [am_up_hit]
                      simp [List.getD]
                    · have hj' : j < qq.length := by simp at hj; omega
                      rw [am_upn (Or.inr (by omega)), am_upn (Or.inl (by omega)), am_upn (Or.inl (by omega)), am_upn (Or.inl (by omega)), hR4.2.1 j hj']
                      simp [List.getD, List.getElem?_append_left hj']
                  · rw [am_upn (Or.inl (by omega)), am_upn (Or.inl (by omega)), am_upn (Or.inl (by omega)), am_upn (Or.inl (by omega))]
                    by_cases hpp : p' = to
                    · subst hpp
                      rw [am_up_hit, hY, if_neg (by omega)]
                    · rw [am_upn (Or.inr hpp), hX p' hpp]
                      exact hR4.2.2.1 p' hp'
                  · by_cases hpp : p' = to
                    · subst hpp
                      rw [hY]
                      refine ⟨fun _ => ⟨?_, ?_⟩, fun h => by exfalso; omega⟩
                      · rw [am_upn (Or.inl (by omega)), am_upn (Or.inl (by omega)), am_upn (Or.inl (by omega)), am_up_hit]
                        omega
                      · rw [am_upn (Or.inl (by omega)), am_upn (Or.inl (by omega)), am_up_hit]
                        omega
                    · rw [hX p' hpp, am_upn (Or.inl (by omega)), am_upn (Or.inl (by omega)), am_upn (Or.inl (by omega)), am_upn (Or.inr hpp), am_upn (Or.inl (by omega)), am_upn (Or.inl (by omega)), am_upn (Or.inl (by omega)), am_upn (Or.inr hpp), am_upn (Or.inl (by omega)), am_upn (Or.inl (by omega))]
                      exact hR4.2.2.2 p' hp'
                · exact (((((hf4.tr (fr9.up (by unfold kp; omega))).tr (fr9.up (by unfold kp; omega))).tr (fr9.up (by unfold kp; omega))).tr (fr9.up (by unfold kp; omega))).tr (fr9.up (by unfold kp; omega)))
          refine g9_part_50 (fun c => by exfalso; rw [hR.1] at c; omega) (fun _ => ?_)
          refine g9_part_58 (by omega) (by omega) (by omega) (by rw [em]; omega) (by rw [em]; omega) (by rw [em]; omega) (by rw [em]; omega) (fun c => ?_) (fun c => ?_)
          · rw [em] at c ⊢
            refine cont ?_
            unfold bb
            rw [if_neg (by omega)]
            omega
          · rw [em] at c ⊢
            refine g9_part_84 (by omega) (by omega) (by omega) (by omega) (by omega) (fun c2 => ?_) (fun c2 => ?_)
            · refine cont ?_
              unfold bb
              rw [if_pos (by omega), if_pos (by omega)]
              omega
            · have hbad : bb A B e.1 = 1 := by
                unfold bb
                rw [if_pos (by omega), if_neg (by omega)]
              refine g9_part_102 (k1 i e M2 (by omega) he ?_ hR.2.2.2 hf)
              rw [if_pos hbad] at hfa
              obtain ⟨t, ht⟩ := bf_pren (ap A B) k.toNat i (36 - i)
              rw [show i + (36 - i) = 36 by omega] at ht
              have hsp : bf (ap A B) k.toNat i = (bf (ap A B) k.toNat i).take i ++ e :: (bf (ap A B) k.toNat i).drop (i + 1) := by
                conv => lhs; rw [← List.take_append_drop i (bf (ap A B) k.toNat i)]
                rw [List.drop_eq_getElem_cons hlt]
                have : (bf (ap A B) k.toNat i)[i] = e := by
                  rw [List.getElem?_eq_getElem hlt] at he
                  exact Option.some.inj he
                rw [this]
              rw [ht, hsp, List.append_assoc, fb_two _ _ (fun x hx => ((hB i).2.2.1 x (List.mem_of_mem_take hx)).1) hfb]
              show (if bb A B e.1 = 1 then e.1 else _) = e.1
              rw [if_pos hbad]
        · refine g9_part_50 (fun _ => ?_) (fun c => by exfalso; rw [hR.1] at c; omega)
          refine g9_part_232 (k0 ?_ M2 hf)
          rw [List.take_of_length_le (by omega)] at hfb
          rw [bf_end (i := i) (n := 36) (by omega) (by omega)]
          exact hfb
    refine key 36 0 _ (by omega) ⟨?_, ?_, ?_, ?_⟩ rfl ?_
    · rw [am_up_hit]
      rfl
    · intro j hj
      have : j = 0 := by
        have : j < 1 := hj
        omega
      subst this
      rw [am_upn (Or.inl (by omega)), am_upn (Or.inl (by omega))]
      rw [show ((0 : Nat) : Int) = 0 by omega, am_up_hit]
      rfl
    · intro p hp
      rw [am_upn (Or.inl (by omega)), am_upn (Or.inl (by omega)), am_upn (Or.inl (by omega))]
      by_cases e : p = 0
      · subst e
        rw [am_up_hit]
        rfl
      · rw [am_upn (Or.inr e), am_fl_in (by omega)]
        show 0 = if (if (0 : Int) = p then (-1 : Int) else -2) = -2 then (0 : Int) else 1
        rw [if_neg (show ¬ (0 : Int) = p from fun h => e h.symm), if_pos rfl]
    · intro p hp
      have hh : hw (bf (ap A B) k.toNat 0) p = if (0 : Int) = p then -1 else -2 := rfl
      refine ⟨fun h => ?_, fun h => ?_⟩
      · exfalso
        rw [hh] at h
        split at h <;> omega
      · by_cases e : p = 0
        · subst e
          rw [am_upn (Or.inl (by omega)), am_up_hit]
        · exfalso
          rw [hh, if_neg (fun h => e h.symm)] at h
          omega
    · refine fun x j hk' => ?_
      unfold kp at hk'
      rw [am_upn (by omega), am_upn (by omega), am_upn (by omega), am_upn (by omega), am_fl_out (by omega)]
  · refine g9_part_2 (fun c => by exfalso; omega) (fun _ => ?_)
    refine g9_part_8 (by omega) (by omega) (by omega) ?_
    exact am_mem (am_fl_t (f := fun _ => 0) (by omega) rfl) ih
