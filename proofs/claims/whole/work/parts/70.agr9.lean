/-! ===== programs that agree: the reference, the whole answer ===== -/
theorem am_up_same {M : am_M} {a i v : Int} (h : M a i = v) : am_up M a i v = M := by
  funext b j
  unfold am_up
  split
  · rename_i h1
    split
    · rename_i h2
      rw [h1, h2, h]
    · rfl
  · rfl
def cu (M : am_M) : Int := am_sm (M 105) 216
theorem cu_le {M : am_M} (h : ∀ p : Int, 0 ≤ p ∧ p < 216 → M 105 p = 0 ∨ M 105 p = 1) : 0 ≤ cu M ∧ cu M ≤ 216 := by
  have := am_sm_bnd (f := M 105) (c := 1) 216 (fun j h0 h1 => by have := h j ⟨h0, by omega⟩; omega)
  unfold cu
  omega
theorem cu_up {M : am_M} {p : Int} (hp : 0 ≤ p ∧ p < 216) (h : M 105 p = 0) : cu (am_up M 105 p 1) = cu M + 1 := by
  have h1 : am_sm (am_up M 105 p 1 105) 216 = am_sm (fun j => M 105 j + (if p = j then 1 else 0)) 216 := by
    refine am_sm_congr 216 (fun j _ _ => ?_)
    show am_up M 105 p 1 105 j = M 105 j + (if p = j then (1 : Int) else 0)
    by_cases e : p = j
    · subst e
      rw [am_up_hit, h, if_pos rfl]
      rfl
    · rw [am_upn (Or.inr (fun h => e h.symm)), if_neg e]
      omega
  unfold cu
  rw [h1, am_sm_add (f := M 105) (g := fun j => if p = j then 1 else 0), am_sm_one hp.1, if_pos (show p < ((216 : Nat) : Int) from hp.2)]
def u01 (M : am_M) (g : Gd) : Prop := (∀ p : Int, 0 ≤ p ∧ p < 216 → M 105 p = 0 ∨ M 105 p = 1) ∧ (∀ p : Int, 0 ≤ p ∧ p < 216 → M 105 p = 1 → us g p) ∧ ∀ p : Int, 0 ≤ p ∧ p < 216 → bw g p → M 105 p = 1
def ust (M : am_M) (g : Gd) (p : Int) : Prop := M 105 p = 1 ∨ ∀ x : Int, 0 ≤ x ∧ x < g.2.2.2 → M 105 (gx g p x) = 0
theorem u_live {M : am_M} {g : Gd} (hg : okG g) (h : u01 M g) (hs : ∀ p : Int, 0 ≤ p ∧ p < 216 → ust M g p) : ∀ (m : Nat) (p : Int), 0 ≤ p ∧ p < 216 → uw g m p → M 105 p = 1
  | 0, p, hp, hu => h.2.2 p hp hu
  | m + 1, p, hp, hu => by
    obtain ⟨x, hx, hu⟩ := hu
    have h1 := u_live hg h hs m _ (gx_rng hg hp hx) hu
    rcases hs p hp with h2 | h2
    · exact h2
    · have := h2 x hx
      omega
section
variable {M : am_M} {Q : Option am_V → am_M → Prop}
/-- the useful states, swept until nothing changes -/
theorem n9_sweeps {s p q : Int} (hd : mdat M) (hs : 0 ≤ s ∧ s ≤ 7) (hp : 0 ≤ p ∧ p ≤ 3) (hq : 0 ≤ q ∧ q ≤ 3)
    (kk : ∀ M' (z : Int), (∀ st : Int, 0 ≤ st ∧ st < 216 → (M' 105 st = 0 ∨ M' 105 st = 1) ∧ (M' 105 st = 1 ↔ us (gm M s p q) st)) → (∀ b j : Int, b ≠ 105 → M' b j = M b j) → am_AtN m9_agrees 145 [some (vr 86), some (vi s), some (vi p), some (vi q), some (vi z), none, none, none, none, none, none, none] [] KS M' Q)
    (h0 : u01 M (gm M s p q)) : am_AtN m9_agrees 44 [some (vr 86), some (vi s), some (vi p), some (vi q), some (vi 1), none, none, none, none, none, none, none] [] KS M Q := by
  have hg := gm_ok hd hs hp hq
  have hk := hd.1
  generalize hgg : gm M s p q = g at hg h0 kk
  have hgk : g.2.2.2 = M 86 1 := by rw [← hgg]; rfl
  have key : ∀ (d : Nat) (c : Int) (M2 : am_M), (c = 0 ∨ c = 1) → u01 M2 g → (c = 1 → 217 ≤ cu M2 + d) → (c = 0 → ∀ st : Int, 0 ≤ st ∧ st < 216 → ust M2 g st) → (∀ b j : Int, b ≠ 105 → M2 b j = M b j) → am_AtN m9_agrees 44 [some (vr 86), some (vi s), some (vi p), some (vi q), some (vi c), none, none, none, none, none, none, none] [] KS M2 Q := by
    intro d
    have done : ∀ (M2 : am_M), u01 M2 g → (∀ st : Int, 0 ≤ st ∧ st < 216 → ust M2 g st) → (∀ b j : Int, b ≠ 105 → M2 b j = M b j) → am_AtN m9_agrees 145 [some (vr 86), some (vi s), some (vi p), some (vi q), some (vi 0), none, none, none, none, none, none, none] [] KS M2 Q := by
      intro M2 h1 h2 h3
      refine kk M2 0 (fun st hst => ⟨h1.1 st hst, h1.2.1 st hst, ?_⟩) h3
      rintro ⟨m, hm⟩
      exact u_live hg h1 h2 m st hst hm
    induction d with
    | zero =>
      intro c M2 hc h1 h2 h3 h4
      have := cu_le h1.1
      have hc0 : c = 0 := by omega
      subst hc0
      exact g9_agrees_44 (fun _ => done M2 h1 (h3 rfl) h4) (fun c => absurd rfl c)
    | succ d ihd =>
      intro c M2 hc h1 h2 h3 h4
      rcases hc with rfl | rfl
      · exact g9_agrees_44 (fun _ => done M2 h1 (h3 rfl) h4) (fun c => absurd rfl c)
      · have h2 := h2 rfl
        have hde : ((d + 1 : Nat) : Int) = d + 1 := by omega
        rw [hde] at h2
        refine g9_agrees_44 (fun c => by exfalso; omega) (fun _ => ?_)
        refine g9_agrees_49 ?_
        refine am_forR (fun i ls M3 => ∃ c : Int, ls = [some (vr 86), some (vi s), some (vi p), some (vi q), some (vi c), some (vi i), none, none, none, none, none, none] ∧ (c = 0 ∨ c = 1) ∧ u01 M3 g ∧ cu M2 + c ≤ cu M3 ∧ (c = 0 → ∀ st : Int, 0 ≤ st ∧ st < i → ust M3 g st) ∧ (∀ b j : Int, b ≠ 105 → M3 b j = M b j)) 0 216 (by omega) ⟨0, rfl, Or.inl rfl, h1, by omega, fun _ st hst => by exfalso; omega, h4⟩ ?_ ?_
        · rintro ls M3 ⟨c, rfl, hc, h5, h6, h7, h8⟩
          refine g9_agrees_55 (fun _ => ?_) (fun c => by exfalso; omega)
          refine g9_agrees_142 ?_
          exact ihd c M3 hc h5 (fun h => by omega) h7 h8
        · rintro i ls M3 hi0 hi1 ⟨c, rfl, hc, h5, h6, h7, h8⟩ ihi
          refine g9_agrees_55 (fun c => by exfalso; omega) (fun _ => ?_)
          refine g9_agrees_63 ?_
          refine am_forR (fun x ls M4 => ∃ c : Int, ls = [some (vr 86), some (vi s), some (vi p), some (vi q), some (vi c), some (vi i), some (vi x), none, none, none, none, none] ∧ (c = 0 ∨ c = 1) ∧ u01 M4 g ∧ cu M2 + c ≤ cu M4 ∧ (c = 0 → ∀ st : Int, 0 ≤ st ∧ st < i → ust M4 g st) ∧ (M4 105 i = 0 → ∀ y : Int, 0 ≤ y ∧ y < x → c = 0 → M4 105 (gx g i y) = 0) ∧ (∀ b j : Int, b ≠ 105 → M4 b j = M b j)) 0 (M 86 1) (by omega) ⟨c, rfl, hc, h5, h6, h7, fun _ y hy => by exfalso; omega, h8⟩ ?_ ?_
          · rintro ls M4 ⟨c4, rfl, hc4, q5, q6, q7, q9, q8⟩
            have ck : M4 86 1 = M 86 1 := q8 86 1 (by omega)
            refine g9_agrees_66 (fun _ => ?_) (fun c => by exfalso; omega)
            refine g9_agrees_136 (by omega) ?_
            refine ihi _ M4 ⟨c4, rfl, hc4, q5, q6, fun hc0 st hst => ?_, q8⟩
            by_cases e : st = i
            · subst e
              rcases q5.1 st ⟨hi0, hi1⟩ with h | h
              · right
                intro x hx
                exact q9 h x (by omega) hc0
              · exact Or.inl h
            · exact q7 hc0 st (by omega)
          · rintro x ls M4 hx0 hx1 ⟨c4, rfl, hc4, q5, q6, q7, q9, q8⟩ ihx
            have ck : M4 86 1 = M 86 1 := q8 86 1 (by omega)
            have hf4 : fr9 M M4 := fun b j hkp => q8 b j (by unfold kp at hkp; omega)
            have hd4 := hd.of hf4
            have hgx : gx (gm M4 s p q) i x = gx g i x := by rw [gm_of hf4, hgg]
            refine g9_agrees_66 (fun c => by exfalso; omega) (fun _ => ?_)
            refine g9_agrees_75 hi0 hi1 (fun c5 => ?_) (fun c5 => ?_)
            · have h51 : M4 105 i = 1 := by have := q5.1 i ⟨hi0, hi1⟩; omega
              refine g9_agrees_136 (by omega) ?_
              refine ihi _ M4 ⟨c4, rfl, hc4, q5, q6, fun hc0 st hst => ?_, q8⟩
              by_cases e : st = i
              · subst e
                exact Or.inl h51
              · exact q7 hc0 st (by omega)
            · have hto := gx_rng hg ⟨hi0, hi1⟩ (x := x) ⟨hx0, by omega⟩
              refine g9_agrees_85 ?_
              refine c9_pair hd4 hs hp hq ⟨hi0, hi1⟩ ⟨hx0, by omega⟩ ?_
              rw [hgx]
              have t01 := q5.1 _ hto
              have up1 : M4 105 (gx g i x) = 1 → ∀ M5, M5 = am_up M4 105 i (M4 105 (gx g i x)) → am_AtN m9_agrees 123 [some (vr 86), some (vi s), some (vi p), some (vi q), some (vi c4), some (vi i), some (vi x), none, none, none, none, none] [] KS M5 Q := by
                intro ht M5 hM5
                rw [ht] at hM5
                subst hM5
                refine g9_agrees_123 (g9_agrees_128 (by omega) (ihx _ _ ⟨1, rfl, Or.inr rfl, ⟨fun r hr => ?_, fun r hr h => ?_, fun r hr h => ?_⟩, ?_, fun h => by exfalso; omega, fun _ y _ h => by exfalso; omega, fun b j hb => ?_⟩))
                · by_cases e : r = i
                  · subst e
                    exact Or.inr am_up_hit
                  · rw [am_upn (Or.inr e)]
                    exact q5.1 r hr
                · by_cases e : r = i
                  · subst e
                    exact us_back ⟨hx0, by omega⟩ (q5.2.1 _ hto ht)
                  · rw [am_upn (Or.inr e)] at h
                    exact q5.2.1 r hr h
                · by_cases e : r = i
                  · subst e
                    exact am_up_hit
                  · rw [am_upn (Or.inr e)]
                    exact q5.2.2 r hr h
                · rw [cu_up ⟨hi0, hi1⟩ c5]
                  omega
                · rw [am_upn (Or.inl hb)]
                  exact q8 b j hb
              have up0 : M4 105 (gx g i x) = 0 → ∀ (f : Int), (f = c4) → am_AtN m9_agrees 128 [some (vr 86), some (vi s), some (vi p), some (vi q), some (vi c4), some (vi i), some (vi x), none, none, none, none, none] [vi f] KS M4 Q := by
                intro ht f hf
                subst hf
                refine g9_agrees_128 (by omega) (ihx _ _ ⟨f, rfl, hc4, q5, q6, q7, fun h y hy hc0 => ?_, q8⟩)
                by_cases e : y = x
                · subst e
                  exact ht
                · exact q9 h y (by omega) hc0
              refine g9_agrees_106 kd105 hto.1 hto.2 kd105 hi0 hi1 t01 (fun c6 => ?_) (fun c6 => ?_)
              · rcases t01 with ht | ht
                · rw [ht, am_up_same c5]
                  exact g9_agrees_123 (up0 ht 1 (by omega))
                · exact up1 ht _ rfl
              · refine g9_agrees_113 hi0 hi1 (fun c7 => ?_) (fun c7 => ?_)
                · rw [am_up_hit] at c7
                  rw [c7, am_up_same c5]
                  exact g9_agrees_127 (up0 c7 0 (by omega))
                · rw [am_up_hit] at c7
                  exact up1 (by omega) _ rfl
  have hcu := cu_le h0.1
  exact key 217 1 M (Or.inr rfl) h0 (fun _ => by omega) (fun h => by exfalso; omega) (fun _ _ _ => rfl)
def RQ (M : am_M) (q : List (Int × Int)) : Prop := M 86 15 = q.length ∧ (∀ j : Nat, j < q.length → M 95 j = (q.getD j (0, 0)).1) ∧ ∀ p : Int, 0 ≤ p ∧ p < 216 → M 98 p = if hw q p = -2 then 0 else 1
def RV (M : am_M) (g : Gd) (q : List (Int × Int)) (L : Ld) : Prop := ∀ st : Int, 0 ≤ st ∧ st < 216 → hw q st ≠ -2 → us g st → LM M st (L st)
theorem RV.fp {M M' : am_M} {g : Gd} {q : List (Int × Int)} {L : Ld} (h : RV M g q L) (hf : fp M M') : RV M' g q L := fun st hs h1 h2 => (h st hs h1 h2).fp hf
theorem RQ.fp {M M' : am_M} {q : List (Int × Int)} (h : RQ M q) (hf : fp M M') : RQ M' q := by
  refine ⟨?_, fun j hj => ?_, fun p hp => ?_⟩
  · rw [hf 86 15 (by omega) (by omega) (by omega)]
    exact h.1
  · rw [hf 95 j (by omega) (by omega) (by omega)]
    exact h.2.1 j hj
  · rw [hf 98 p (by omega) (by omega) (by omega)]
    exact h.2.2 p hp
theorem c9_agrees {s p q : Int} (hd : mdat M) (hs : 0 ≤ s ∧ s ≤ 7) (hp : 0 ≤ p ∧ p ≤ 3) (hq : 0 ≤ q ∧ q ≤ 3) (k1 : AG (gm M s p q) → ∀ M', fr9 M M' → Q (some (vi 1)) M') (k0 : ¬ AG (gm M s p q) → ∀ M', fr9 M M' → Q (some (vi 0)) M') : am_CallN m9_agrees [vr 86, vi s, vi p, vi q] KS M Q := by
  have hg := gm_ok hd hs hp hq
  have hk := hd.1
  have hH := hd.2.2.1
  generalize hgg : gm M s p q = g at hg k0 k1
  have hgk : g.2.2.2 = M 86 1 := by rw [← hgg]; rfl
  have hB := gx_bok hg
  refine am_callN_of (by decide +kernel) rfl rfl (Nat.le_of_ble_eq_true rfl) ?_
  refine g9_agrees_0 ?_
  refine am_forR (fun i ls M1 => ls = [some (vr 86), some (vi s), some (vi p), some (vi q), some (vi i), none, none, none, none, none, none, none] ∧ (∀ r : Int, 0 ≤ r ∧ r < i → M1 98 r = 0 ∧ (M1 105 r = 0 ∨ M1 105 r = 1) ∧ (M1 105 r = 1 ↔ bw g r)) ∧ fr9 M M1) 0 216 (by omega) ⟨rfl, fun r hr => by exfalso; omega, fr9.rf⟩ ?_ ?_
  · rintro ls M1 ⟨rfl, h1, hf1⟩
    have hg1 := gm_of hf1 s p q
    rw [hgg] at hg1
    refine g9_agrees_3 (fun _ => ?_) (fun c => by exfalso; omega)
    refine g9_agrees_41 ?_
    refine n9_sweeps (hd.of hf1) hs hp hq (fun M2 z hu hf2 => ?_) ⟨fun r hr => (h1 r hr).2.1, fun r hr h => ?_, fun r hr h => ?_⟩
    · rw [hg1] at hu
      have hf2r : fr9 M1 M2 := fun b j hkp => hf2 b j (by unfold kp at hkp; omega)
      have hM2 := hf1.tr hf2r
      refine g9_agrees_145 ?_
      have key : ∀ (d : Nat) (i : Nat) (M3 : am_M) (L : Ld), i + d = 216 → i ≤ (bf (gx g) g.2.2.2.toNat i).length → AI g (bf (gx g) g.2.2.2.toNat i) i L → (∀ (j : Nat) (e : Int × Int), j < i → (bf (gx g) g.2.2.2.toNat i)[j]? = some e → ¬ sa g e.1) → RQ M3 (bf (gx g) g.2.2.2.toNat i) → RV M3 g (bf (gx g) g.2.2.2.toNat i) L → (∀ r : Int, M3 105 r = M2 105 r) → fr9 M M3 → am_AtN m9_agrees 174 [some (vr 86), some (vi s), some (vi p), some (vi q), some (vi z), some (vi (i : Int)), none, none, none, none, none, none] [] KS M3 Q := by
        intro d
        have done : ∀ (i : Nat) (M3 : am_M) (L : Ld), i ≤ 216 → (bf (gx g) g.2.2.2.toNat i).length = i → AI g (bf (gx g) g.2.2.2.toNat i) i L → (∀ (j : Nat) (e : Int × Int), j < i → (bf (gx g) g.2.2.2.toNat i)[j]? = some e → ¬ sa g e.1) → AG g := by
          intro i M3 L hi hl hAI hns
          refine AI_true (q := bf (gx g) g.2.2.2.toNat i) (L := L) (hB i).1 (hB i).2.2.2.1 ?_ (fun e he => ?_)
          · rw [hl]
            exact hAI
          · obtain ⟨j, hj⟩ := List.mem_iff_getElem?.mp he
            have := (List.getElem?_eq_some_iff.mp hj).1
            exact hns j e (by omega) hj
        induction d with
        | zero =>
          intro i M3 L hi hil hAI hns hRQ hRV h105 hf3
          have hb := (hB i).bound
          have e1 := hRQ.1
          refine g9_agrees_174 (fun _ => ?_) (fun c => by exfalso; omega)
          exact g9_agrees_483 (k1 (done i M3 L (by omega) (by omega) hAI hns) M3 hf3)
        | succ d ih =>
          intro i M3 L hi hil hAI hns hRQ hRV h105 hf3
          have hb := (hB i).bound
          have e1 := hRQ.1
          by_cases hlt : i < (bf (gx g) g.2.2.2.toNat i).length
          · obtain ⟨e, he⟩ : ∃ e, (bf (gx g) g.2.2.2.toNat i)[i]? = some e := ⟨_, List.getElem?_eq_getElem hlt⟩
            have heb : 0 ≤ e.1 ∧ e.1 < 216 := (hB i).2.2.1 e (List.mem_of_getElem? he)
            have hini := hw_of_get (hB i).1 he
            have em : M3 95 i = e.1 := by
              rw [hRQ.2.1 i hlt]
              simp [List.getD, he]
            have hgrow : i + 1 ≤ (bf (gx g) g.2.2.2.toNat (i + 1)).length := by
              obtain ⟨t2, ht2⟩ := bf_pre (gx g) g.2.2.2.toNat i
              rw [ht2]
              simp
              omega
            have ga3 := gm_of hf3 s p q
            rw [hgg] at ga3
            have eea : M3 94 (6 * p + e.1 / 6 % 6) = ea g e.1 := by rw [← ga3]; rfl
            have eeb : M3 94 (6 * q + e.1 % 6) = eb g e.1 := by rw [← ga3]; rfl
            have e88 : M3 88 (6 * s + e.1 / 36) = g.1.2 (e.1 / 36) := by rw [← ga3]; rfl
            have h88 : g.1.2 (e.1 / 36) = 0 ∨ g.1.2 (e.1 / 36) = 1 := by
              rw [← e88, hf3 88 _ (by unfold kp; omega)]
              exact hH _ (by omega)
            have hwa := hg.2.2.1.2.2 (e.1 / 6 % 6) (by omega)
            have hwb := hg.2.2.2.2.2 (e.1 % 6) (by omega)
            have hd3 := hd.of hf3
            have body : ∀ M4, ¬ sa g e.1 → AEn g L e.1 → RQ M4 (bf (gx g) g.2.2.2.toNat i) → RV M4 g (bf (gx g) g.2.2.2.toNat i) L → (∀ r : Int, M4 105 r = M2 105 r) → fr9 M M4 → am_AtN m9_agrees 316 [some (vr 86), some (vi s), some (vi p), some (vi q), some (vi z), some (vi (i : Int)), some (vi e.1), some (vi (ea g e.1)), some (vi (eb g e.1)), none, none, none] [] KS M4 Q := by
              intro M4 hsa hEn hRQ4 hRV4 h1054 hf4
              refine g9_agrees_316 ?_
              refine am_forR (fun x ls M5 => ∃ L5 : Ld, ls = [some (vr 86), some (vi s), some (vi p), some (vi q), some (vi z), some (vi (i : Int)), some (vi e.1), some (vi (ea g e.1)), some (vi (eb g e.1)), some (vi x), none, none] ∧ AI g (br (gx g) (bf (gx g) g.2.2.2.toNat i) e.1 x.toNat) i L5 ∧ APr g (br (gx g) (bf (gx g) g.2.2.2.toNat i) e.1 x.toNat) L5 e.1 x ∧ L5 e.1 = L e.1 ∧ RQ M5 (br (gx g) (bf (gx g) g.2.2.2.toNat i) e.1 x.toNat) ∧ RV M5 g (br (gx g) (bf (gx g) g.2.2.2.toNat i) e.1 x.toNat) L5 ∧ (∀ r : Int, M5 105 r = M2 105 r) ∧ fr9 M M5) 0 (M 86 1) (by omega) ⟨L, rfl, hAI, fun y hy => by exfalso; omega, rfl, hRQ4, hRV4, h1054, hf4⟩ ?_ ?_
              · rintro ls M5 ⟨L5, rfl, a1, a2, a3, a4, a5, a6, a7⟩
                have ck : M5 86 1 = M 86 1 := a7 86 1 (by unfold kp; omega)
                refine g9_agrees_319 (fun _ => ?_) (fun c => by exfalso; omega)
                refine g9_agrees_477 (by omega) ?_
                have hbs := bf_s he (k := g.2.2.2.toNat) (sc := gx g)
                rw [← hgk] at a1 a2 a4 a5
                rw [← hbs] at a1 a2 a4 a5
                obtain ⟨t2, ht2⟩ := bf_pre (gx g) g.2.2.2.toNat i
                have he3 : (bf (gx g) g.2.2.2.toNat (i + 1))[i]? = some e := by
                  rw [ht2, List.getElem?_append_left hlt]
                  exact he
                refine ih (i + 1) M5 L5 (by omega) hgrow (AI_next a1 he3 a2 ?_) (fun j e' hj hj2 => ?_) a4 a5 a6 a7
                · unfold AEn
                  rw [a3]
                  exact hEn
                · by_cases hji : j = i
                  · subst hji
                    rw [he3] at hj2
                    obtain rfl := Option.some.inj hj2
                    exact hsa
                  · rw [ht2, List.getElem?_append_left (by omega)] at hj2
                    exact hns j e' (by omega) hj2
              · rintro x ls M5 hx0 hx1 ⟨L5, rfl, a1, a2, a3, a4, a5, a6, a7⟩ ihx
                have ck : M5 86 1 = M 86 1 := a7 86 1 (by unfold kp; omega)
                have hx : 0 ≤ x ∧ x < g.2.2.2 := ⟨hx0, by omega⟩
                have hbr := bok_br (h0 := e.2) (sc := gx g) (hB i) he x.toNat (by omega) (fun y h0 h1 => gx_rng hg heb ⟨h0, by omega⟩)
                have hbr2 := bok_br (h0 := e.2) (sc := gx g) (hB i) he (x.toNat + 1) (by omega) (fun y h0 h1 => gx_rng hg heb ⟨h0, by omega⟩)
                have ebs : br (gx g) (bf (gx g) g.2.2.2.toNat i) e.1 (x + 1).toNat = bs (gx g) (br (gx g) (bf (gx g) g.2.2.2.toNat i) e.1 x.toNat) e.1 x := by
                  rw [show (x + 1).toNat = x.toNat + 1 by omega, br, show ((x.toNat : Nat) : Int) = x by omega]
                rw [← show (x + 1).toNat = x.toNat + 1 by omega, ebs] at hbr2
                obtain ⟨t2, ht2⟩ := br_pre (gx g) (bf (gx g) g.2.2.2.toNat i) e.1 x.toNat
                have he4 : (br (gx g) (bf (gx g) g.2.2.2.toNat i) e.1 x.toNat)[i]? = some e := by
                  rw [ht2, List.getElem?_append_left hlt]
                  exact he
                have hin4 := hw_of_get hbr.1 he4
                have hl4 := (List.getElem?_eq_some_iff.mp he4).1
                have ga5 := gm_of a7 s p q
                rw [hgg] at ga5
                have hto := gx_rng hg heb hx
                generalize hqq : br (gx g) (bf (gx g) g.2.2.2.toNat i) e.1 x.toNat = qq at *
                have hqb := hbr.bound
                refine g9_agrees_319 (fun c => by exfalso; omega) (fun _ => ?_)
                refine g9_agrees_328 ?_
                refine c9_pair (hd.of a7) hs hp hq heb ⟨hx0, by omega⟩ ?_
                rw [ga5]
                have e98 := a4.2.2 _ hto
                -- behind the meeting: w tells whether it is new
                have rest : ∀ (w : Int) (M6 : am_M), ((w = 1 ∧ hw qq (gx g e.1 x) = -2) ∨ (w = 0 ∧ hw qq (gx g e.1 x) ≠ -2)) → RQ M6 (bs (gx g) qq e.1 x) → (∀ L6 : Ld, RV M5 g qq L6 → RV M6 g qq L6) → (∀ r : Int, M6 105 r = M2 105 r) → fr9 M M6 → am_AtN m9_agrees 392 [some (vr 86), some (vi s), some (vi p), some (vi q), some (vi z), some (vi (i : Int)), some (vi e.1), some (vi (ea g e.1)), some (vi (eb g e.1)), some (vi x), some (vi (gx g e.1 x)), some (vi w)] [] KS M6 Q := by
                  intro w M6 hw6 hRQ6 hRV6 h1056 hf6
                  have hRV6' := hRV6 L5 a5
                  have ga6 := gm_of hf6 s p q
                  rw [hgg] at ga6
                  have hu6 := hu _ hto
                  rw [← h1056] at hu6
                  have go : ∀ (M7 : am_M) (L7 : Ld), (us g (gx g e.1 x) → lk_ (sA g L5 e.1 x) (sB g L5 e.1 x) ∧ L7 (gx g e.1 x) = ct (sA g L5 e.1 x) (sB g L5 e.1 x)) → (∀ r : Int, r ≠ gx g e.1 x → L7 r = L5 r) → (hw qq (gx g e.1 x) ≠ -2 → L7 (gx g e.1 x) = L5 (gx g e.1 x)) → RQ M7 (bs (gx g) qq e.1 x) → RV M7 g (bs (gx g) qq e.1 x) L7 → (∀ r : Int, M7 105 r = M2 105 r) → fr9 M M7 → am_AtN m9_agrees 471 [some (vr 86), some (vi s), some (vi p), some (vi q), some (vi z), some (vi (i : Int)), some (vi e.1), some (vi (ea g e.1)), some (vi (eb g e.1)), some (vi x), some (vi (gx g e.1 x)), some (vi w)] [] KS M7 Q := by
                    intro M7 L7 b1 b2 b3 b4 b5 b6 b7
                    obtain ⟨c1, c2, c3⟩ := AI_step (L' := L7) hbr.1 a1 hl4 he4 heb.1 hx a2 b1 b2 b3
                    refine g9_agrees_471 (by omega) ?_
                    refine ihx _ M7 ⟨L7, rfl, ?_, ?_, c3.trans a3, ?_, ?_, b6, b7⟩
                    · rw [ebs]
                      exact c1
                    · rw [ebs]
                      exact c2
                    · rw [ebs]
                      exact b4
                    · rw [ebs]
                      exact b5
                  refine g9_agrees_392 hto.1 hto.2 (fun c5 => ?_) (fun c5 => ?_)
                  · have hnu : ¬ us g (gx g e.1 x) := fun h => by have := hu6.2.mpr h; omega
                    refine go M6 L5 (fun h => absurd h hnu) (fun _ _ => rfl) (fun _ => rfl) hRQ6 (fun r hr h1 h2 => ?_) h1056 hf6
                    rw [hw_bs_iff hbr.1 (fun hre => hnu (by rw [← hre]; exact h2))] at h1
                    exact hRV6' r hr h1 h2
                  · have hut : us g (gx g e.1 x) := hu6.2.mp (by omega)
                    have hue := us_back hx hut
                    have hLe := hRV6' _ heb hin4 hue
                    have hlen := AI_len hg a1.1 hqb hin4 hue
                    have wa := hg.2.2.1.2.1 (e.1 / 6 % 6) x (by omega) hx
                    have wb := hg.2.2.2.2.1 (e.1 % 6) x (by omega) hx
                    have e93a : M6 93 (24 * p + 4 * (e.1 / 6 % 6) + x) = ga g e.1 x := by rw [← ga6]; rfl
                    have e93b : M6 93 (24 * q + 4 * (e.1 % 6) + x) = gb g e.1 x := by rw [← ga6]; rfl
                    have lA := wl_len (ga g e.1 x)
                    have lB := wl_len (gb g e.1 x)
                    refine g9_agrees_402 (by omega) (by omega) (by omega) (by omega) (by omega) (by omega) (by omega) (by omega) (by omega) (by omega) (by omega) (by omega) (by omega) (by omega) (by omega) ?_
                    rw [e93a, e93b]
                    refine c9_put (wa := ga g e.1 x) (wb := gb g e.1 x) heb hLe ⟨wa.1, wa.2.1⟩ ⟨wb.1, wb.2.1⟩ (fun M7 hrA hrB hf7 => ?_)
                    change rA M7 (sA g L5 e.1 x) at hrA
                    change rB M7 (sB g L5 e.1 x) at hrB
                    have sAl : (sA g L5 e.1 x).length ≤ 432 := by
                      unfold sA
                      rw [List.length_append]
                      omega
                    have sBl : (sB g L5 e.1 x).length ≤ 432 := by
                      unfold sB
                      rw [List.length_append]
                      omega
                    have h1057 : ∀ r : Int, M7 105 r = M2 105 r := fun r => by rw [hf7 105 r (by omega) (by omega) (by omega)]; exact h1056 r
                    refine g9_agrees_451 ?_
                    refine c9_begins hrA hrB (by omega) (by omega) (fun hlk => ?_) (fun hlk => ?_)
                    · refine g9_agrees_455 (fun c => by exfalso; omega) (fun _ => ?_)
                      refine g9_agrees_458 ?_
                      rcases hw6 with ⟨rfl, hnew⟩ | ⟨rfl, hold⟩
                      · refine c9_keep1 hto hrA hrB sAl sBl (fun M8 hLM hoth hf8 => ?_)
                        refine g9_agrees_466 (fun _ => ?_) (fun c => by exfalso; omega)
                        refine go M8 (fun r => if r = gx g e.1 x then ct (sA g L5 e.1 x) (sB g L5 e.1 x) else L5 r) (fun _ => ⟨hlk, if_pos rfl⟩) (fun r hr => if_neg hr) (fun h => absurd hnew h) ?_ (fun r hr h1 h2 => ?_) (fun r => by rw [hf8 105 r (by omega) (by omega) (by omega)]; exact h1057 r) ((hf6.tr hf7.r9).tr (fun b j hkp => hf8 b j (by unfold kp at hkp; omega) (by unfold kp at hkp; omega) (by unfold kp at hkp; omega)))
                        · have h9 := hRQ6.fp hf7
                          refine ⟨?_, fun j hj => ?_, fun r hr => ?_⟩
                          · rw [hf8 86 15 (by omega) (by omega) (by omega)]
                            exact h9.1
                          · rw [hf8 95 j (by omega) (by omega) (by omega)]
                            exact h9.2.1 j hj
                          · rw [hf8 98 r (by omega) (by omega) (by omega)]
                            exact h9.2.2 r hr
                        · show LM M8 r (if r = gx g e.1 x then ct (sA g L5 e.1 x) (sB g L5 e.1 x) else L5 r)
                          by_cases hre : r = gx g e.1 x
                          · subst hre
                            rw [if_pos rfl]
                            exact hLM
                          · rw [if_neg hre]
                            rw [hw_bs_iff hbr.1 hre] at h1
                            have h9 := (hRV6'.fp hf7) r hr h1 h2
                            obtain ⟨o1, o2, o3⟩ := hoth r hre
                            exact h9.of o1 o2 o3
                      · have hLt := (hRV6'.fp hf7) _ hto hold hut
                        refine c9_keep0 hto hLt hrA hrB sAl sBl (fun heq => ?_) (fun heq => ?_)
                        · refine g9_agrees_466 (fun _ => ?_) (fun c => by exfalso; omega)
                          refine go M7 L5 (fun _ => ⟨hlk, heq⟩) (fun _ _ => rfl) (fun _ => rfl) (hRQ6.fp hf7) (fun r hr h1 h2 => ?_) h1057 (hf6.tr hf7.r9)
                          have hbq : bs (gx g) qq e.1 x = qq := by
                            unfold bs
                            rw [if_neg hold]
                          rw [hbq] at h1
                          exact (hRV6'.fp hf7) r hr h1 h2
                        · refine g9_agrees_466 (fun c => by exfalso; omega) (fun _ => ?_)
                          exact g9_agrees_469 (k0 (AI_f4 a1.1 hin4 hx hut hold heq) M7 (hf6.tr hf7.r9))
                    · refine g9_agrees_455 (fun _ => ?_) (fun c => by exfalso; omega)
                      exact g9_agrees_469 (k0 (AI_f3 a1.1 hin4 hx hut hlk) M7 (hf6.tr hf7.r9))
                refine g9_agrees_339 hto.1 (by omega) (fun c5 => ?_) (fun c5 => ?_)
                · have hold : hw qq (gx g e.1 x) ≠ -2 := fun h => by
                    rw [if_pos h] at e98
                    exact c5 e98
                  refine g9_agrees_355 ?_
                  refine g9_agrees_356 (fun _ => ?_) (fun c => absurd rfl c)
                  refine rest 0 M5 (Or.inr ⟨rfl, hold⟩) ?_ (fun _ h => h) a6 a7
                  have hbq : bs (gx g) qq e.1 x = qq := by
                    unfold bs
                    rw [if_neg hold]
                  rw [hbq]
                  exact a4
                · have hnew : hw qq (gx g e.1 x) = -2 := by
                    by_cases h : hw qq (gx g e.1 x) = -2
                    · exact h
                    · rw [if_neg h] at e98
                      omega
                  have hbq : bs (gx g) qq e.1 x = qq ++ [(gx g e.1 x, e.1 * 4 + x)] := by
                    unfold bs
                    rw [if_pos hnew]
                  have hlq : (qq.length : Int) < 216 := by
                    have := hbr2.bound
                    rw [hbq] at this
                    simp at this
                    omega
                  have e15 := a4.1
                  have f1 : am_up M5 98 (gx g e.1 x) 1 86 15 = qq.length := by rw [am_upn (Or.inl (by omega)), e15]
                  have f2 : am_up (am_up M5 98 (gx g e.1 x) 1) 95 (am_up M5 98 (gx g e.1 x) 1 86 15) (gx g e.1 x) 86 15 = qq.length := by rw [am_upn (Or.inl (by omega)), f1]
                  refine g9_agrees_351 ?_
                  refine g9_agrees_356 (fun c => by exfalso; omega) (fun _ => ?_)
                  refine g9_agrees_363 hto.1 (by omega) (by rw [f1]; omega) (by rw [f1]; omega) (by rw [f2]; omega) ?_
                  rw [f2, f1]
                  refine rest 1 _ (Or.inl ⟨rfl, hnew⟩) ?_ (fun L6 h r hr h1 h2 => ?_) (fun r => ?_) (((a7.tr (fr9.up (by unfold kp; omega))).tr (fr9.up (by unfold kp; omega))).tr (fr9.up (by unfold kp; omega)))
                  · rw [hbq]
                    refine ⟨by rw [am_up_hit]; simp, fun j hj => ?_, fun r hr => ?_⟩
                    · rw [am_upn (Or.inl (by omega))]
                      by_cases hjl : j = qq.length
                      · subst hjl
                        rw [am_up_hit]
                        simp [List.getD]
                      · have hj' : j < qq.length := by simp at hj; omega
                        rw [am_upn (Or.inr (by omega)), am_upn (Or.inl (by omega)), a4.2.1 j hj']
                        simp [List.getD, List.getElem?_append_left hj']
                    · rw [am_upn (Or.inl (by omega)), am_upn (Or.inl (by omega)), hw_app hbr.1]
                      by_cases hre : r = gx g e.1 x
                      · subst hre
                        rw [am_up_hit, if_pos hnew, if_pos rfl, if_neg (by omega)]
                      · rw [am_upn (Or.inr hre), a4.2.2 r hr]
                        by_cases h1 : hw qq r = -2
                        · rw [if_pos h1, if_pos h1, if_neg (show ¬ gx g e.1 x = r from fun h => hre h.symm), if_pos rfl]
                        · rw [if_neg h1, if_neg h1, if_neg h1]
                  · refine (h r hr h1 h2).of ?_ ?_ (fun t _ => ?_)
                    · rw [am_upn (Or.inl (by omega)), am_upn (Or.inl (by omega)), am_upn (Or.inl (by omega))]
                    · rw [am_upn (Or.inl (by omega)), am_upn (Or.inl (by omega)), am_upn (Or.inl (by omega))]
                    · rw [am_upn (Or.inl (by omega)), am_upn (Or.inl (by omega)), am_upn (Or.inl (by omega))]
                  · rw [am_upn (Or.inl (by omega)), am_upn (Or.inl (by omega)), am_upn (Or.inl (by omega))]
                    exact a6 r
            have cont : ¬ sa g e.1 → am_AtN m9_agrees 274 [some (vr 86), some (vi s), some (vi p), some (vi q), some (vi z), some (vi (i : Int)), some (vi e.1), some (vi (ea g e.1)), some (vi (eb g e.1)), none, none, none] [] KS M3 Q := by
              intro hsa
              refine g9_agrees_274 ?_
              refine c9_writeBoth hd3 hs hp hq heb (fun hbw => ?_) (fun hbw => ?_)
              · rw [ga3] at hbw
                have hue := us_bw hbw
                have hLe := hRV _ heb hini hue
                have hlen := AI_len hg hAI.1 hb hini hue
                have wa : 0 ≤ ea g e.1 ∧ ea g e.1 ≤ 20 := by
                  rcases hwa with h | h
                  · exact absurd h hbw.2.1
                  · exact ⟨h.1, h.2.1⟩
                have wb : 0 ≤ eb g e.1 ∧ eb g e.1 ≤ 20 := by
                  rcases hwb with h | h
                  · exact absurd h hbw.2.2
                  · exact ⟨h.1, h.2.1⟩
                have lA := wl_len (ea g e.1)
                have lB := wl_len (eb g e.1)
                refine g9_agrees_283 (fun c => by exfalso; omega) (fun _ => ?_)
                refine g9_agrees_286 ?_
                refine c9_put heb hLe wa wb (fun M4 hrA hrB hf4 => ?_)
                have a0 := hrA.1
                have b0 := hrB.1
                have f2 : ¬ AEn g L e.1 → ¬ AG g := AI_f2 hAI.1 hini
                refine g9_agrees_296 (fun c => ?_) (fun c => ?_)
                · refine g9_agrees_314 (k0 (f2 (fun h => c ?_)) M4 (hf3.tr hf4.r9))
                  rw [a0, b0, h hbw]
                · refine g9_agrees_307 ?_
                  refine c9_begins hrA hrB (by rw [List.length_append]; omega) (by rw [List.length_append]; omega) (fun hlk => ?_) (fun hlk => ?_)
                  · refine g9_agrees_311 (fun _ => ?_) (fun c => by exfalso; omega)
                    exact body M4 hsa (fun _ => lk_eq (by omega) hlk) (hRQ.fp hf4) (hRV.fp hf4) (fun r => by rw [hf4 105 r (by omega) (by omega) (by omega)]; exact h105 r) (hf3.tr hf4.r9)
                  · refine g9_agrees_311 (fun c => by exfalso; omega) (fun _ => ?_)
                    refine g9_agrees_314 (k0 (f2 (fun h => hlk ?_)) M4 (hf3.tr hf4.r9))
                    rw [h hbw]
                    exact fun j _ _ => rfl
              · rw [ga3] at hbw
                refine g9_agrees_283 (fun _ => ?_) (fun c => by exfalso; omega)
                exact body M3 hsa (fun h => absurd h hbw) hRQ hRV h105 hf3
            refine g9_agrees_174 (fun c => by exfalso; omega) (fun _ => ?_)
            refine g9_agrees_183 (by omega) (by omega) (by omega) (by omega) (by omega) (by omega) (by omega) (by omega) (by omega) (by omega) (by omega) (by omega) (by omega) (by omega) (by omega) (by omega) (by omega) (by omega) (fun c => ?_) (fun c => ?_)
            · rw [em] at c ⊢
              rw [eea, eeb]
              refine cont (fun h => ?_)
              have := h.1
              omega
            · rw [em] at c ⊢
              rw [eea, eeb]
              have h1 : g.1.2 (e.1 / 36) = 1 := by omega
              have mid : ∀ v w : Int, (v = 0 ∨ v = 1) → (w = 0 ∨ w = 1) → (v = 1 ↔ ea g e.1 = -1) → (w = 1 ↔ eb g e.1 = -1) → am_AtN m9_agrees 269 [some (vr 86), some (vi s), some (vi p), some (vi q), some (vi z), some (vi (i : Int)), some (vi e.1), some (vi (ea g e.1)), some (vi (eb g e.1)), none, none, none] [vi w, vi v] KS M3 Q := by
                intro v w hv hw' h2 h3
                refine g9_agrees_269 (fun c => cont (fun h => h.2 ?_)) (fun c => ?_)
                · rw [← h2, ← h3, c]
                · refine g9_agrees_272 (k0 (AI_f1 hAI.1 hini ⟨h1, fun h => c ?_⟩) M3 hf3)
                  rw [← h2, ← h3] at h
                  omega
              have mid2 : ∀ v : Int, (v = 0 ∨ v = 1) → (v = 1 ↔ ea g e.1 = -1) → am_AtN m9_agrees 258 [some (vr 86), some (vi s), some (vi p), some (vi q), some (vi z), some (vi (i : Int)), some (vi e.1), some (vi (ea g e.1)), some (vi (eb g e.1)), none, none, none] [vi v] KS M3 Q := by
                intro v hv h2
                refine g9_agrees_258 (fun c => ?_) (fun c => ?_)
                · exact g9_agrees_268 (mid v 0 hv (Or.inl rfl) h2 ⟨fun h => by exfalso; omega, fun h => absurd h c⟩)
                · exact g9_agrees_264 (mid v 1 hv (Or.inr rfl) h2 ⟨fun _ => c, fun _ => rfl⟩)
              refine g9_agrees_247 (fun c => ?_) (fun c => ?_)
              · exact g9_agrees_257 (mid2 0 (Or.inl rfl) ⟨fun h => by exfalso; omega, fun h => absurd h c⟩)
              · exact g9_agrees_253 (mid2 1 (Or.inr rfl) ⟨fun _ => c, fun _ => rfl⟩)
          · refine g9_agrees_174 (fun _ => ?_) (fun c => by exfalso; omega)
            exact g9_agrees_483 (k1 (done i M3 L (by omega) (by omega) hAI hns) M3 hf3)
      refine key 216 0 _ (fun _ => ([], [])) (by omega) (by omega) (AI_start g _ rfl) (fun j e hj => by exfalso; omega) ⟨?_, fun j hj => ?_, fun r hr => ?_⟩ (fun r hr h2 h3 => ?_) (fun r => ?_) ?_
      · rw [am_up_hit]
        rfl
      · have : j = 0 := by
          have : j < 1 := hj
          omega
        subst this
        rw [am_upn (Or.inl (by omega)), am_upn (Or.inl (by omega)), show ((0 : Nat) : Int) = 0 by omega, am_up_hit]
        rfl
      · rw [am_upn (Or.inl (by omega)), am_upn (Or.inl (by omega)), am_upn (Or.inl (by omega))]
        by_cases e : r = 0
        · subst e
          rw [am_up_hit]
          rfl
        · rw [am_upn (Or.inr e), hf2 98 r (by omega), (h1 r hr).1]
          show 0 = if (if (0 : Int) = r then (-1 : Int) else -2) = -2 then (0 : Int) else 1
          rw [if_neg (show ¬ (0 : Int) = r from fun h => e h.symm), if_pos rfl]
      · have hr0 : r = 0 := by
          by_cases e : (0 : Int) = r
          · exact e.symm
          · exfalso
            apply h2
            show (if (0 : Int) = r then (-1 : Int) else -2) = -2
            rw [if_neg e]
        subst hr0
        refine ⟨?_, Or.inl rfl, by show 0 ≤ 432; omega, fun h => absurd rfl h, fun i hi => by exfalso; have hi : i < 0 := hi; omega⟩
        rw [am_upn (Or.inl (by omega)), am_up_hit]
        rfl
      · rw [am_upn (Or.inl (by omega)), am_upn (Or.inl (by omega)), am_upn (Or.inl (by omega)), am_upn (Or.inl (by omega))]
      · exact (((hM2.tr (fr9.up (by unfold kp; omega))).tr (fr9.up (by unfold kp; omega))).tr (fr9.up (by unfold kp; omega))).tr (fr9.up (by unfold kp; omega))
    · rw [hg1]
      exact us_bw ((h1 r hr).2.2.mp h)
    · rw [hg1] at h
      exact (h1 r hr).2.2.mpr h
  · rintro i ls M1 hi0 hi1 ⟨rfl, h1, hf1⟩ ih
    have hf1' : fr9 M (am_up M1 98 i 0) := hf1.tr (fr9.up (by unfold kp; omega))
    have hg1 := gm_of hf1' s p q
    rw [hgg] at hg1
    have next : ∀ v : Int, (v = 0 ∨ v = 1) → (v = 1 ↔ bw g i) → am_AtN m9_agrees 34 [some (vr 86), some (vi s), some (vi p), some (vi q), some (vi i), none, none, none, none, none, none, none] [vi v, vi i, vr 105] KS (am_up M1 98 i 0) Q := by
      intro v hv hvb
      refine g9_agrees_34 kd105 hi0 hi1 hv (by omega) ?_
      refine ih _ _ ⟨rfl, fun r hr => ?_, hf1'.tr (fr9.up (by unfold kp; omega))⟩
      by_cases e : r = i
      · subst e
        rw [am_upn (Or.inl (by omega)), am_up_hit, am_up_hit]
        exact ⟨rfl, hv, hvb⟩
      · rw [am_upn (Or.inl (by omega)), am_upn (Or.inr e), am_upn (Or.inr e), am_upn (Or.inl (by omega))]
        exact h1 r (by omega)
    refine g9_agrees_3 (fun c => by exfalso; omega) (fun _ => ?_)
    refine g9_agrees_11 hi0 (by omega) ?_
    refine c9_writeBoth (hd.of hf1') hs hp hq ⟨hi0, hi1⟩ (fun hb => ?_) (fun hb => ?_)
    · rw [hg1] at hb
      exact next 1 (Or.inr rfl) ⟨fun _ => hb, fun _ => rfl⟩
    · rw [hg1] at hb
      exact next 0 (Or.inl rfl) ⟨fun h => by exfalso; omega, fun h => absurd h hb⟩
theorem c9_agree {s p q : Int} (hd : mdat M) (k1 : (0 ≤ s ∧ s ≤ 7) ∧ (0 ≤ p ∧ p ≤ 3) ∧ (0 ≤ q ∧ q ≤ 3) → AG (gm M s p q) → ∀ M', fr9 M M' → Q (some (vi 1)) M') (k2 : (0 ≤ s ∧ s ≤ 7) ∧ (0 ≤ p ∧ p ≤ 3) ∧ (0 ≤ q ∧ q ≤ 3) → ¬ AG (gm M s p q) → ∀ M', fr9 M M' → Q (some (vi 0)) M') (k0 : ¬ ((0 ≤ s ∧ s ≤ 7) ∧ (0 ≤ p ∧ p ≤ 3) ∧ (0 ≤ q ∧ q ≤ 3)) → ∀ M', fr9 M M' → Q (some (vi (-1))) M') : am_CallN m9_agree [vr 86, vi s, vi p, vi q] KS M Q := by
  have hf0 : fr9 M (am_up M 86 0 0) := fr9.up (by unfold kp; omega)
  refine am_callN_of (by decide +kernel) rfl rfl (Nat.le_of_ble_eq_true rfl) ?_
  refine g9_agree_0 ?_
  refine c9_noSentence ?_
  by_cases hs : 0 ≤ s ∧ s ≤ 7
  · rw [if_pos hs]
    refine g9_agree_9 (fun c => by exfalso; omega) (fun _ => ?_)
    refine g9_agree_12 ?_
    refine c9_noProgram ?_
    by_cases hp : 0 ≤ p ∧ p ≤ 3
    · rw [if_pos hp]
      refine g9_agree_16 (fun c => by exfalso; omega) (fun _ => ?_)
      refine g9_agree_19 ?_
      refine c9_noProgram ?_
      by_cases hq : 0 ≤ q ∧ q ≤ 3
      · rw [if_pos hq]
        refine g9_agree_23 (fun _ => ?_) (fun c => by exfalso; omega)
        refine g9_agree_30 ?_
        refine c9_agrees (hd.of hf0) hs hp hq (fun hA M1 hf1 => ?_) (fun hA M1 hf1 => ?_)
        · rw [gm_of hf0] at hA
          refine g9_agree_37 (fun c => by exfalso; omega) (fun _ => ?_)
          exact g9_agree_40 (g9_agree_45 (k1 ⟨hs, hp, hq⟩ hA M1 (hf0.tr hf1)))
        · rw [gm_of hf0] at hA
          refine g9_agree_37 (fun _ => ?_) (fun c => by exfalso; omega)
          exact g9_agree_44 (g9_agree_45 (k2 ⟨hs, hp, hq⟩ hA M1 (hf0.tr hf1)))
      · rw [if_neg hq]
        refine g9_agree_23 (fun c => by exfalso; omega) (fun _ => ?_)
        exact g9_agree_26 (g9_agree_45 (k0 (fun h => hq h.2.2) _ hf0))
    · rw [if_neg hp]
      refine g9_agree_16 (fun _ => ?_) (fun c => by exfalso; omega)
      exact g9_agree_26 (g9_agree_45 (k0 (fun h => hp h.2.1) _ hf0))
  · rw [if_neg hs]
    refine g9_agree_9 (fun _ => ?_) (fun c => by exfalso; omega)
    exact g9_agree_26 (g9_agree_45 (k0 (fun h => hs h.1) _ hf0))
end
