/-! ===== programs that agree: the class, the whole answer ===== -/
def RLd (M : am_M) (g : Gd) (q : List (Int × Int)) (L : Ld) : Prop := ∀ st : Int, 0 ≤ st ∧ st < 216 → (hw q st ≠ -2 → us g st → LD M st (L st)) ∧ (¬ (hw q st ≠ -2 ∧ us g st) → M 78 st = 1048576)
def fN (M M' : am_M) : Prop := ∀ b j : Int, b ≠ 78 → b ≠ 79 → b ≠ 80 → b ≠ 81 → b ≠ 82 → b ≠ 83 → M' b j = M b j
theorem fN.rf {M : am_M} : fN M M := fun _ _ _ _ _ _ _ _ => rfl
theorem fN.tr {M M' M'' : am_M} (h : fN M M') (h' : fN M' M'') : fN M M'' := fun b j h1 h2 h3 h4 h5 h6 => (h' b j h1 h2 h3 h4 h5 h6).trans (h b j h1 h2 h3 h4 h5 h6)
theorem fN.a {M M' : am_M} (h : fN M M') : fA M M' := fun b j _ _ h3 h4 h5 h6 _ h8 h9 => h b j h3 h4 h8 h5 h9 h6
theorem fF.n {M M' : am_M} (h : fF M M') : fN M M' := fun b j _ _ h3 h4 h5 h6 => h b j h4 h6 h3 h5
theorem RLd.ff {M M' : am_M} {g : Gd} {q : List (Int × Int)} {L : Ld} (h : RLd M g q L) (hf : fF M M') : RLd M' g q L := fun st hs => by
  have e78 : M' 78 st = M 78 st := hf 78 st (by omega) (by omega) (by omega) (by omega)
  have e79 : ∀ j : Int, M' 79 j = M 79 j := fun j => hf 79 j (by omega) (by omega) (by omega) (by omega)
  exact ⟨fun h1 h2 => ((h st hs).1 h1 h2).of e78 e79, fun h1 => by rw [e78]; exact (h st hs).2 h1⟩
theorem hw_bs_iff {sc : Int → Int → Int} {q : List (Int × Int)} {pl x st : Int} (hq : hok q) (hne : st ≠ sc pl x) : hw (bs sc q pl x) st = hw q st := by
  unfold bs
  split
  · rw [hw_app hq]
    split
    · rename_i h
      rw [if_neg (fun e => hne e.symm), h]
    · rfl
  · rfl
section
variable {M : am_M} {Q : Option am_V → am_M → Prop} {g : Gd}
theorem c0_stepsEven {q : List (Int × Int)} {L : Ld} {st x : Int} (hd : agd M g) (hg : okG g) (hs : 0 ≤ st ∧ st < 216) (hx : 0 ≤ x ∧ x < g.2.2.2) (hq : hok q) (hAI : AIn g q L) (hst : hw q st ≠ -2) (hus : us g st) (hmk : ∀ p : Int, 0 ≤ p ∧ p < 216 → (M 76 p = 2 ↔ (hw (aq g) p ≠ -2 ∧ us g p))) (hin : hw (aq g) st ≠ -2) (hRL : RLd M g q L)
    (k0 : ¬ AG g → ∀ M', fN M M' → Q (some (vi 0)) M')
    (k1 : ∀ (M' : am_M) (L' : Ld), (us g (gx g st x) → lk_ (sA g L st x) (sB g L st x) ∧ L' (gx g st x) = ct (sA g L st x) (sB g L st x)) → (∀ s : Int, s ≠ gx g st x → L' s = L s) → (hw q (gx g st x) ≠ -2 → L' (gx g st x) = L (gx g st x)) → RLd M' g (bs (gx g) q st x) L' → fN M M' → Q (some (vi 1)) M') : am_CallN m0_stepsEven [vr 75, vi st, vi x] KS M Q := by
  have hk := hg.1
  have hL := (hRL st hs).1 hst hus
  have hlen := hL.2.2.1
  rw [List.length_append] at hlen
  have hto := gx_rng hg hs hx
  have hwa := hg.2.2.1.2.1 (st / 6 % 6) x (by omega) hx
  have hwb := hg.2.2.2.2.1 (st % 6) x (by omega) hx
  have hwa2 : -1 ≤ ga g st x ∧ ga g st x ≤ 20 := by
    have := hwa.1
    have := hwa.2.1
    unfold ga
    omega
  have hwb2 : -1 ≤ gb g st x ∧ gb g st x ≤ 20 := by
    have := hwb.1
    have := hwb.2.1
    unfold gb
    omega
  have l1 := wl_len (ga g st x)
  have l2 := wl_len (gb g st x)
  have hlet := AI_let hg hAI hst hus
  refine am_callN_of (by decide +kernel) rfl rfl (Nat.le_of_ble_eq_true rfl) ?_
  refine g0_stepsEven_0 ?_
  refine c0_after hd hg hs hx ?_
  refine g0_stepsEven_6 ?_
  refine c0_isLive hto ?_
  by_cases hlv : M 76 (gx g st x) = 2
  · rw [if_pos hlv]
    have hut := ((hmk _ hto).mp hlv).2
    refine g0_stepsEven_12 (fun _ => ?_) (fun c => by exfalso; omega)
    refine g0_stepsEven_17 ?_
    refine c0_fetch hs hL (fun M1 hA hB hf1 => ?_)
    have hd1 := hd.of hf1.a
    obtain ⟨r2, kd2⟩ := hd1.2.1.kd
    refine g0_stepsEven_22 ?_
    refine c0_oneSpot hs.1 ?_
    refine g0_stepsEven_34 kd2 ?_
    refine q4_wordOf hd1.2.1 (by omega) (by omega) ?_
    refine g0_stepsEven_38 kd80 ?_
    refine c5_addWord (w := ga g st x) kd80 kd81 (by omega) hA hwa2 (by omega) (fun M2 hA2 hf2 => ?_)
    have hd2 := hd1.of hf2.f80.a
    obtain ⟨r3, kd3⟩ := hd2.2.2.1.kd
    have hB2 := hB.of hf2 (by omega) (by omega) (by omega) (by omega)
    refine g0_stepsEven_41 ?_
    refine c0_otherSpot hs.1 ?_
    refine g0_stepsEven_53 kd3 ?_
    refine q4_wordOf hd2.2.2.1 (by omega) (by omega) ?_
    refine g0_stepsEven_57 kd82 ?_
    refine c5_addWord (w := gb g st x) kd82 kd83 (by omega) hB2 hwb2 (by omega) (fun M3 hB3 hf3 => ?_)
    have hA3 := hA2.of hf3 (by omega) (by omega) (by omega) (by omega)
    have hff : fF M M3 := (hf1.tr hf2.f80).tr hf3.f82
    have hRL3 := hRL.ff hff
    change rw_ M3 80 81 (sA g L st x) at hA3
    change rw_ M3 82 83 (sB g L st x) at hB3
    have lA : (sA g L st x).length ≤ 74 := by
      unfold sA
      rw [List.length_append]
      omega
    have lB : (sB g L st x).length ≤ 74 := by
      unfold sB
      rw [List.length_append]
      omega
    have tA : ∀ y ∈ sA g L st x, 0 ≤ y ∧ y < 4 := by
      intro y hy
      rcases List.mem_append.mp hy with h | h
      · have := hlet.1 y h
        omega
      · have := hwa.2.2 y h
        omega
    have tB : ∀ y ∈ sB g L st x, 0 ≤ y ∧ y < 4 := by
      intro y hy
      rcases List.mem_append.mp hy with h | h
      · have := hlet.2 y h
        omega
      · have := hwb.2.2 y h
        omega
    refine g0_stepsEven_60 ?_
    refine c5_isLikeSoFar kd80 kd81 (by omega) hA3 kd82 kd83 (by omega) hB3 (by omega) (by omega) (fun hlk => ?_) (fun hlk => ?_)
    · refine g0_stepsEven_71 (fun _ => ?_) (fun c => by exfalso; omega)
      refine g0_stepsEven_76 ?_
      refine c5_size kd80 kd81 (by omega) hA3 ?_
      refine g0_stepsEven_83 ?_
      refine c5_size kd82 kd83 (by omega) hB3 ?_
      refine g0_stepsEven_90 (by omega) (by omega) (fun c => ?_) (fun c => ?_)
      · have h72 : (sA g L st x).length ≤ (sB g L st x).length + 72 ∧ (sB g L st x).length ≤ (sA g L st x).length + 72 := by
          split at c <;> omega
        refine g0_stepsEven_105 hto.1 hto.2 (fun c2 => ?_) (fun c2 => ?_)
        · have hold : hw q (gx g st x) ≠ -2 := by
            intro hn
            exact c2 ((hRL3 _ hto).2 (fun h => h.1 hn))
          have hLt := (hRL3 _ hto).1 hold hut
          refine g0_stepsEven_126 ?_
          refine c0_isLead hto hLt hA3 hB3 lA lB h72 (fun he => ?_) (fun he => ?_)
          · refine g0_stepsEven_133 (by omega) ?_
            refine k1 M3 L (fun _ => ⟨hlk, he⟩) (fun _ _ => rfl) (fun _ => rfl) ?_ hff.n
            have : bs (gx g) q st x = q := by
              unfold bs
              rw [if_neg hold]
            rw [this]
            exact hRL3
          · refine g0_stepsEven_133 (by omega) ?_
            exact k0 (AI_f4 hAI hst hx hut hold he) M3 hff.n
        · have hnew : hw q (gx g st x) = -2 := by
            by_cases hn : hw q (gx g st x) = -2
            · exact hn
            · exfalso
              have hLt := (hRL3 _ hto).1 hn hut
              have h1 := hLt.1
              have h2 := hLt.2.2.1
              rw [List.length_append] at h2
              omega
          refine g0_stepsEven_116 ?_
          refine c0_keepLead hto hA3 hB3 lA lB h72 tA tB (fun M4 hLD hoth hf4 => ?_)
          refine g0_stepsEven_123 ?_
          refine g0_stepsEven_133 (by omega) ?_
          refine k1 M4 (fun s => if s = gx g st x then ct (sA g L st x) (sB g L st x) else L s) (fun _ => ⟨hlk, if_pos rfl⟩) (fun s hne => if_neg hne) (fun h => absurd hnew h) (fun s hs2 => ?_) (hff.n.tr (fun b j h1 h2 _ _ _ _ => hf4 b j h1 h2))
          by_cases hse : s = gx g st x
          · subst hse
            refine ⟨fun _ _ => ?_, fun h => ?_⟩
            · show LD M4 (gx g st x) (if gx g st x = gx g st x then ct (sA g L st x) (sB g L st x) else L (gx g st x))
              rw [if_pos rfl]
              exact hLD
            · exact absurd ⟨bs_in hq hs.1 hx.1, hut⟩ h
          · rw [hw_bs_iff hq hse]
            have h1 := hRL3 s hs2
            have h2 := hoth s hse
            refine ⟨fun h3 h4 => ?_, fun h3 => ?_⟩
            · show LD M4 s (if s = gx g st x then ct (sA g L st x) (sB g L st x) else L s)
              rw [if_neg hse]
              have h5 := h1.1 h3 h4
              refine ⟨by rw [h2.1]; exact h5.1, h5.2.1, h5.2.2.1, fun i hi => ?_⟩
              rw [h2.2 i (by have := h5.2.2.1; omega)]
              exact h5.2.2.2 i hi
            · rw [h2.1]
              exact h1.2 h3
      · refine g0_stepsEven_103 (k0 (AI_f5 hg hAI hst hx hut ?_) M3 hff.n)
        split at c <;> omega
    · refine g0_stepsEven_71 (fun c => by exfalso; omega) (fun _ => ?_)
      exact g0_stepsEven_74 (k0 (AI_f3 hAI hst hx hut hlk) M3 hff.n)
  · rw [if_neg hlv]
    have hnu : ¬ us g (gx g st x) := fun h => hlv ((hmk _ hto).mpr ⟨aq_closed hg st x hin hx, h⟩)
    refine g0_stepsEven_12 (fun c => by exfalso; omega) (fun _ => ?_)
    refine g0_stepsEven_15 (k1 M L (fun h => absurd h hnu) (fun _ _ => rfl) (fun _ => rfl) (fun s hs2 => ?_) fN.rf)
    by_cases hse : s = gx g st x
    · subst hse
      exact ⟨fun _ h => absurd h hnu, fun _ => (hRL _ hs2).2 (fun h => hnu h.2)⟩
    · rw [hw_bs_iff hq hse]
      exact hRL s hs2
theorem AI_skip {q : List (Int × Int)} {i : Nat} {L : Ld} {e : Int × Int} (hg : okG g) (hB : bok ((216 : Nat) : Int) q) (h : AI g q i L) (he : q[i]? = some e) (hnu : ¬ us g e.1) : ∀ n : Nat, n ≤ g.2.2.2.toNat → AI g (br (gx g) q e.1 n) i L ∧ APr g (br (gx g) q e.1 n) L e.1 n ∧ ∀ s : Int, us g s → (hw (br (gx g) q e.1 n) s ≠ -2 ↔ hw q s ≠ -2)
  | 0, _ => ⟨h, fun x hx => by exfalso; omega, fun _ _ => Iff.rfl⟩
  | n + 1, hn => by
    have hk := hg.1
    obtain ⟨h1, h2, h3⟩ := AI_skip hg hB h he hnu n (by omega)
    have heb : 0 ≤ e.1 ∧ e.1 < 216 := hB.2.2.1 e (List.mem_of_getElem? he)
    have hbr := bok_br (h0 := e.2) (sc := gx g) hB he n (by omega) (fun y h0 h1 => gx_rng hg heb ⟨h0, by omega⟩)
    have hl := (List.getElem?_eq_some_iff.mp he).1
    obtain ⟨t, ht⟩ := br_pre (gx g) q e.1 n
    have he2 : (br (gx g) q e.1 n)[i]? = some e := by
      rw [ht, List.getElem?_append_left hl]
      exact he
    have hnt : ¬ us g (gx g e.1 n) := fun hu => hnu (us_back (by omega) hu)
    obtain ⟨h4, h5, -⟩ := AI_step (L' := L) (x := (n : Int)) hbr.1 h1 (List.getElem?_eq_some_iff.mp he2).1 he2 heb.1 (by omega) h2 (fun hu => absurd hu hnt) (fun _ _ => rfl) (fun _ => rfl)
    refine ⟨h4, h5, fun s hsu => ?_⟩
    show hw (bs (gx g) (br (gx g) q e.1 n) e.1 n) s ≠ -2 ↔ _
    rw [hw_bs_iff hbr.1 (fun hee => hnt (by rw [← hee]; exact hsu))]
    exact h3 s hsu
theorem c0_leadsAreEven (hd : agd M g) (hg : okG g) (hR : RA M (aq g)) (hmk : ∀ p : Int, 0 ≤ p ∧ p < 216 → (M 76 p = 2 ↔ (hw (aq g) p ≠ -2 ∧ us g p))) (hns : ∀ e ∈ aq g, ¬ sa g e.1) (hu0 : us g 0) (k1 : AG g → ∀ M', fA M M' → Q (some (vi 1)) M') (k0 : ¬ AG g → ∀ M', fA M M' → Q (some (vi 0)) M') : am_CallN m0_leadsAreEven [vr 75] KS M Q := by
  have hk := hg.1
  have hB := gx_bok hg
  have hlq : (aq g).length ≤ 216 := (hB 216).bound
  refine am_callN_of (by decide +kernel) rfl rfl (Nat.le_of_ble_eq_true rfl) ?_
  refine g0_leadsAreEven_0 ?_
  refine cJ_fill kd78 (by omega) ?_
  refine g0_leadsAreEven_9 ?_
  have key : ∀ (d : Nat) (i : Nat) (M2 : am_M) (L : Ld), i + d = 216 → i ≤ (bf (gx g) g.2.2.2.toNat i).length → AI g (bf (gx g) g.2.2.2.toNat i) i L → RLd M2 g (bf (gx g) g.2.2.2.toNat i) L → fN M M2 → am_AtN m0_leadsAreEven 18 [some (vr 75), some (vi (i : Int)), none, none] [] KS M2 Q := by
    intro d
    induction d with
    | zero =>
      intro i M2 L hi hil hAI hRL hf
      have e1 : M2 75 2 = (aq g).length := by rw [hf 75 2 (by omega) (by omega) (by omega) (by omega) (by omega) (by omega)]; exact hR.1
      have hb := (hB i).bound
      have hqi : bf (gx g) g.2.2.2.toNat i = aq g := by
        unfold aq
        rw [show i = 216 by omega]
      refine g0_leadsAreEven_18 (fun _ => ?_) (fun c => by exfalso; omega)
      refine g0_leadsAreEven_102 (k1 ?_ M2 hf.a)
      rw [hqi] at hAI hil
      refine AI_true (q := aq g) (L := L) (hB 216).1 (hB 216).2.2.2.1 ?_ hns
      rw [show (aq g).length = i by omega]
      exact hAI
    | succ d ih =>
      intro i M2 L hi hil hAI hRL hf
      have e1 : M2 75 2 = (aq g).length := by rw [hf 75 2 (by omega) (by omega) (by omega) (by omega) (by omega) (by omega)]; exact hR.1
      have hb := (hB i).bound
      obtain ⟨t, ht⟩ := bf_pren (gx g) g.2.2.2.toNat i (216 - i)
      rw [show i + (216 - i) = 216 by omega] at ht
      have ht' : aq g = bf (gx g) g.2.2.2.toNat i ++ t := ht
      by_cases hlt : i < (bf (gx g) g.2.2.2.toNat i).length
      · obtain ⟨e, he⟩ : ∃ e, (bf (gx g) g.2.2.2.toNat i)[i]? = some e := ⟨_, List.getElem?_eq_getElem hlt⟩
        have heb : 0 ≤ e.1 ∧ e.1 < 216 := (hB i).2.2.1 e (List.mem_of_getElem? he)
        have he2 : (aq g)[i]? = some e := by
          rw [ht', List.getElem?_append_left hlt]
          exact he
        have hla := (List.getElem?_eq_some_iff.mp he2).1
        have em : M2 77 i = e.1 := by
          rw [hf 77 i (by omega) (by omega) (by omega) (by omega) (by omega) (by omega)]
          exact RA_at hR he2
        have hin := hw_of_get (hB 216).1 (show (bf (gx g) g.2.2.2.toNat 216)[i]? = some e from he2)
        change hw (aq g) e.1 ≠ -2 at hin
        have hini := hw_of_get (hB i).1 he
        have hmk2 : ∀ p : Int, 0 ≤ p ∧ p < 216 → (M2 76 p = 2 ↔ (hw (aq g) p ≠ -2 ∧ us g p)) := by
          intro p hp
          rw [hf 76 p (by omega) (by omega) (by omega) (by omega) (by omega) (by omega)]
          exact hmk p hp
        have hgrow : i + 1 ≤ (bf (gx g) g.2.2.2.toNat (i + 1)).length := by
          obtain ⟨t2, ht2⟩ := bf_pre (gx g) g.2.2.2.toNat i
          rw [ht2]
          simp
          omega
        refine g0_leadsAreEven_18 (fun c => by exfalso; omega) (fun _ => ?_)
        refine g0_leadsAreEven_26 (fun c => by exfalso; omega) (fun _ => ?_)
        refine g0_leadsAreEven_33 (by omega) (by omega) ?_
        rw [em]
        refine c0_isLive heb ?_
        by_cases hlv : M2 76 e.1 = 2
        · rw [if_pos hlv]
          have hue := ((hmk2 _ heb).mp hlv).2
          have hLe := (hRL _ heb).1 hini hue
          refine g0_leadsAreEven_45 (fun _ => ?_) (fun c => by exfalso; omega)
          refine g0_leadsAreEven_51 ?_
          have body : ∀ M3, AEn g L e.1 → fN M M3 → RLd M3 g (bf (gx g) g.2.2.2.toNat i) L → am_AtN m0_leadsAreEven 69 [some (vr 75), some (vi (i : Int)), some (vi e.1), none] [] KS M3 Q := by
            intro M3 hEn hf3 hRL3
            refine g0_leadsAreEven_69 ?_
            refine am_forR (fun x ls M4 => ∃ L4 : Ld, ls = [some (vr 75), some (vi (i : Int)), some (vi e.1), some (vi x)] ∧ AI g (br (gx g) (bf (gx g) g.2.2.2.toNat i) e.1 x.toNat) i L4 ∧ APr g (br (gx g) (bf (gx g) g.2.2.2.toNat i) e.1 x.toNat) L4 e.1 x ∧ L4 e.1 = L e.1 ∧ RLd M4 g (br (gx g) (bf (gx g) g.2.2.2.toNat i) e.1 x.toNat) L4 ∧ fN M M4) 0 g.2.2.2 (by omega) ⟨L, rfl, hAI, fun y hy => by exfalso; omega, rfl, hRL3, hf3⟩ ?_ ?_
            · rintro ls M4 ⟨L4, rfl, h1, h2, h3, h4, h5⟩
              have ck := (hd.of h5.a).2.2.2
              refine g0_leadsAreEven_71 (fun _ => ?_) (fun c => by exfalso; omega)
              refine g0_leadsAreEven_96 (by omega) ?_
              have hbs := bf_s he (k := g.2.2.2.toNat) (sc := gx g)
              rw [← hbs] at h1 h2 h4
              have he3 : (bf (gx g) g.2.2.2.toNat (i + 1))[i]? = some e := by
                obtain ⟨t2, ht2⟩ := bf_pre (gx g) g.2.2.2.toNat i
                rw [ht2, List.getElem?_append_left hlt]
                exact he
              refine ih (i + 1) M4 L4 (by omega) hgrow (AI_next h1 he3 h2 ?_) h4 h5
              unfold AEn
              rw [h3]
              exact hEn
            · rintro x ls M4 hx0 hx1 ⟨L4, rfl, h1, h2, h3, h4, h5⟩ ihx
              have ck := (hd.of h5.a).2.2.2
              have hbr := bok_br (h0 := e.2) (sc := gx g) (hB i) he x.toNat (by omega) (fun y h0 h1 => gx_rng hg heb ⟨h0, by omega⟩)
              have ebs : br (gx g) (bf (gx g) g.2.2.2.toNat i) e.1 (x + 1).toNat = bs (gx g) (br (gx g) (bf (gx g) g.2.2.2.toNat i) e.1 x.toNat) e.1 x := by
                rw [show (x + 1).toNat = x.toNat + 1 by omega, br, show ((x.toNat : Nat) : Int) = x by omega]
              obtain ⟨t2, ht2⟩ := br_pre (gx g) (bf (gx g) g.2.2.2.toNat i) e.1 x.toNat
              have he4 : (br (gx g) (bf (gx g) g.2.2.2.toNat i) e.1 x.toNat)[i]? = some e := by
                rw [ht2, List.getElem?_append_left hlt]
                exact he
              have hmk4 : ∀ p : Int, 0 ≤ p ∧ p < 216 → (M4 76 p = 2 ↔ (hw (aq g) p ≠ -2 ∧ us g p)) := by
                intro p hp
                rw [h5 76 p (by omega) (by omega) (by omega) (by omega) (by omega) (by omega)]
                exact hmk p hp
              refine g0_leadsAreEven_71 (fun c => by exfalso; omega) (fun _ => ?_)
              refine g0_leadsAreEven_79 ?_
              refine c0_stepsEven (hd.of h5.a) hg heb ⟨hx0, hx1⟩ hbr.1 h1.1 (hw_of_get hbr.1 he4) hue hmk4 hin h4 (fun hn M5 hf5 => ?_) (fun M5 L5 s1 s2 s3 s4 s5 => ?_)
              · refine g0_leadsAreEven_85 (fun c => by exfalso; omega) (fun _ => ?_)
                exact g0_leadsAreEven_88 (k0 hn M5 (h5.tr hf5).a)
              · obtain ⟨h6, h7, h8⟩ := AI_step (L' := L5) hbr.1 h1 (List.getElem?_eq_some_iff.mp he4).1 he4 heb.1 ⟨hx0, hx1⟩ h2 s1 s2 s3
                refine g0_leadsAreEven_85 (fun _ => ?_) (fun c => by exfalso; omega)
                refine g0_leadsAreEven_90 (by omega) ?_
                refine ihx _ M5 ⟨L5, rfl, ?_, ?_, h8.trans h3, ?_, h5.tr s5⟩
                · rw [ebs]
                  exact h6
                · rw [ebs]
                  exact h7
                · rw [ebs]
                  exact s4
          refine c0_bothWrite (hd.of hf.a) heb (fun hb => ?_) (fun hb => ?_)
          · refine g0_leadsAreEven_56 (fun c => by exfalso; omega) (fun _ => ?_)
            refine g0_leadsAreEven_59 ?_
            refine c0_endsEven (hd.of hf.a) hg heb hLe (fun M3 hf3 => ?_)
            by_cases hev : (L e.1).1 ++ wl (ea g e.1) = (L e.1).2 ++ wl (eb g e.1)
            · rw [if_pos hev]
              refine g0_leadsAreEven_64 (fun _ => ?_) (fun c => by exfalso; omega)
              exact body M3 (fun _ => hev) (hf.tr hf3.n) (hRL.ff hf3)
            · rw [if_neg hev]
              refine g0_leadsAreEven_64 (fun c => by exfalso; omega) (fun _ => ?_)
              exact g0_leadsAreEven_67 (k0 (AI_f2 hAI.1 hini (fun h => hev (h hb))) M3 (hf.tr hf3.n).a)
          · refine g0_leadsAreEven_56 (fun _ => ?_) (fun c => by exfalso; omega)
            exact body M2 (fun h => absurd h hb) hf hRL
        · rw [if_neg hlv]
          have hnu : ¬ us g e.1 := fun h => hlv ((hmk2 _ heb).mpr ⟨hin, h⟩)
          obtain ⟨h1, h2, h3⟩ := AI_skip hg (hB i) hAI he hnu g.2.2.2.toNat (Nat.le_refl _)
          have hbs := bf_s he (k := g.2.2.2.toNat) (sc := gx g)
          rw [← hbs] at h1 h2 h3
          have he3 : (bf (gx g) g.2.2.2.toNat (i + 1))[i]? = some e := by
            obtain ⟨t2, ht2⟩ := bf_pre (gx g) g.2.2.2.toNat i
            rw [ht2, List.getElem?_append_left hlt]
            exact he
          rw [show ((g.2.2.2.toNat : Nat) : Int) = g.2.2.2 by omega] at h2
          refine g0_leadsAreEven_45 (fun c => by exfalso; omega) (fun _ => ?_)
          refine g0_leadsAreEven_48 ?_
          refine g0_leadsAreEven_96 (by omega) ?_
          refine ih (i + 1) M2 L (by omega) hgrow (AI_next h1 he3 h2 (fun hb => absurd (us_bw hb) hnu)) (fun s hs2 => ?_) hf
          refine ⟨fun h4 h5 => (hRL s hs2).1 ((h3 s h5).mp h4) h5, fun h4 => (hRL s hs2).2 (fun h5 => h4 ⟨(h3 s h5.2).mpr h5.1, h5.2⟩)⟩
      · have hend : aq g = bf (gx g) g.2.2.2.toNat i := bf_end (i := i) (n := 216) (by omega) (by omega)
        have hil2 : i = (aq g).length := by
          rw [hend]
          omega
        refine g0_leadsAreEven_18 (fun _ => ?_) (fun c => by exfalso; omega)
        refine g0_leadsAreEven_102 (k1 ?_ M2 hf.a)
        rw [← hend] at hAI
        refine AI_true (q := aq g) (L := L) (hB 216).1 (hB 216).2.2.2.1 ?_ hns
        rw [← hil2]
        exact hAI
  refine key 216 0 _ (fun _ => ([], [])) (by omega) (by omega) (AI_start g _ rfl) (fun st hs => ?_) (fun b j h1 h2 h3 h4 h5 h6 => ?_)
  · have h0 : hw (bf (gx g) g.2.2.2.toNat 0) st = if (0 : Int) = st then -1 else -2 := rfl
    rw [h0]
    by_cases e : (0 : Int) = st
    · subst e
      rw [if_pos rfl]
      refine ⟨fun _ _ => ⟨by rw [am_up_hit]; rfl, Or.inl rfl, by show 0 ≤ 72; omega, fun i hi => by exfalso; have hi : i < 0 := hi; omega⟩, fun h => ?_⟩
      exact absurd ⟨by omega, hu0⟩ h
    · rw [if_neg e]
      refine ⟨fun h => absurd rfl h, fun _ => ?_⟩
      rw [am_upn (Or.inr (fun h => e h.symm)), am_fl_in (by omega)]
  · rw [am_upn (Or.inl h1), am_fl_out (by omega)]
theorem aq_rg (hg : okG g) : ∀ (i : Nat) (e : Int × Int), e ∈ bf (gx g) g.2.2.2.toNat i → ∃ (n : Nat) (a b : List Int), rg g n e.1 a b
  | 0, e, he => by
    rw [List.mem_singleton.mp he]
    exact ⟨0, [], [], rfl, rfl, rfl⟩
  | i + 1, e, he => by
    have hk := hg.1
    unfold bf at he
    cases h : (bf (gx g) g.2.2.2.toNat i)[i]? with
    | none =>
      rw [h] at he
      exact aq_rg hg i e he
    | some e2 =>
      rw [h] at he
      obtain ⟨n, a, b, hr⟩ := aq_rg hg i e2 (List.mem_of_getElem? h)
      have : ∀ m : Nat, m ≤ g.2.2.2.toNat → ∀ e3, e3 ∈ br (gx g) (bf (gx g) g.2.2.2.toNat i) e2.1 m → ∃ (n : Nat) (a b : List Int), rg g n e3.1 a b := by
        intro m
        induction m with
        | zero => exact fun _ e3 he3 => aq_rg hg i e3 he3
        | succ m ihm =>
          intro hm e3 he3
          have he3 : e3 ∈ bs (gx g) (br (gx g) (bf (gx g) g.2.2.2.toNat i) e2.1 m) e2.1 m := he3
          unfold bs at he3
          split at he3
          · rcases List.mem_append.mp he3 with h4 | h4
            · exact ihm (by omega) e3 h4
            · rw [List.mem_singleton.mp h4]
              exact ⟨n + 1, _, _, e2.1, a, b, m, hr, by omega, rfl, rfl, rfl⟩
          · exact ihm (by omega) e3 he3
      exact this _ (Nat.le_refl _) e he
theorem rg_us : ∀ (n : Nat) (st : Int) (a b : List Int), rg g n st a b → us g st → us g 0
  | 0, st, a, b, hr, hu => by
    obtain ⟨rfl, -, -⟩ := hr
    exact hu
  | n + 1, st, a, b, hr, hu => by
    obtain ⟨st', a', b', x, hr, hx, rfl, -, -⟩ := hr
    exact rg_us n st' a' b' hr (us_back hx hu)
theorem rg_aq (hg : okG g) : ∀ (n : Nat) (st : Int) (a b : List Int), rg g n st a b → hw (aq g) st ≠ -2
  | 0, st, a, b, hr => by
    obtain ⟨rfl, -, -⟩ := hr
    have h1 := gx_bok hg 216
    change bok ((216 : Nat) : Int) (aq g) at h1
    have h2 := hw_of_get h1.1 h1.2.2.2.1
    exact h2
  | n + 1, st, a, b, hr => by
    obtain ⟨st', a', b', x, hr, hx, rfl, -, -⟩ := hr
    exact aq_closed hg st' x (rg_aq hg n st' a' b' hr) hx
def fG (M M' : am_M) : Prop := ∀ b j : Int, ¬ (75 ≤ b ∧ b ≤ 83) → M' b j = M b j
theorem c0_isSo {s p o k : Int} {A : Sn} {P R : Pg} (hA : isS M s A) (hP : isP M p P) (hR : isP M o R) (hg : okG (A, P, R, k)) (k1 : AG (A, P, R, k) → ∀ M', fG M M' → Q (some (vi 1)) M') (k0 : ¬ AG (A, P, R, k) → ∀ M', fG M M' → Q (some (vi 0)) M') : am_CallN m0_isSo [vr 75, vr s, vr p, vr o, vi k] KS M Q := by
  obtain ⟨ra, kA⟩ := hA.kd
  obtain ⟨rp, kP⟩ := hP.kd
  obtain ⟨ro, kO⟩ := hR.kd
  have rng : ∀ {a : Int} {e : am_C}, am_kd KS a = some e → 0 ≤ a ∧ a < 113 := by
    intro a e h
    unfold am_kd at h
    by_cases h1 : a < 0
    · rw [if_pos h1] at h
      cases h
    · rw [if_neg h1] at h
      have h2 := (List.getElem?_eq_some_iff.mp h).1
      have h3 : (KS.1).length = 113 := rfl
      omega
  have r1 := rng kA
  have r2 := rng kP
  have r3 := rng kO
  refine am_callN_of (by decide +kernel) rfl rfl (Nat.le_of_ble_eq_true rfl) ?_
  refine g0_isSo_0 (by omega) (by omega) (by omega) ?_
  have e75 : ∀ b j : Int, b ≠ 75 → am_up (am_up (am_up (am_up M 75 7 s) 75 8 p) 75 9 o) 75 10 k b j = M b j := fun b j hb => by rw [am_upn (Or.inl hb), am_upn (Or.inl hb), am_upn (Or.inl hb), am_upn (Or.inl hb)]
  have etab : ∀ a j : Int, tab a → am_up (am_up (am_up (am_up M 75 7 s) 75 8 p) 75 9 o) 75 10 k a j = M a j := fun a j ht => e75 a j (by have := tab_ne ht; omega)
  have hd : agd (am_up (am_up (am_up (am_up M 75 7 s) 75 8 p) 75 9 o) 75 10 k) (A, P, R, k) := by
    unfold agd
    have q7 : am_up (am_up (am_up (am_up M 75 7 s) 75 8 p) 75 9 o) 75 10 k 75 7 = s := by rw [am_upn (Or.inr (by omega)), am_upn (Or.inr (by omega)), am_upn (Or.inr (by omega)), am_up_hit]
    have q8 : am_up (am_up (am_up (am_up M 75 7 s) 75 8 p) 75 9 o) 75 10 k 75 8 = p := by rw [am_upn (Or.inr (by omega)), am_upn (Or.inr (by omega)), am_up_hit]
    have q9 : am_up (am_up (am_up (am_up M 75 7 s) 75 8 p) 75 9 o) 75 10 k 75 9 = o := by rw [am_upn (Or.inr (by omega)), am_up_hit]
    rw [q7, q8, q9, am_up_hit]
    exact ⟨hA.of etab, hP.of etab, hR.of etab, rfl⟩
  generalize am_up (am_up (am_up (am_up M 75 7 s) 75 8 p) 75 9 o) 75 10 k = M0 at e75 hd
  have toG : ∀ M', fA M0 M' → fG M M' := fun M' hf b j hb => by
    rw [hf b j (by omega) (by omega) (by omega) (by omega) (by omega) (by omega) (Or.inl (by omega)) (by omega) (by omega)]
    exact e75 b j (by omega)
  refine c0_explore hd hg (fun M1 hX hf1 => ?_)
  have hd1 := hd.of hf1
  refine g0_isSo_25 ?_
  refine c0_oneStopsAlone hd1 hg hX.1 (gx_bok hg 216) (fun hsa => ?_) (fun hsa => ?_)
  · refine g0_isSo_29 (fun c => by exfalso; omega) (fun _ => ?_)
    refine g0_isSo_32 (k0 (fun hAG => ?_) M1 (toG M1 hf1))
    obtain ⟨e, he, hs⟩ := hsa
    obtain ⟨n, a, b, hr⟩ := aq_rg hg 216 e he
    exact (hAG n e.1 a b hr).1 hs
  · refine g0_isSo_29 (fun _ => ?_) (fun c => by exfalso; omega)
    refine g0_isSo_34 ?_
    refine c0_markLive hd1 hg hX (fun M2 hR2 hmk hf2 => ?_)
    have hd2 := hd1.of hf2
    have h0 : hw (aq (A, P, R, k)) 0 ≠ -2 := rg_aq hg 0 0 [] [] ⟨rfl, rfl, rfl⟩
    refine g0_isSo_38 (fun c => ?_) (fun c => ?_)
    · refine g0_isSo_55 ?_
      refine g0_isSo_60 (by omega) (k1 (fun n st a b hr => ?_) M2 (toG M2 (hf1.tr hf2)))
      refine ⟨fun hs => ?_, fun hb => ?_⟩
      · exact hsa _ (hw_mem (rg_aq hg n st a b hr)) hs
      · exact absurd ((hmk 0 (by omega)).mpr ⟨h0, rg_us n st a b hr (us_bw hb)⟩) c
    · refine g0_isSo_48 ?_
      refine c0_leadsAreEven hd2 hg hR2 hmk hsa ((hmk 0 (by omega)).mp c).2 (fun hAG M3 hf3 => ?_) (fun hAG M3 hf3 => ?_)
      · refine g0_isSo_52 (fun c => by exfalso; omega) (fun _ => ?_)
        refine g0_isSo_55 ?_
        exact g0_isSo_60 (by omega) (k1 hAG M3 (toG M3 ((hf1.tr hf2).tr hf3)))
      · refine g0_isSo_52 (fun _ => ?_) (fun c => by exfalso; omega)
        refine g0_isSo_59 ?_
        exact g0_isSo_60 (by omega) (k0 hAG M3 (toG M3 ((hf1.tr hf2).tr hf3)))
end
