/-! ===== programs that agree: the class, which states are live ===== -/
section
variable {M : am_M} {Q : Option am_V → am_M → Prop} {g : Gd}
theorem c0_isLive {p : Int} (hp : 0 ≤ p ∧ p < 216) (k : Q (some (vi (if M 76 p = 2 then 1 else 0))) M) : am_CallN m0_isLive [vr 75, vi p] KS M Q := by
  refine am_callN_of (by decide +kernel) rfl rfl (Nat.le_of_ble_eq_true rfl) ?_
  refine g0_isLive_0 ?_
  refine c8_in hp ?_
  refine g0_isLive_7 (fun c => by exfalso; omega) (fun _ => ?_)
  refine g0_isLive_10 hp.1 hp.2 (fun c => ?_) (fun c => ?_)
  · rw [if_neg c] at k
    exact g0_isLive_24 (g0_isLive_25 (by omega) k)
  · rw [if_pos c] at k
    exact g0_isLive_20 (g0_isLive_25 (by omega) k)
theorem c0_setLive {p : Int} (hp : 0 ≤ p ∧ p < 216) (k : Q none (am_up M 76 p 2)) : am_CallN m0_setLive [vr 75, vi p] KS M Q := by
  refine am_callN_of (by decide +kernel) rfl rfl (Nat.le_of_ble_eq_true rfl) ?_
  refine g0_setLive_0 ?_
  refine c8_in hp ?_
  refine g0_setLive_7 (fun c => by exfalso; omega) (fun _ => ?_)
  exact g0_setLive_10 hp.1 hp.2 (g0_setLive_17 k)
theorem c0_leadsToLive {st : Int} (hd : agd M g) (hg : okG g) (hs : 0 ≤ st ∧ st < 216) (k1 : (∃ x : Int, (0 ≤ x ∧ x < g.2.2.2) ∧ M 76 (gx g st x) = 2) → Q (some (vi 1)) M) (k0 : (∀ x : Int, 0 ≤ x ∧ x < g.2.2.2 → ¬ M 76 (gx g st x) = 2) → Q (some (vi 0)) M) : am_CallN m0_leadsToLive [vr 75, vi st] KS M Q := by
  have hk := hg.1
  have ck := hd.2.2.2
  refine am_callN_of (by decide +kernel) rfl rfl (Nat.le_of_ble_eq_true rfl) ?_
  refine g0_leadsToLive_0 ?_
  refine am_forI (fun x => [some (vr 75), some (vi st), some (vi x)]) (fun _ => M) (fun x => ∀ y : Int, 0 ≤ y ∧ y < x → ¬ M 76 (gx g st y) = 2) 0 g.2.2.2 (by omega) rfl rfl (fun y hy => by exfalso; omega) (fun hI => ?_) (fun x h0 h1 hI ih => ?_)
  · refine g0_leadsToLive_2 (fun _ => ?_) (fun c => by exfalso; omega)
    exact g0_leadsToLive_31 (k0 hI)
  · refine g0_leadsToLive_2 (fun c => by exfalso; omega) (fun _ => ?_)
    refine g0_leadsToLive_10 ?_
    refine c0_after hd hg hs ⟨h0, h1⟩ ?_
    refine g0_leadsToLive_17 kd75 ?_
    refine c0_isLive (gx_rng hg hs ⟨h0, h1⟩) ?_
    by_cases e : M 76 (gx g st x) = 2
    · rw [if_pos e]
      refine g0_leadsToLive_20 (fun c => by exfalso; omega) (fun _ => ?_)
      exact g0_leadsToLive_23 (k1 ⟨x, ⟨h0, h1⟩, e⟩)
    · rw [if_neg e]
      refine g0_leadsToLive_20 (fun _ => ?_) (fun c => by exfalso; omega)
      refine g0_leadsToLive_25 (by omega) (ih (fun y hy => ?_))
      by_cases hyx : y = x
      · subst hyx
        exact e
      · exact hI y (by omega)
def cl (M : am_M) : Int := am_sm (fun p => if M 76 p = 2 then 1 else 0) 216
theorem cl_le (M : am_M) : cl M ≤ 216 := by
  have := am_sm_bnd (f := fun p => if M 76 p = 2 then 1 else 0) (c := 1) 216 (fun j _ _ => by
    show 0 ≤ (if M 76 j = 2 then (1 : Int) else 0) ∧ (if M 76 j = 2 then (1 : Int) else 0) ≤ 1
    split <;> omega)
  unfold cl
  omega
theorem cl_nn (M : am_M) : 0 ≤ cl M := by
  have := am_sm_bnd (f := fun p => if M 76 p = 2 then 1 else 0) (c := 1) 216 (fun j _ _ => by
    show 0 ≤ (if M 76 j = 2 then (1 : Int) else 0) ∧ (if M 76 j = 2 then (1 : Int) else 0) ≤ 1
    split <;> omega)
  unfold cl
  omega
theorem cl_up {p : Int} (hp : 0 ≤ p ∧ p < 216) (h : ¬ M 76 p = 2) : cl (am_up M 76 p 2) = cl M + 1 := by
  have h1 : am_sm (fun j => if am_up M 76 p 2 76 j = 2 then 1 else 0) 216 = am_sm (fun j => (if M 76 j = 2 then 1 else 0) + (if p = j then 1 else 0)) 216 := by
    refine am_sm_congr 216 (fun j _ _ => ?_)
    show (if am_up M 76 p 2 76 j = 2 then (1 : Int) else 0) = (if M 76 j = 2 then (1 : Int) else 0) + (if p = j then (1 : Int) else 0)
    by_cases e : p = j
    · subst e
      rw [am_up_hit, if_pos rfl, if_neg h, if_pos rfl]
      rfl
    · rw [am_upn (Or.inr (fun h => e h.symm)), if_neg e]
      omega
  unfold cl
  rw [h1, am_sm_add (f := fun j => if M 76 j = 2 then 1 else 0) (g := fun j => if p = j then 1 else 0), am_sm_one hp.1, if_pos (show p < ((216 : Nat) : Int) from hp.2)]
def stb (M : am_M) (g : Gd) (e : Int) : Prop := M 76 e = 2 ∨ (¬ bw g e ∧ ∀ x : Int, 0 ≤ x ∧ x < g.2.2.2 → ¬ M 76 (gx g e x) = 2)
theorem stb_live {q : List (Int × Int)} (hcl : ∀ (st x : Int), hw q st ≠ -2 → 0 ≤ x ∧ x < g.2.2.2 → hw q (gx g st x) ≠ -2) (h : ∀ e ∈ q, stb M g e.1) : ∀ (m : Nat) (p : Int), hw q p ≠ -2 → uw g m p → M 76 p = 2
  | 0, p, hp, hu => by
    rcases h _ (hw_mem hp) with h1 | h1
    · exact h1
    · exact absurd hu h1.1
  | m + 1, p, hp, hu => by
    obtain ⟨x, hx, hu⟩ := hu
    have h2 := stb_live hcl h m _ (hcl p x hp hx) hu
    rcases h _ (hw_mem hp) with h1 | h1
    · exact h1
    · exact absurd h2 (h1.2 x hx)
theorem aq_closed (hg : okG g) (st x : Int) (hs : hw (aq g) st ≠ -2) (hx : 0 ≤ x ∧ x < g.2.2.2) : hw (aq g) (gx g st x) ≠ -2 := by
  have hk := hg.1
  obtain ⟨j, hj⟩ := List.mem_iff_getElem?.mp (hw_mem hs)
  have hl := (List.getElem?_eq_some_iff.mp hj).1
  have hb := (gx_bok hg 216).bound
  have hl2 : j < (bf (gx g) g.2.2.2.toNat 216).length := hl
  exact bf_closed (sc := gx g) (k := g.2.2.2.toNat) (by omega) (gx_bok hg) 216 j _ (by omega) hj x hx.1 (by omega)
theorem c0_markLive (hd : agd M g) (hg : okG g) (hR : RX M (aq g)) (kk : ∀ M', RA M' (aq g) → (∀ p : Int, 0 ≤ p ∧ p < 216 → (M' 76 p = 2 ↔ (hw (aq g) p ≠ -2 ∧ us g p))) → fA M M' → Q none M') : am_CallN m0_markLive [vr 75] KS M Q := by
  have hB := gx_bok hg 216
  have hl := hB.bound
  have hl0 := hB.len
  change (aq g).length ≤ 216 at hl
  change 0 < (aq g).length at hl0
  refine am_callN_of (by decide +kernel) rfl rfl (Nat.le_of_ble_eq_true rfl) ?_
  refine g0_markLive_0 ?_
  have key : ∀ (d : Nat) (w : Nat) (M2 : am_M) (c : Int), w + d = 217 → (c = 0 ∨ c = 1) → RA M2 (aq g) → (∀ p : Int, 0 ≤ p ∧ p < 216 → M2 76 p = 2 → hw (aq g) p ≠ -2 ∧ us g p) → (c = 1 → (w : Int) ≤ cl M2) → (c = 0 → ∀ e ∈ aq g, stb M2 g e.1) → fA M M2 → am_AtN m0_markLive 4 [some (vr 75), some (vi c), some (vi (w : Int)), none] [] KS M2 Q := by
    intro d
    induction d with
    | zero =>
      intro w M2 c hw' hc hR2 hs2 hn2 hst hf2
      have := cl_le M2
      refine g0_markLive_4 (fun c0 => ?_) (fun c0 => by exfalso; have := hn2 (by omega); omega)
      refine g0_markLive_97 (kk M2 hR2 (fun p hp => ⟨hs2 p hp, fun h => ?_⟩) hf2)
      obtain ⟨h1, m, h2⟩ := h
      exact stb_live (aq_closed hg) (hst c0) m p h1 h2
    | succ d ih =>
      intro w M2 c hw' hc hR2 hs2 hn2 hst hf2
      refine g0_markLive_4 (fun c0 => ?_) (fun c0 => ?_)
      · refine g0_markLive_97 (kk M2 hR2 (fun p hp => ⟨hs2 p hp, fun h => ?_⟩) hf2)
        obtain ⟨h1, m, h2⟩ := h
        exact stb_live (aq_closed hg) (hst c0) m p h1 h2
      · have hn2 := hn2 (by omega)
        have e2 := hR2.1
        have emin : (if 216 < M2 75 2 then (216 : Int) else M2 75 2) = (aq g).length := by
          rw [if_neg (by omega), e2]
        refine g0_markLive_8 (fun c => by exfalso; omega) (fun _ => ?_)
        refine g0_markLive_15 (by rw [emin]; omega) ?_
        rw [emin]
        have inner : ∀ (m : Nat) (M3 : am_M) (c : Int), m ≤ (aq g).length → (c = 0 ∨ c = 1) → RA M3 (aq g) → (∀ p : Int, 0 ≤ p ∧ p < 216 → M3 76 p = 2 → hw (aq g) p ≠ -2 ∧ us g p) → ((w : Int) + c ≤ cl M3) → (c = 0 → ∀ (j : Nat) (e : Int × Int), m ≤ j → (aq g)[j]? = some e → stb M3 g e.1) → fA M M3 → am_AtN m0_markLive 30 [some (vr 75), some (vi c), some (vi (w : Int)), some (vi ((m : Int) - 1))] [] KS M3 Q := by
          intro m
          induction m with
          | zero =>
            intro M3 c hm hc hR3 hs3 hn3 hst3 hf3
            refine g0_markLive_30 (fun _ => ?_) (fun c => by exfalso; omega)
            refine g0_markLive_91 (by omega) ?_
            refine ih (w + 1) M3 c (by omega) hc hR3 hs3 (fun h => by omega) (fun h e he => ?_) hf3
            obtain ⟨j, hj⟩ := List.mem_iff_getElem?.mp he
            exact hst3 h j e (by omega) hj
          | succ m ihm =>
            intro M3 c hm hc hR3 hs3 hn3 hst3 hf3
            have hlt : m < (aq g).length := by omega
            obtain ⟨e, he⟩ : ∃ e, (aq g)[m]? = some e := ⟨_, List.getElem?_eq_getElem hlt⟩
            have heb : 0 ≤ e.1 ∧ e.1 < 216 := hB.2.2.1 e (List.mem_of_getElem? he)
            have em := RA_at hR3 he
            have hee := hw_of_get hB.1 he
            have hd3 := hd.of hf3
            have e1 : ((m + 1 : Nat) : Int) - 1 = m := by omega
            rw [e1]
            have next : ∀ (M4 : am_M) (c4 : Int), (c4 = 0 ∨ c4 = 1) → RA M4 (aq g) → (∀ p : Int, 0 ≤ p ∧ p < 216 → M4 76 p = 2 → hw (aq g) p ≠ -2 ∧ us g p) → ((w : Int) + c4 ≤ cl M4) → (c4 = 0 → ∀ (j : Nat) (e : Int × Int), m ≤ j → (aq g)[j]? = some e → stb M4 g e.1) → fA M M4 → am_AtN m0_markLive 85 [some (vr 75), some (vi c4), some (vi (w : Int)), some (vi (m : Int))] [] KS M4 Q := by
              intro M4 c4 h1 h2 h3 h4 h5 h6
              refine g0_markLive_85 (by omega) ?_
              exact ihm M4 c4 (by omega) h1 h2 h3 h4 h5 h6
            have nextS : stb M3 g e.1 → am_AtN m0_markLive 85 [some (vr 75), some (vi c), some (vi (w : Int)), some (vi (m : Int))] [] KS M3 Q := by
              intro hs
              refine next M3 c hc hR3 hs3 hn3 (fun h j e' hj hj2 => ?_) hf3
              by_cases hjm : j = m
              · subst hjm
                rw [he] at hj2
                obtain rfl := Option.some.inj hj2
                exact hs
              · exact hst3 h j e' (by omega) hj2
            refine g0_markLive_30 (fun c => by exfalso; omega) (fun _ => ?_)
            refine g0_markLive_34 (by omega) (by omega) ?_
            rw [em]
            refine c0_isLive heb ?_
            by_cases hlv : M3 76 e.1 = 2
            · rw [if_pos hlv]
              exact g0_markLive_44 (fun _ => nextS (Or.inl hlv)) (fun c => by exfalso; omega)
            · rw [if_neg hlv]
              have set : us g e.1 → am_AtN m0_markLive 73 [some (vr 75), some (vi c), some (vi (w : Int)), some (vi (m : Int))] [] KS M3 Q := by
                intro hu
                refine g0_markLive_73 (by omega) (by omega) ?_
                rw [em]
                refine c0_setLive heb ?_
                refine g0_markLive_83 ?_
                refine next _ 1 (Or.inr rfl) ⟨?_, fun j hj => ?_⟩ (fun p hp h => ?_) ?_ (fun h => by exfalso; omega) (hf3.tr (fun b j h1 h2 h3 h4 h5 h6 h7 h8 h9 => am_upn (Or.inl h1)))
                · rw [am_upn (Or.inl (by omega))]
                  exact hR3.1
                · rw [am_upn (Or.inl (by omega))]
                  exact hR3.2 j hj
                · by_cases hpe : p = e.1
                  · subst hpe
                    exact ⟨hee, hu⟩
                  · rw [am_upn (Or.inr hpe)] at h
                    exact hs3 p hp h
                · rw [cl_up heb hlv]
                  omega
              refine g0_markLive_44 (fun c => by exfalso; omega) (fun _ => ?_)
              refine g0_markLive_47 (by omega) (by omega) ?_
              rw [em]
              refine c0_bothWrite hd3 heb (fun hb => ?_) (fun hb => ?_)
              · exact g0_markLive_57 (fun _ => set (us_bw hb)) (fun c => by exfalso; omega)
              · refine g0_markLive_57 (fun c => by exfalso; omega) (fun _ => ?_)
                refine g0_markLive_60 (by omega) (by omega) ?_
                rw [em]
                refine c0_leadsToLive hd3 hg heb (fun hx => ?_) (fun hx => ?_)
                · obtain ⟨x, hx, hx2⟩ := hx
                  exact g0_markLive_70 (fun c => by exfalso; omega) (fun _ => set (us_back hx (hs3 _ (gx_rng hg heb hx) hx2).2))
                · exact g0_markLive_70 (fun _ => nextS (Or.inr ⟨hb, hx⟩)) (fun c => by exfalso; omega)
        exact inner (aq g).length M2 0 (Nat.le_refl _) (Or.inl rfl) hR2 hs2 (by omega) (fun _ j e hj hj2 => by
          have := (List.getElem?_eq_some_iff.mp hj2).1
          omega) hf2
  refine key 217 0 M 1 (by omega) (Or.inr rfl) hR.1 (fun p hp h => ?_) (fun _ => by have := cl_nn M; omega) (fun h => by exfalso; omega) fA.rf
  rw [hR.2 p hp] at h
  split at h <;> omega
end
