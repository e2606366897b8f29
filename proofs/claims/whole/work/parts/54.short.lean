/-! ===== letters that stay: the class's walk ===== -/
theorem uok0 (u : Ud) : uok u [(0, 0, 0)] := by
  have h : ∀ (j : Nat) (e : Nd), ([(0, 0, 0)] : List Nd)[j]? = some e → e = (0, 0, 0) := by
    intro j e he
    cases j with
    | zero =>
      simp at he
      exact he.symm
    | succ j => simp at he
  have hc : ∀ st : Int, cn [(0, 0, 0)] st = (if (0 : Int) = st then 1 else 0) + 0 := fun _ => rfl
  refine ⟨fun j e he => ?_, fun i j e e' _ he he' => ?_, List.mem_cons_self, fun st => ?_, fun st hs => ?_⟩
  · rw [h j e he]
    refine ⟨⟨?_, ?_⟩, ⟨?_, ?_⟩, ?_⟩
    · exact Int.le_refl _
    · show (0 : Int) < 36
      omega
    · exact Int.le_refl _
    · show (0 : Int) ≤ j
      omega
    · exact ⟨rfl, rfl⟩
  · rw [h i e he, h j e' he']
    exact Int.le_refl _
  · rw [hc]
    split <;> omega
  · rw [hc] at hs
    split at hs <;> omega
theorem ky_nil : ky [] (0, 0, 0) = [(0, 0, 0)] := by
  unfold ky
  rw [if_neg (by show ¬ (2 : Int) ≤ 0; omega), if_neg (fun h => by have h1 : (0 : Int) = 1 := h.1; omega)]
  rfl
theorem c1_shortestUneven {M : am_M} {Q : Option am_V → am_M → Prop} {a p l k : Int} {A : Sn} {P : Pg} (hA : isS M a A) (hP : isP M p P) (oA : okS A) (oP : okP k P) (hk : 2 ≤ k ∧ k ≤ 4) (kk : ∀ r M', SU (A, P, l, k) r → fB M M' → Q (some (vi r)) M') : am_CallN m1_shortestUneven [vr 69, vr a, vr p, vi l, vi k] KS M Q := by
  obtain ⟨ra, kA⟩ := hA.kd
  obtain ⟨rp, kP⟩ := hP.kd
  refine am_callN_of (by decide +kernel) rfl rfl (Nat.le_of_ble_eq_true rfl) ?_
  refine g1_shortestUneven_0 ?_
  refine cJ_fill kd70 (by omega) ?_
  refine g1_shortestUneven_8 ?_
  have hf0 : fB M (am_up (am_fl M 70 0 36 (fun _ => 0)) 69 5 0) := fun b j h1 h2 h3 h4 h5 h6 => by
    rw [am_upn (by omega), am_fl_out (by omega)]
  have hR0 : RB (am_up (am_fl M 70 0 36 (fun _ => 0)) 69 5 0) [] := by
    refine ⟨am_up_hit, fun j e he => by simp at he, fun st hs => ⟨?_, fun h => ?_⟩⟩
    · rw [am_upn (Or.inl (by omega)), am_fl_in hs]
      rfl
    · have h : (1 : Int) ≤ 0 := h
      omega
  refine c1_keep hR0 (by omega) (fun _ _ => by simp) (by simp) (fun M1 hR1 hf1 => ?_)
  rw [ky_nil] at hR1
  refine g1_shortestUneven_20 ?_
  have key : ∀ (d : Nat) (i : Nat) (M2 : am_M) (q : List Nd), i + d = 72 → RB M2 q → uok (A, P, l, k) q → prc (A, P, l, k) q i → (∀ e, q[i]? = some e → ∀ e' ∈ q, e'.2.2 ≤ e.2.2 + 1) → fB M M2 → am_AtN m1_shortestUneven 23 [some (vr 69), some (vr a), some (vr p), some (vi l), some (vi k), some (vi (i : Int)), none, none, none, none] [] KS M2 Q := by
    intro d
    induction d with
    | zero =>
      intro i M2 q hi hR hu hp hx hf
      have hl := hu.len
      refine g1_shortestUneven_23 (fun _ => ?_) (fun c => by exfalso; rw [hR.1] at c; omega)
      refine g1_shortestUneven_188 (kk _ M2 (SU_end hu ?_) hf)
      exact fun j e hj he => hp j e (by omega) he
    | succ d ih =>
      intro i M2 q hi hR hu hp hx hf
      have hl := hu.len
      by_cases hlt : i < q.length
      · obtain ⟨e, he⟩ : ∃ e, q[i]? = some e := ⟨_, List.getElem?_eq_getElem hlt⟩
        have h1 := hu.1 i e he
        have hm := hR.2.1 i e he
        have hrr := rch_rng (u := (A, P, l, k)) oA oP hk.2 _ _ _ h1.2.2
        have hwe := oP.2.2 (e.1 % 6) (by omega)
        refine g1_shortestUneven_23 (fun c => by exfalso; rw [hR.1] at c; omega) (fun _ => ?_)
        refine g1_shortestUneven_32 (fun c => by exfalso; omega) (fun _ => ?_)
        refine g1_shortestUneven_39 (by omega) (by omega) (by omega) (by omega) (by omega) (by omega) kP ?_
        rw [hm.1]
        refine q4_endOf (hP.of hf.tab) (by omega) ?_
        refine g1_shortestUneven_72 (by omega) (by omega) ?_
        rw [hm.2.1]
        refine c1_endsUneven (hA.of hf.tab) (by omega) (by rcases hwe with h | h; exact Or.inl h; exact Or.inr ⟨h.1, h.2.1⟩) (by omega) (fun b1 b2 b3 => ?_) (fun b => ?_)
        · refine g1_shortestUneven_83 (fun c => by exfalso; omega) (fun _ => ?_)
          refine g1_shortestUneven_86 (by omega) (by omega) ?_
          rw [hm.2.2]
          exact kk _ _ (SU_hit hu hp he ⟨b1, b2, b3⟩) hf
        · refine g1_shortestUneven_83 (fun _ => ?_) (fun c => by exfalso; omega)
          refine g1_shortestUneven_94 ?_
          refine am_forR (fun x ls M3 => ∃ q' : List Nd, ls = [some (vr 69), some (vr a), some (vr p), some (vi l), some (vi k), some (vi (i : Int)), some (vi (e.1 / 6)), some (vi (e.1 % 6)), some (vi x), none] ∧ RB M3 q' ∧ uok (A, P, l, k) q' ∧ q'[i]? = some e ∧ prc (A, P, l, k) q' i ∧ (∀ y : Int, 0 ≤ y ∧ y < x → cvd q' (unx (A, P, l, k) e.1 y) (e.2.1 + udl (A, P, l, k) e.1 y) (e.2.2 + 1)) ∧ (∀ e' ∈ q', e'.2.2 ≤ e.2.2 + 1) ∧ fB M M3) 0 k (by omega) ⟨q, rfl, hR, hu, he, hp, fun y hy => by exfalso; omega, hx e he, hf⟩ ?_ ?_
          · rintro ls M3 ⟨q', rfl, hR', hu', he', hp', hc', hx', hf'⟩
            refine g1_shortestUneven_97 (fun _ => ?_) (fun c => by exfalso; omega)
            refine g1_shortestUneven_182 (by omega) ?_
            refine ih (i + 1) M3 q' (by omega) hR' hu' ?_ ?_ hf'
            · intro j e2 hj hj2
              by_cases hji : j = i
              · subst hji
                rw [he'] at hj2
                obtain rfl := Option.some.inj hj2
                exact ⟨hc', b⟩
              · exact hp' j e2 (by omega) hj2
            · intro e2 he2 e3 he3
              have := hu'.2.1 i (i + 1) e e2 (by omega) he' he2
              have := hx' e3 he3
              omega
          · rintro x ls M3 hx0 hx1 ⟨q', rfl, hR', hu', he', hp', hc', hx', hf'⟩ ihx
            have hm' := hR'.2.1 i e he'
            have hlt' := (List.getElem?_eq_some_iff.mp he').1
            have hwx := oP.2.1 (e.1 % 6) x (by omega) (by omega)
            have ht := tmi_rng (P.2.1 (e.1 % 6) x) l
            have rA := oA (e.1 / 6) x (by omega) (by omega)
            have rP := oP.1 (e.1 % 6) x (by omega) (by omega)
            have hst := unx_rng (u := (A, P, l, k)) (x := x) oA oP hk.2 h1.1 ⟨hx0, hx1⟩
            have hky := ky_ok (e := (unx (A, P, l, k) e.1 x, e.2.1 + udl (A, P, l, k) e.1 x, e.2.2 + 1)) hu' hst ⟨by show (0 : Int) ≤ e.2.2 + 1; omega, by show e.2.2 + 1 ≤ (q'.length : Int); omega⟩ (by
              show rch (A, P, l, k) (e.2.2 + 1).toNat _ _
              rw [show (e.2.2 + 1).toNat = e.2.2.toNat + 1 by omega]
              exact ⟨e.1, e.2.1, x, h1.2.2, ⟨hx0, hx1⟩, rfl, rfl⟩) hx'
            obtain ⟨t, htt⟩ := ky_pre q' (unx (A, P, l, k) e.1 x, e.2.1 + udl (A, P, l, k) e.1 x, e.2.2 + 1)
            have tail : am_AtN m1_shortestUneven 135 [some (vr 69), some (vr a), some (vr p), some (vi l), some (vi k), some (vi (i : Int)), some (vi (e.1 / 6)), some (vi (e.1 % 6)), some (vi x), none] [vi (if x = l then 1 else 0), vi (e.2.1 + tmi (P.2.1 (e.1 % 6) x) l)] KS M3 Q := by
              have hb : (if x = l then (1 : Int) else 0) = 0 ∨ (if x = l then (1 : Int) else 0) = 1 := by split <;> omega
              refine g1_shortestUneven_135 ?_
              refine c8_oneIf hb ?_
              refine g1_shortestUneven_138 (by omega) kA ?_
              refine q6_nextOf (hA.of hf'.tab) (by omega) (by omega) ?_
              refine g1_shortestUneven_150 (by omega) kP ?_
              refine q4_nextOf (hP.of hf'.tab) (by omega) (by omega) ?_
              refine g1_shortestUneven_161 (by omega) (by omega) (by omega) (by omega) kd69 ?_
              rw [hm'.2.2, Int.add_sub_assoc]
              refine c1_keep (ov := e.2.1 + udl (A, P, l, k) e.1 x) (st := unx (A, P, l, k) e.1 x) (L := e.2.2 + 1) hR' hst (fun h2 h3 => ky_len hky.1 h2 h3) hu'.len (fun M4 hR4 hf4 => ?_)
              refine g1_shortestUneven_176 (by omega) ?_
              refine ihx _ M4 ⟨_, rfl, hR4, hky.1, ?_, ?_, ?_, hky.2.2, hf'.tr hf4⟩
              · rw [htt, List.getElem?_append_left hlt']
                exact he'
              · intro j e2 hj hj2
                rw [htt, List.getElem?_append_left (by omega)] at hj2
                have h9 := hp' j e2 hj hj2
                exact ⟨fun y hy => by rw [htt]; exact (h9.1 y hy).mono, h9.2⟩
              · intro y hy
                by_cases hyx : y = x
                · subst hyx
                  exact hky.2.1
                · rw [htt]
                  exact (hc' y (by omega)).mono
            refine g1_shortestUneven_97 (fun c => by exfalso; omega) (fun _ => ?_)
            refine g1_shortestUneven_104 (by omega) (by omega) kP ?_
            refine q4_wordOf (hP.of hf'.tab) (by omega) (by omega) ?_
            refine g1_shortestUneven_119 ?_
            refine c8_timesIn ⟨hwx.1, hwx.2.1⟩ ?_
            rw [hm'.2.1]
            refine g1_shortestUneven_123 (by omega) (fun c => ?_) (fun c => ?_)
            · rw [if_neg c] at tail
              exact g1_shortestUneven_134 tail
            · rw [if_pos c] at tail
              exact g1_shortestUneven_130 tail
      · refine g1_shortestUneven_23 (fun _ => ?_) (fun c => by exfalso; rw [hR.1] at c; omega)
        refine g1_shortestUneven_188 (kk _ M2 (SU_end hu ?_) hf)
        exact fun j e hj he => hp j e (by omega) he
  refine key 72 0 M1 _ (by omega) hR1 (uok0 _) (fun j e hj _ => by exfalso; omega) (fun e he e' he' => ?_) (hf0.tr hf1)
  have h1 : e = (0, 0, 0) := by
    simp at he
    exact he.symm
  have h2 : e' = (0, 0, 0) := by simpa using he'
  rw [h1, h2]
  show (0 : Int) ≤ 0 + 1
  omega
