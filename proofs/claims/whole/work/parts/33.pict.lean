/-! ===== claims: what is read off the walk ===== -/
def fb (b : Int → Int) : List (Int × Int) → Int
  | [] => -9
  | e :: l => if b e.1 = 1 then e.1 else fb b l
theorem fb_drop {b : Int → Int} {q : List (Int × Int)} {i : Nat} {e : Int × Int} (h : q[i]? = some e) : fb b (q.drop i) = if b e.1 = 1 then e.1 else fb b (q.drop (i + 1)) := by
  have hlt := (List.getElem?_eq_some_iff.mp h).1
  have he : q[i] = e := (List.getElem?_eq_some_iff.mp h).2
  rw [List.drop_eq_getElem_cons hlt, he]
  rfl
theorem fb_mem {b : Int → Int} : ∀ {q : List (Int × Int)}, fb b q = -9 ∨ ∃ e ∈ q, e.1 = fb b q
  | [] => Or.inl rfl
  | e :: l => by
    unfold fb
    split
    · exact Or.inr ⟨e, List.mem_cons_self, rfl⟩
    · rcases fb_mem (b := b) (q := l) with h | ⟨x, hx, h⟩
      · exact Or.inl h
      · exact Or.inr ⟨x, List.mem_cons_of_mem _ hx, h⟩
section CL
variable {M : am_M} {Q : Option am_V → am_M → Prop} {k : Int} {c : CD} {q : List (Int × Int)}
theorem c2_firstBad (hc : clm M k c) (hok : okC k c) (hR : RC M q) (hB : bok ((1296 : Nat) : Int) q) (kk : Q (some (vi (fb (bd c) q))) M) : am_CallN m2_firstBad [vr 66] KS M Q := by
  have hl := hB.bound
  refine am_callN_of (by decide +kernel) rfl rfl (Nat.le_of_ble_eq_true rfl) ?_
  refine g2_firstBad_0 ?_
  refine am_forI (fun i => [some (vr 66), some (vi i)]) (fun _ => M) (fun i => fb (bd c) q = fb (bd c) (q.drop i.toNat)) 0 q.length (by omega) rfl rfl rfl (fun hI => ?_) (fun i h0 h1 hI ih => ?_)
  · refine g2_firstBad_2 (fun _ => ?_) (fun c => by exfalso; rw [hR.1] at c; omega)
    refine g2_firstBad_43 ?_
    rw [Int.toNat_natCast, List.drop_length] at hI
    rw [hI] at kk
    exact kk
  · obtain ⟨e, he⟩ : ∃ e, q[i.toNat]? = some e := ⟨_, List.getElem?_eq_getElem (by omega)⟩
    have heb := hB.2.2.1 e (List.mem_of_getElem? he)
    have em : M 68 i = e.1 := by
      have := hR.2.1 i.toNat (by omega)
      rw [show ((i.toNat : Nat) : Int) = i by omega] at this
      rw [this]
      simp [List.getD, he]
    rw [fb_drop he] at hI
    refine g2_firstBad_2 (fun c => by exfalso; rw [hR.1] at c; omega) (fun _ => ?_)
    refine g2_firstBad_10 (fun c => by exfalso; omega) (fun _ => ?_)
    refine g2_firstBad_17 h0 (by omega) ?_
    rw [em]
    refine c2_isBad hc hok heb ?_
    rcases bd01 c e.1 with hb | hb
    · rw [hb]
      rw [if_neg (by omega)] at hI
      refine g2_firstBad_27 (fun _ => ?_) (fun c => by exfalso; omega)
      refine g2_firstBad_37 (by omega) ?_
      exact ih (by rw [show (i + 1).toNat = i.toNat + 1 by omega]; exact hI)
    · rw [hb]
      rw [if_pos hb] at hI
      refine g2_firstBad_27 (fun c => by exfalso; omega) (fun _ => ?_)
      refine g2_firstBad_30 h0 (by omega) ?_
      rw [em, ← hI]
      exact kk
theorem c2_wayTo {p : Int} (hR : RC M q) (hp : 0 ≤ p ∧ p < 1296) (kk : Q (some (vi (hw q p))) M) : am_CallN m2_wayTo [vr 66, vi p] KS M Q := by
  refine am_callN_of (by decide +kernel) rfl rfl (Nat.le_of_ble_eq_true rfl) ?_
  refine g2_wayTo_0 ?_
  refine c8_in hp ?_
  refine g2_wayTo_7 (fun c => by exfalso; omega) (fun _ => ?_)
  refine g2_wayTo_10 hp.1 hp.2 ?_
  rw [hR.2.2 p hp]
  exact g2_wayTo_21 kk
end CL
/-- how many steps back to the start; m steps back -/
def ln (q : List (Int × Int)) : Nat → Int → Nat
  | 0, _ => 0
  | n + 1, p => if hw q p < 0 then 0 else 1 + ln q n (hw q p / 4)
def pa (q : List (Int × Int)) : Nat → Int → Int
  | 0, p => p
  | n + 1, p => pa q n (hw q p / 4)
theorem pa_s {q : List (Int × Int)} : ∀ (n : Nat) (p : Int), pa q (n + 1) p = hw q (pa q n p) / 4
  | 0, _ => rfl
  | n + 1, p => pa_s n (hw q p / 4)
theorem hw_at {NS : Int} {q : List (Int × Int)} (h : bok NS q) {i : Nat} {e : Int × Int} (he : q[i]? = some e) : hw q e.1 = e.2 := by
  have key : ∀ (l : List (Int × Int)), (l.map Prod.fst).Nodup → ∀ (i : Nat), l[i]? = some e → hw l e.1 = e.2 := by
    intro l
    induction l with
    | nil => intro _ i hi; simp at hi
    | cons x l ih =>
      intro hd i hi
      rw [List.map_cons, List.nodup_cons] at hd
      match i, hi with
      | 0, hi =>
        have : x = e := by simpa using hi
        subst this
        unfold hw
        rw [if_pos rfl]
      | i + 1, hi =>
        have hi' : l[i]? = some e := by simpa using hi
        unfold hw
        rw [if_neg, ih hd.2 i hi']
        intro hx
        exact hd.1 (by rw [hx]; exact List.mem_map.mpr ⟨e, List.mem_of_getElem? hi', rfl⟩)
  exact key q h.2.1 i he
theorem par_ok {NS : Int} {q : List (Int × Int)} (h : bok NS q) {i : Nat} {e : Int × Int} (he : q[i]? = some e) (h0 : 0 ≤ e.2) : ∃ (j : Nat) (e' : Int × Int), j < i ∧ q[j]? = some e' ∧ e.2 / 4 = e'.1 := by
  by_cases hi : i = 0
  · subst hi
    have := h.2.2.2.1
    rw [this] at he
    cases he
    exact absurd h0 (by decide)
  · obtain ⟨j, e', a, b, _, d⟩ := h.2.2.2.2 i e he hi
    exact ⟨j, e', a, b, d⟩
theorem ln_pa {NS : Int} {q : List (Int × Int)} (h : bok NS q) : ∀ (i : Nat) (e : Int × Int), q[i]? = some e → ∀ n : Nat, i < n → ∀ m : Nat, m ≤ ln q n e.1 → ln q n e.1 ≤ i ∧ (∃ (j : Nat) (e' : Int × Int), q[j]? = some e' ∧ e'.1 = pa q m e.1) ∧ (m < ln q n e.1 → 0 ≤ hw q (pa q m e.1)) ∧ (m = ln q n e.1 → hw q (pa q m e.1) < 0) := by
  intro i
  induction i using Nat.strongRecOn with
  | _ i ih =>
    intro e he n hn m hm
    have hwe := hw_at h he
    match n, hn with
    | n + 1, hn =>
      by_cases hneg : hw q e.1 < 0
      · have hl0 : ln q (n + 1) e.1 = 0 := by
          unfold ln
          rw [if_pos hneg]
        rw [hl0] at hm ⊢
        have : m = 0 := by omega
        subst this
        exact ⟨by omega, ⟨i, e, he, rfl⟩, fun c => by omega, fun _ => hneg⟩
      · have hl1 : ln q (n + 1) e.1 = 1 + ln q n (hw q e.1 / 4) := by
          conv => lhs; unfold ln
          rw [if_neg hneg]
        obtain ⟨j, e', hj, he', hpar⟩ := par_ok h he (by omega)
        rw [hl1] at hm ⊢
        rw [hwe, hpar] at hm ⊢
        have h2 := ih j hj e' he' n (by omega)
        match m, hm with
        | 0, hm =>
          have h3 := h2 0 (by omega)
          exact ⟨by omega, ⟨i, e, he, rfl⟩, fun _ => by show 0 ≤ hw q e.1; omega, fun c => by omega⟩
        | m + 1, hm =>
          have h3 := h2 m (by omega)
          have ep : pa q (m + 1) e.1 = pa q m e'.1 := by
            show pa q m (hw q e.1 / 4) = _
            rw [hwe, hpar]
          rw [ep]
          exact ⟨by omega, h3.2.1, fun c => h3.2.2.1 (by omega), fun c => h3.2.2.2 (by omega)⟩
/-- the picture's length (i = -1), its letters -/
def pic (q : List (Int × Int)) (p i : Int) : Int := if i = -1 then ln q 1296 p else if 0 ≤ i ∧ i < ln q 1296 p then hw q (pa q (ln q 1296 p - 1 - i.toNat) p) % 4 else -9
section CL
variable {M : am_M} {Q : Option am_V → am_M → Prop} {k : Int} {c : CD} {q : List (Int × Int)}
theorem c2_wayLength {i : Nat} {e : Int × Int} (hR : RC M q) (hB : bok ((1296 : Nat) : Int) q) (he : q[i]? = some e) (kk : Q (some (vi (ln q 1296 e.1))) M) : am_CallN m2_wayLength [vr 66, vi e.1] KS M Q := by
  have hil := (List.getElem?_eq_some_iff.mp he).1
  have hl := hB.bound
  have hln := (ln_pa hB i e he 1296 (by omega) 0 (by omega)).1
  refine am_callN_of (by decide +kernel) rfl rfl (Nat.le_of_ble_eq_true rfl) ?_
  refine g2_wayLength_0 ?_
  refine am_for (fun m => [some (vr 66), some (vi e.1), some (vi (pa q m.toNat e.1)), some (vi m), none]) (fun _ => M) 0 (ln q 1296 e.1) (by omega) rfl rfl ?_ (fun m h0 h1 ih => ?_)
  · obtain ⟨_, ⟨j, e', hj, hp⟩, _, h4⟩ := ln_pa hB i e he 1296 (by omega) (ln q 1296 e.1) (by omega)
    have hb := hB.2.2.1 e' (List.mem_of_getElem? hj)
    rw [hp] at hb
    refine g2_wayLength_4 (fun c => by exfalso; omega) (fun _ => ?_)
    refine g2_wayLength_11 ?_
    rw [Int.toNat_natCast]
    refine c2_wayTo hR hb ?_
    refine g2_wayLength_16 (fun c => by exfalso; have := h4 rfl; omega) (fun _ => ?_)
    exact g2_wayLength_23 kk
  · obtain ⟨_, ⟨j, e', hj, hp⟩, h3, _⟩ := ln_pa hB i e he 1296 (by omega) m.toNat (by omega)
    have hb := hB.2.2.1 e' (List.mem_of_getElem? hj)
    rw [hp] at hb
    have h3 := h3 (by omega)
    refine g2_wayLength_4 (fun c => by exfalso; omega) (fun _ => ?_)
    refine g2_wayLength_11 ?_
    refine c2_wayTo hR hb ?_
    refine g2_wayLength_16 (fun _ => ?_) (fun c => by exfalso; omega)
    refine g2_wayLength_25 h3 (by omega) ?_
    rw [show (m + 1).toNat = m.toNat + 1 by omega, pa_s] at ih
    exact ih
theorem c2_pictureAt {i : Int} (hc : clm M k c) (hok : okC k c) (hR : RC M q) (hB : bok ((1296 : Nat) : Int) q) (hi : -1 ≤ i) (kk : Q (some (vi (if fb (bd c) q = -9 then -9 else pic q (fb (bd c) q) i))) M) : am_CallN m2_pictureAt [vr 66, vi i] KS M Q := by
  have hl := hB.bound
  refine am_callN_of (by decide +kernel) rfl rfl (Nat.le_of_ble_eq_true rfl) ?_
  refine g2_pictureAt_0 ?_
  refine c2_firstBad hc hok hR hB ?_
  by_cases h9 : fb (bd c) q = -9
  · rw [if_pos h9] at kk
    refine g2_pictureAt_4 (fun c => absurd h9 c) (fun _ => ?_)
    exact g2_pictureAt_11 kk
  · rw [if_neg h9] at kk
    refine g2_pictureAt_4 (fun _ => ?_) (fun c => absurd c h9)
    obtain ⟨e, hem, hee⟩ := (fb_mem (b := bd c) (q := q)).resolve_left h9
    obtain ⟨n, hn⟩ := List.getElem?_of_mem hem
    have hil := (List.getElem?_eq_some_iff.mp hn).1
    have hln := (ln_pa hB n e hn 1296 (by omega) 0 (by omega)).1
    rw [← hee] at kk ⊢
    refine g2_pictureAt_14 ?_
    refine c2_wayLength hR hB hn ?_
    unfold pic at kk
    by_cases h1 : i = -1
    · rw [if_pos h1] at kk
      refine g2_pictureAt_19 (fun c => absurd h1 c) (fun _ => ?_)
      exact g2_pictureAt_25 kk
    · rw [if_neg h1] at kk
      refine g2_pictureAt_19 (fun _ => ?_) (fun c => absurd c h1)
      refine g2_pictureAt_27 ?_
      by_cases h2 : 0 ≤ i ∧ i < ln q 1296 e.1
      · rw [if_pos h2] at kk
        refine c8_in h2 ?_
        refine g2_pictureAt_32 (fun _ => ?_) (fun c => by exfalso; omega)
        refine g2_pictureAt_38 (by omega) ?_
        refine am_for (fun m => [some (vr 66), some (vi i), some (vi e.1), some (vi (ln q 1296 e.1)), some (vi (pa q m.toNat e.1)), some (vi ((ln q 1296 e.1 : Int) - 1 - m))]) (fun _ => M) 0 ((ln q 1296 e.1 : Int) - 1 - i) (by omega) (by simp [pa]) rfl ?_ (fun m h0 h1 ih => ?_)
        · obtain ⟨_, ⟨j, e', hj, hp⟩, h3, _⟩ := ln_pa hB n e hn 1296 (by omega) (ln q 1296 e.1 - 1 - i.toNat) (by omega)
          have hb := hB.2.2.1 e' (List.mem_of_getElem? hj)
          rw [hp] at hb
          have h3 := h3 (by omega)
          refine g2_pictureAt_46 (fun _ => ?_) (fun c => by exfalso; omega)
          refine g2_pictureAt_68 ?_
          rw [show ((ln q 1296 e.1 : Int) - 1 - i).toNat = ln q 1296 e.1 - 1 - i.toNat by omega]
          refine c2_wayTo hR hb ?_
          exact g2_pictureAt_74 h3 kk
        · obtain ⟨_, ⟨j, e', hj, hp⟩, h3, _⟩ := ln_pa hB n e hn 1296 (by omega) m.toNat (by omega)
          have hb := hB.2.2.1 e' (List.mem_of_getElem? hj)
          rw [hp] at hb
          have h3 := h3 (by omega)
          refine g2_pictureAt_46 (fun c => by exfalso; omega) (fun _ => ?_)
          refine g2_pictureAt_52 ?_
          refine c2_wayTo hR hb ?_
          refine g2_pictureAt_58 h3 (by omega) ?_
          rw [show (m + 1).toNat = m.toNat + 1 by omega, pa_s] at ih
          rw [show (ln q 1296 e.1 : Int) - 1 - m + -1 = (ln q 1296 e.1 : Int) - 1 - (m + 1) by omega]
          exact ih
      · rw [if_neg h2] at kk
        refine c8_out h2 ?_
        refine g2_pictureAt_32 (fun c => by exfalso; omega) (fun _ => ?_)
        exact g2_pictureAt_35 kk
theorem c2_metPlaces (hR : RC M q) (kk : Q (some (vi q.length)) M) : am_CallN m2_metPlaces [vr 66] KS M Q := by
  refine am_callN_of (by decide +kernel) rfl rfl (Nat.le_of_ble_eq_true rfl) ?_
  refine g2_metPlaces_0 ?_
  rw [hR.1]
  exact kk
theorem c2_isMet {p : Int} (hR : RC M q) (hp : 0 ≤ p ∧ p < 1296) (kk : Q (some (vi (if hw q p = -2 then 0 else 1))) M) : am_CallN m2_isMet [vr 66, vi p] KS M Q := by
  refine am_callN_of (by decide +kernel) rfl rfl (Nat.le_of_ble_eq_true rfl) ?_
  refine g2_isMet_0 ?_
  refine c8_in hp ?_
  refine g2_isMet_7 (fun c => by exfalso; omega) (fun _ => ?_)
  refine g2_isMet_10 hp.1 hp.2 (fun c => ?_) (fun c => ?_)
  · rw [hR.2.2 p hp] at c
    rw [if_pos c] at kk
    refine g2_isMet_25 ?_
    exact g2_isMet_26 (by omega) kk
  · rw [hR.2.2 p hp] at c
    rw [if_neg c] at kk
    refine g2_isMet_21 ?_
    exact g2_isMet_26 (by omega) kk
end CL
/-- the place of those that f marks at which 'left' have gone by -/
def sn (f : Int → Int) : Nat → Int → Int → Int
  | 0, _, _ => -9
  | d + 1, a, left => if f a = -2 then sn f d (a + 1) left else if left = 0 then a else sn f d (a + 1) (left - 1)
section CL
variable {M : am_M} {Q : Option am_V → am_M → Prop} {k : Int} {c : CD} {q : List (Int × Int)}
theorem c2_metByNumber {i : Int} (hR : RC M q) (hB : bok ((1296 : Nat) : Int) q) (kk : Q (some (vi (if 0 ≤ i ∧ i < q.length then sn (hw q) 1296 0 i else -9))) M) : am_CallN m2_metByNumber [vr 66, vi i] KS M Q := by
  have hl := hB.bound
  refine am_callN_of (by decide +kernel) rfl rfl (Nat.le_of_ble_eq_true rfl) ?_
  refine g2_metByNumber_0 ?_
  by_cases h : 0 ≤ i ∧ i < q.length
  · rw [if_pos h] at kk
    refine c8_in (by rw [hR.1]; exact h) ?_
    refine g2_metByNumber_8 (fun _ => ?_) (fun c => by exfalso; omega)
    refine g2_metByNumber_14 ?_
    generalize hG : sn (hw q) 1296 0 i = R at kk
    have key : ∀ (d : Nat) (a left : Int), 0 ≤ a → a + d = 1296 → (0 ≤ left ∧ left ≤ 1296) → R = sn (hw q) d a left → am_AtN m2_metByNumber 18 [some (vr 66), some (vi i), some (vi left), some (vi a)] [] KS M Q := by
      intro d
      induction d with
      | zero =>
        intro a left h0 hd hle he
        refine g2_metByNumber_18 (fun _ => ?_) (fun c => by exfalso; omega)
        refine g2_metByNumber_54 ?_
        rw [he] at kk
        exact kk
      | succ d ih =>
        intro a left h0 hd hle he
        have ea : M 67 a = hw q a := hR.2.2 a (by omega)
        conv at he => rhs; unfold sn
        refine g2_metByNumber_18 (fun c => by exfalso; omega) (fun _ => ?_)
        refine g2_metByNumber_25 h0 (by omega) (fun c => ?_) (fun c => ?_)
        · rw [ea] at c
          rw [if_neg c] at he
          refine g2_metByNumber_39 (fun c2 => ?_) (fun c2 => ?_)
          · rw [if_neg c2] at he
            refine g2_metByNumber_45 (by omega) ?_
            refine g2_metByNumber_48 (by omega) ?_
            rw [show left + -1 = left - 1 by omega]
            exact ih (a + 1) (left - 1) (by omega) (by omega) (by omega) he
          · rw [if_pos c2] at he
            refine g2_metByNumber_43 ?_
            rw [he] at kk
            exact kk
        · rw [ea] at c
          rw [if_pos c] at he
          refine g2_metByNumber_36 ?_
          refine g2_metByNumber_48 (by omega) ?_
          exact ih (a + 1) left (by omega) (by omega) hle he
    exact key 1296 0 i (by omega) (by omega) (by omega) hG.symm
  · rw [if_neg h] at kk
    refine c8_out (by rw [hR.1]; exact h) ?_
    refine g2_metByNumber_8 (fun c => by exfalso; omega) (fun _ => ?_)
    exact g2_metByNumber_11 kk
/-- some letter leads out of the sheet; some place in it is bad -/
def lo_ (S : Int → Int) (k : Int) (c : CD) (p : Int) : Prop := ∃ x : Int, 0 ≤ x ∧ x < k ∧ S (af c p x) = 0
theorem c2_leadsOut {p : Int} (hc : clm M k c) (hok : okC k c) (hp : 0 ≤ p ∧ p < 1296) (k1 : lo_ (M 1) k c p → Q (some (vi 1)) M) (k0 : ¬ lo_ (M 1) k c p → Q (some (vi 0)) M) : am_CallN m2_leadsOut [vr 66, vi p, vr 1] KS M Q := by
  have hk := hok.1
  have ck := hc.2.2.2.2
  refine am_callN_of (by decide +kernel) rfl rfl (Nat.le_of_ble_eq_true rfl) ?_
  refine g2_leadsOut_0 ?_
  refine am_forI (fun x => [some (vr 66), some (vi p), some (vr 1), some (vi x), none]) (fun _ => M) (fun x => ∀ y : Int, 0 ≤ y → y < x → M 1 (af c p y) ≠ 0) 0 k (by omega) rfl rfl (fun y h0 h1 => by omega) (fun hI => ?_) (fun x h0 h1 hI ih => ?_)
  · refine g2_leadsOut_2 (fun _ => ?_) (fun c => by exfalso; omega)
    exact g2_leadsOut_43 (k0 (fun ⟨y, y0, y1, y2⟩ => hI y y0 y1 y2))
  · have ha := af_rng hok hp ⟨h0, h1⟩
    refine g2_leadsOut_2 (fun c => by exfalso; omega) (fun _ => ?_)
    refine g2_leadsOut_10 ?_
    refine c2_after hc hok hp ⟨h0, h1⟩ ?_
    refine g2_leadsOut_16 kd1 (by omega) ?_
    refine c8_in ha ?_
    refine g2_leadsOut_25 (fun c => by exfalso; omega) (fun _ => ?_)
    refine g2_leadsOut_28 kd1 ha.1 ha.2 (fun c => ?_) (fun c => ?_)
    · refine g2_leadsOut_37 (by omega) ?_
      refine ih (fun y y0 y1 => ?_)
      by_cases hy : y = x
      · rw [hy]
        exact c
      · exact hI y y0 (by omega)
    · exact g2_leadsOut_35 (k1 ⟨x, h0, h1, c⟩)
def ckr (S : Int → Int) (k : Int) (c : CD) (r : Int) : Prop := (S 0 = 0 ∧ r = 1) ∨ (S 0 ≠ 0 ∧ (∃ p : Int, (0 ≤ p ∧ p < 1296) ∧ S p = 1 ∧ lo_ S k c p) ∧ r = 2) ∨ (S 0 ≠ 0 ∧ (∀ p : Int, (0 ≤ p ∧ p < 1296) → S p = 1 → ¬ lo_ S k c p) ∧ (∃ p : Int, (0 ≤ p ∧ p < 1296) ∧ S p = 1 ∧ bd c p = 1) ∧ r = 3) ∨ (S 0 ≠ 0 ∧ (∀ p : Int, (0 ≤ p ∧ p < 1296) → S p = 1 → ¬ lo_ S k c p) ∧ (∀ p : Int, (0 ≤ p ∧ p < 1296) → S p = 1 → bd c p ≠ 1) ∧ r = 0)
theorem ckr_one {S : Int → Int} {k : Int} {c : CD} {r r' : Int} (h : ckr S k c r) (h' : ckr S k c r') : r = r' := by
  rcases h with ⟨a, rfl⟩ | ⟨a, ⟨p, p1, p2, p3⟩, rfl⟩ | ⟨a, b, ⟨p, p1, p2, p3⟩, rfl⟩ | ⟨a, b, d, rfl⟩ <;> rcases h' with ⟨a', rfl⟩ | ⟨a', ⟨p', p1', p2', p3'⟩, rfl⟩ | ⟨a', b', ⟨p', p1', p2', p3'⟩, rfl⟩ | ⟨a', b', d', rfl⟩ <;> first | rfl | (exact absurd a a') | (exact absurd a' a) | (exact absurd p3 (b' p p1 p2)) | (exact absurd p3' (b p' p1' p2')) | (exact absurd p3 (d' p p1 p2)) | (exact absurd p3' (d p' p1' p2'))
theorem c2_firstFault (hc : clm M k c) (hok : okC k c) (kk : ∀ r, ckr (M 1) k c r → Q (some (vi r)) M) : am_CallN m2_firstFault [vr 66, vr 1] KS M Q := by
  refine am_callN_of (by decide +kernel) rfl rfl (Nat.le_of_ble_eq_true rfl) ?_
  refine g2_firstFault_0 (fun c => by exfalso; omega) (fun _ => ?_)
  refine g2_firstFault_4 kd1 (by omega) (fun c => by exfalso; omega) (fun _ => ?_)
  refine g2_firstFault_12 kd1 (by omega) (fun c0 => ?_) (fun c0 => ?_)
  · refine g2_firstFault_20 ?_
    refine am_forI (fun p => [some (vr 66), some (vr 1), some (vi p)]) (fun _ => M) (fun i => ∀ p : Int, (0 ≤ p ∧ p < i) → M 1 p = 1 → ¬ lo_ (M 1) k c p) 0 1296 (by omega) rfl rfl (fun p hp => by omega) (fun hI => ?_) (fun i h0 h1 hI ih => ?_)
    · refine g2_firstFault_22 (fun _ => ?_) (fun c => by exfalso; omega)
      refine g2_firstFault_53 ?_
      refine am_forI (fun p => [some (vr 66), some (vr 1), some (vi p)]) (fun _ => M) (fun i => ∀ p : Int, (0 ≤ p ∧ p < i) → M 1 p = 1 → bd c p ≠ 1) 0 1296 (by omega) rfl rfl (fun p hp => by omega) (fun hJ => ?_) (fun i h0 h1 hJ ih => ?_)
      · refine g2_firstFault_55 (fun _ => ?_) (fun c => by exfalso; omega)
        exact g2_firstFault_85 (kk 0 (Or.inr (Or.inr (Or.inr ⟨c0, hI, hJ, rfl⟩))))
      · refine g2_firstFault_55 (fun c => by exfalso; omega) (fun _ => ?_)
        refine g2_firstFault_62 kd1 h0 (by omega) (fun c1 => ?_) (fun c1 => ?_)
        · refine g2_firstFault_79 (by omega) ?_
          refine ih (fun p hp hs => ?_)
          by_cases hpi : p = i
          · rw [hpi] at hs
            exact absurd hs c1
          · exact hJ p (by omega) hs
        · refine g2_firstFault_69 ?_
          refine c2_isBad hc hok ⟨h0, h1⟩ ?_
          rcases bd01 c i with hb | hb
          · rw [hb]
            refine g2_firstFault_74 (fun _ => ?_) (fun c => by exfalso; omega)
            refine g2_firstFault_79 (by omega) ?_
            refine ih (fun p hp hs => ?_)
            by_cases hpi : p = i
            · rw [hpi, hb]
              omega
            · exact hJ p (by omega) hs
          · rw [hb]
            refine g2_firstFault_74 (fun c => by exfalso; omega) (fun _ => ?_)
            exact g2_firstFault_77 (kk 3 (Or.inr (Or.inr (Or.inl ⟨c0, hI, ⟨i, ⟨h0, h1⟩, c1, hb⟩, rfl⟩))))
    · refine g2_firstFault_22 (fun c => by exfalso; omega) (fun _ => ?_)
      refine g2_firstFault_29 kd1 h0 (by omega) (fun c1 => ?_) (fun c1 => ?_)
      · refine g2_firstFault_47 (by omega) ?_
        refine ih (fun p hp hs => ?_)
        by_cases hpi : p = i
        · rw [hpi] at hs
          exact absurd hs c1
        · exact hI p (by omega) hs
      · refine g2_firstFault_36 ?_
        refine c2_leadsOut hc hok ⟨h0, h1⟩ (fun hl => ?_) (fun hl => ?_)
        · refine g2_firstFault_42 (fun c => by exfalso; omega) (fun _ => ?_)
          exact g2_firstFault_45 (kk 2 (Or.inr (Or.inl ⟨c0, ⟨i, ⟨h0, h1⟩, c1, hl⟩, rfl⟩)))
        · refine g2_firstFault_42 (fun _ => ?_) (fun c => by exfalso; omega)
          refine g2_firstFault_47 (by omega) ?_
          refine ih (fun p hp hs => ?_)
          by_cases hpi : p = i
          · rw [hpi]
            exact hl
          · exact hI p (by omega) hs
  · exact g2_firstFault_18 (kk 1 (Or.inl ⟨c0, rfl⟩))
end CL
