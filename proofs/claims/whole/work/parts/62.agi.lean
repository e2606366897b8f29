/-! ===== programs that agree: what holds along the walk ===== -/
abbrev Ld : Type := Int → List Int × List Int
def AIn (g : Gd) (q : List (Int × Int)) (L : Ld) : Prop := ∀ st : Int, hw q st ≠ -2 → ∃ (n : Nat) (a b : List Int), (n : Int) ≤ ix q st ∧ rg g n st a b ∧ (us g st → lk_ a b ∧ ct a b = L st)
/-- both sides behind a letter -/
def sA (g : Gd) (L : Ld) (e x : Int) : List Int := (L e).1 ++ wl (ga g e x)
def sB (g : Gd) (L : Ld) (e x : Int) : List Int := (L e).2 ++ wl (gb g e x)
def APr (g : Gd) (q : List (Int × Int)) (L : Ld) (e y : Int) : Prop := ∀ x : Int, 0 ≤ x ∧ x < y → hw q (gx g e x) ≠ -2 ∧ (us g (gx g e x) → lk_ (sA g L e x) (sB g L e x) ∧ L (gx g e x) = ct (sA g L e x) (sB g L e x))
def AEn (g : Gd) (L : Ld) (e : Int) : Prop := bw g e → (L e).1 ++ wl (ea g e) = (L e).2 ++ wl (eb g e)
def AI (g : Gd) (q : List (Int × Int)) (i : Nat) (L : Ld) : Prop := AIn g q L ∧ ∀ (j : Nat) (e : Int × Int), j < i → q[j]? = some e → APr g q L e.1 g.2.2.2 ∧ AEn g L e.1
theorem ct_ext {a b u v w z : List Int} (hl : lk_ a b) (hc : ct a b = (u, v)) : (lk_ (a ++ w) (b ++ z) ↔ lk_ (u ++ w) (v ++ z)) ∧ ct (a ++ w) (b ++ z) = ct (u ++ w) (v ++ z) := by
  obtain ⟨c, h4, h5⟩ := ct_split hl
  rw [hc] at h4 h5
  rw [h4, h5]
  rw [List.append_assoc, List.append_assoc]
  exact ⟨lk_app, ct_app _ _ _⟩
theorem hw_bs {sc : Int → Int → Int} {q : List (Int × Int)} {pl x st : Int} (hq : hok q) (h : hw (bs sc q pl x) st ≠ -2) : hw q st ≠ -2 ∨ (hw q st = -2 ∧ st = sc pl x ∧ hw q (sc pl x) = -2) := by
  by_cases h1 : hw q st = -2
  · right
    unfold bs at h
    by_cases h2 : hw q (sc pl x) = -2
    · rw [if_pos h2, hw_app hq, if_pos h1] at h
      by_cases h3 : sc pl x = st
      · exact ⟨h1, h3.symm, h2⟩
      · rw [if_neg h3] at h
        exact absurd rfl h
    · rw [if_neg h2] at h
      exact absurd h1 h
  · exact Or.inl h1
theorem hw_of_get {q : List (Int × Int)} (hq : hok q) {j : Nat} {e : Int × Int} (he : q[j]? = some e) : hw q e.1 ≠ -2 := by
  intro h
  exact (hw_none hq).mp h e (List.mem_of_getElem? he) rfl
theorem AI_step {g : Gd} {q : List (Int × Int)} {i : Nat} {L L' : Ld} {e : Int × Int} {x : Int} (hq : hok q) (h : AI g q i L) (hil : i < q.length) (he : q[i]? = some e) (he0 : 0 ≤ e.1) (hx : 0 ≤ x ∧ x < g.2.2.2) (hp : APr g q L e.1 x)
    (h1 : us g (gx g e.1 x) → lk_ (sA g L e.1 x) (sB g L e.1 x) ∧ L' (gx g e.1 x) = ct (sA g L e.1 x) (sB g L e.1 x)) (h2 : ∀ st : Int, st ≠ gx g e.1 x → L' st = L st) (h3 : hw q (gx g e.1 x) ≠ -2 → L' (gx g e.1 x) = L (gx g e.1 x)) :
    AI g (bs (gx g) q e.1 x) i L' ∧ APr g (bs (gx g) q e.1 x) L' e.1 (x + 1) ∧ L' e.1 = L e.1 := by
  have hL : ∀ st : Int, hw q st ≠ -2 → L' st = L st := by
    intro st hs
    by_cases e1 : st = gx g e.1 x
    · rw [e1] at hs ⊢
      exact h3 hs
    · exact h2 st e1
  have hee := hw_of_get hq he
  obtain ⟨t, ht⟩ := bs_pre (gx g) q e.1 x
  have hpre : ∀ y : Int, 0 ≤ y ∧ y < x → hw q (gx g e.1 y) ≠ -2 := fun y hy => (hp y hy).1
  have hrow : ∀ (c y : Int), hw q c ≠ -2 → hw q (gx g c y) ≠ -2 → (us g (gx g c y) → lk_ (sA g L c y) (sB g L c y) ∧ L (gx g c y) = ct (sA g L c y) (sB g L c y)) → hw (bs (gx g) q e.1 x) (gx g c y) ≠ -2 ∧ (us g (gx g c y) → lk_ (sA g L' c y) (sB g L' c y) ∧ L' (gx g c y) = ct (sA g L' c y) (sB g L' c y)) := by
    intro c y hc hy hh
    refine ⟨?_, fun hu => ?_⟩
    · rw [ht, hw_pre hy]
      exact hy
    · unfold sA sB
      rw [hL c hc, hL _ hy]
      exact hh hu
  refine ⟨⟨fun st hs => ?_, fun j e' hj hj2 => ?_⟩, fun y hy => ?_, hL _ hee⟩
  · rcases hw_bs hq hs with hs2 | ⟨hs2, rfl, hn⟩
    · obtain ⟨n, a, b, hn, hr, hu⟩ := h.1 st hs2
      refine ⟨n, a, b, ?_, hr, fun hu2 => ?_⟩
      · rw [ht, ix_pre hs2]
        exact hn
      · rw [hL st hs2]
        exact hu hu2
    · obtain ⟨n, a, b, hnn, hr, hu⟩ := h.1 e.1 hee
      have hl := ix_lt hee
      refine ⟨n + 1, _, _, ?_, ⟨e.1, a, b, x, hr, hx, rfl, rfl, rfl⟩, fun hu2 => ?_⟩
      · rw [bs_ix hq, ix_none hq hn]
        omega
      · obtain ⟨h4, h5⟩ := hu (us_back hx hu2)
        have h6 := ct_ext (w := wl (ga g e.1 x)) (z := wl (gb g e.1 x)) (u := (L e.1).1) (v := (L e.1).2) h4 h5
        obtain ⟨h7, h8⟩ := h1 hu2
        rw [h8]
        exact ⟨h6.1.mpr h7, h6.2⟩
  · have hj3 : q[j]? = some e' := by
      rw [ht, List.getElem?_append_left (by omega)] at hj2
      exact hj2
    have hc := hw_of_get hq hj3
    obtain ⟨h4, h5⟩ := h.2 j e' hj hj3
    refine ⟨fun y hy => hrow e'.1 y hc (h4 y hy).1 (h4 y hy).2, fun hb => ?_⟩
    rw [hL _ hc]
    exact h5 hb
  · by_cases hyx : y = x
    · subst hyx
      refine ⟨bs_in hq he0 hy.1, fun hu => ?_⟩
      unfold sA sB
      rw [hL _ hee]
      exact h1 hu
    · exact hrow e.1 y hee (hpre y (by omega)) (hp y (by omega)).2
theorem AI_next {g : Gd} {q : List (Int × Int)} {i : Nat} {L : Ld} {e : Int × Int} (h : AI g q i L) (he : q[i]? = some e) (hp : APr g q L e.1 g.2.2.2) (hn : AEn g L e.1) : AI g q (i + 1) L := by
  refine ⟨h.1, fun j e' hj hj2 => ?_⟩
  by_cases hji : j = i
  · subst hji
    rw [he] at hj2
    obtain rfl := Option.some.inj hj2
    exact ⟨hp, hn⟩
  · exact h.2 j e' (by omega) hj2
theorem AI_start (g : Gd) (L : Ld) (h0 : L 0 = ([], [])) : AI g [(0, -1)] 0 L := by
  refine ⟨fun st hs => ?_, fun j e hj => by omega⟩
  have : st = 0 := by
    by_cases h : (0 : Int) = st
    · exact h.symm
    · exfalso
      apply hs
      show (if (0 : Int) = st then (-1 : Int) else -2) = -2
      rw [if_neg h]
  subst this
  refine ⟨0, [], [], ?_, ⟨rfl, rfl, rfl⟩, fun _ => ⟨fun i h1 => by simp at h1, by rw [h0]; rfl⟩⟩
  show ((0 : Nat) : Int) ≤ if (0 : Int) = 0 then 0 else 1
  rw [if_pos rfl]
  omega
theorem AI_true {g : Gd} {q : List (Int × Int)} {L : Ld} (hq : hok q) (h0 : q[0]? = some (0, -1)) (h : AI g q q.length L) (hs : ∀ e ∈ q, ¬ sa g e.1) : AG g := by
  have hget : ∀ st : Int, hw q st ≠ -2 → ∃ (j : Nat) (e : Int × Int), j < q.length ∧ q[j]? = some e ∧ e.1 = st := by
    intro st hst
    have := hw_mem hst
    obtain ⟨j, hj⟩ := List.mem_iff_getElem?.mp this
    exact ⟨j, _, (List.getElem?_eq_some_iff.mp hj).1, hj, rfl⟩
  have key : ∀ (n : Nat) (st : Int) (a b : List Int), rg g n st a b → hw q st ≠ -2 ∧ (us g st → lk_ a b ∧ ct a b = L st) := by
    intro n
    induction n with
    | zero =>
      intro st a b hr
      obtain ⟨rfl, rfl, rfl⟩ := hr
      have h1 := hw_of_get hq h0
      have h1 : hw q 0 ≠ -2 := h1
      refine ⟨h1, fun hu => ?_⟩
      obtain ⟨n, a, b, hn, hr, hu2⟩ := h.1 0 h1
      have : ix q 0 = 0 := by
        cases q with
        | nil => simp at h0
        | cons d l =>
          simp at h0
          rw [h0]
          show (if (0 : Int) = 0 then (0 : Int) else ix l 0 + 1) = 0
          rw [if_pos rfl]
      have hn0 : n = 0 := by omega
      subst hn0
      obtain ⟨-, rfl, rfl⟩ := hr
      exact hu2 hu
    | succ n ih =>
      intro st a b hr
      obtain ⟨st', a', b', x, hr, hx, rfl, rfl, rfl⟩ := hr
      obtain ⟨h1, h2⟩ := ih st' a' b' hr
      obtain ⟨j, e, hj, hje, rfl⟩ := hget st' h1
      obtain ⟨h3, h4⟩ := (h.2 j e hj hje).1 x hx
      refine ⟨h3, fun hu => ?_⟩
      obtain ⟨h5, h6⟩ := h4 hu
      obtain ⟨h7, h8⟩ := h2 (us_back hx hu)
      have h9 := ct_ext (w := wl (ga g e.1 x)) (z := wl (gb g e.1 x)) (u := (L e.1).1) (v := (L e.1).2) h7 h8
      rw [h6]
      exact ⟨h9.1.mpr h5, h9.2⟩
  intro n st a b hr
  obtain ⟨h1, h2⟩ := key n st a b hr
  obtain ⟨j, e, hj, hje, rfl⟩ := hget st h1
  refine ⟨hs e (List.mem_of_getElem? hje), fun hb => ?_⟩
  obtain ⟨h3, h4⟩ := h2 (us_bw hb)
  have h5 := (h.2 j e hj hje).2 hb
  obtain ⟨c, h6, h7⟩ := ct_split h3
  rw [h4] at h6 h7
  rw [h6, h7, List.append_assoc, List.append_assoc, h5]
theorem AI_f1 {g : Gd} {q : List (Int × Int)} {L : Ld} {st : Int} (h : AIn g q L) (hs : hw q st ≠ -2) (hb : sa g st) : ¬ AG g := by
  intro hA
  obtain ⟨n, a, b, -, hr, -⟩ := h st hs
  exact (hA n st a b hr).1 hb
theorem AI_f2 {g : Gd} {q : List (Int × Int)} {L : Ld} {st : Int} (h : AIn g q L) (hs : hw q st ≠ -2) (hb : ¬ AEn g L st) : ¬ AG g := by
  intro hA
  apply hb
  intro hw
  obtain ⟨n, a, b, -, hr, hu⟩ := h st hs
  have := AG_end hA hw hr
  rw [(hu (us_bw hw)).2] at this
  exact this
theorem AI_f3 {g : Gd} {q : List (Int × Int)} {L : Ld} {st x : Int} (h : AIn g q L) (hs : hw q st ≠ -2) (hx : 0 ≤ x ∧ x < g.2.2.2) (hu : us g (gx g st x)) (hb : ¬ lk_ (sA g L st x) (sB g L st x)) : ¬ AG g := by
  intro hA
  apply hb
  obtain ⟨n, a, b, -, hr, hu2⟩ := h st hs
  obtain ⟨h4, h5⟩ := hu2 (us_back hx hu)
  have := AG_lk hA hu (n := n + 1) ⟨st, a, b, x, hr, hx, rfl, rfl, rfl⟩
  exact (ct_ext (w := wl (ga g st x)) (z := wl (gb g st x)) (u := (L st).1) (v := (L st).2) h4 h5).1.mp this
theorem AI_f4 {g : Gd} {q : List (Int × Int)} {L : Ld} {st x : Int} (h : AIn g q L) (hs : hw q st ≠ -2) (hx : 0 ≤ x ∧ x < g.2.2.2) (hu : us g (gx g st x)) (hto : hw q (gx g st x) ≠ -2) (hb : L (gx g st x) ≠ ct (sA g L st x) (sB g L st x)) : ¬ AG g := by
  intro hA
  apply hb
  obtain ⟨n, a, b, -, hr, hu2⟩ := h st hs
  obtain ⟨h4, h5⟩ := hu2 (us_back hx hu)
  obtain ⟨n', a', b', -, hr', hu3⟩ := h _ hto
  have := AG_ct hA hu hr' (n' := n + 1) ⟨st, a, b, x, hr, hx, rfl, rfl, rfl⟩
  rw [(hu3 hu).2, (ct_ext (w := wl (ga g st x)) (z := wl (gb g st x)) (u := (L st).1) (v := (L st).2) h4 h5).2] at this
  exact this
theorem AI_f5 {g : Gd} {q : List (Int × Int)} {L : Ld} {st x : Int} (hg : okG g) (h : AIn g q L) (hs : hw q st ≠ -2) (hx : 0 ≤ x ∧ x < g.2.2.2) (hu : us g (gx g st x)) (hb : (sB g L st x).length + 72 < (sA g L st x).length ∨ (sA g L st x).length + 72 < (sB g L st x).length) : ¬ AG g := by
  intro hA
  obtain ⟨n, a, b, -, hr, hu2⟩ := h st hs
  obtain ⟨h4, h5⟩ := hu2 (us_back hx hu)
  have h6 := AG_72 hg hA hu (n := n + 1) ⟨st, a, b, x, hr, hx, rfl, rfl, rfl⟩
  obtain ⟨c, h7, h8⟩ := ct_split h4
  rw [h5] at h7 h8
  have e1 : a.length = c.length + (L st).1.length := by rw [← List.length_append, ← h7]
  have e2 : b.length = c.length + (L st).2.length := by rw [← List.length_append, ← h8]
  unfold sA sB at hb
  rw [List.length_append, List.length_append] at hb h6
  omega
theorem AI_len {g : Gd} {q : List (Int × Int)} {L : Ld} {st : Int} (hg : okG g) (h : AIn g q L) (hq : q.length ≤ 216) (hs : hw q st ≠ -2) (hu : us g st) : (L st).1.length ≤ 430 ∧ (L st).2.length ≤ 430 ∧ ((L st).1 = [] ∨ (L st).2 = []) := by
  obtain ⟨n, a, b, hn, hr, hu2⟩ := h st hs
  have h1 := ix_lt hs
  have h2 := rg_rng hg n st a b hr
  have h3 := ct_one a b
  have h4 := (hu2 hu).2
  rw [h4] at h3
  have h5 : (L st).1.length = a.length - b.length := by rw [← h4]; exact List.length_drop
  have h6 : (L st).2.length = b.length - a.length := by rw [← h4]; exact List.length_drop
  exact ⟨by omega, by omega, h3⟩
theorem ct_let {a b : List Int} {P : Int → Prop} (ha : ∀ x ∈ a, P x) (hb : ∀ x ∈ b, P x) : (∀ x ∈ (ct a b).1, P x) ∧ ∀ x ∈ (ct a b).2, P x := ⟨fun x hx => ha x (List.mem_of_mem_drop hx), fun x hx => hb x (List.mem_of_mem_drop hx)⟩
theorem wv_let {k w : Int} (h : w = -1 ∨ wv k w) : ∀ x ∈ wl w, 0 ≤ x ∧ x < k := by
  rcases h with h | h
  · intro x hx
    unfold wl at hx
    rw [if_pos (by omega)] at hx
    cases hx
  · exact h.2.2
theorem rg_let {g : Gd} (hg : okG g) : ∀ (n : Nat) (st : Int) (a b : List Int), rg g n st a b → (∀ x ∈ a, 0 ≤ x ∧ x < g.2.2.2) ∧ ∀ x ∈ b, 0 ≤ x ∧ x < g.2.2.2
  | 0, st, a, b, h => by
    obtain ⟨-, rfl, rfl⟩ := h
    exact ⟨fun x hx => (by cases hx), fun x hx => (by cases hx)⟩
  | n + 1, st, a, b, h => by
    obtain ⟨st', a', b', x, h, hx, rfl, rfl, rfl⟩ := h
    have hs := (rg_rng hg n st' a' b' h).1
    obtain ⟨h1, h2⟩ := rg_let hg n st' a' b' h
    refine ⟨fun y hy => ?_, fun y hy => ?_⟩
    · rcases List.mem_append.mp hy with h3 | h3
      · exact h1 y h3
      · exact (hg.2.2.1.2.1 (st' / 6 % 6) x (by omega) hx).2.2 y h3
    · rcases List.mem_append.mp hy with h3 | h3
      · exact h2 y h3
      · exact (hg.2.2.2.2.1 (st' % 6) x (by omega) hx).2.2 y h3
theorem AI_let {g : Gd} {q : List (Int × Int)} {L : Ld} {st : Int} (hg : okG g) (h : AIn g q L) (hs : hw q st ≠ -2) (hu : us g st) : (∀ x ∈ (L st).1, 0 ≤ x ∧ x < g.2.2.2) ∧ ∀ x ∈ (L st).2, 0 ≤ x ∧ x < g.2.2.2 := by
  obtain ⟨n, a, b, -, hr, hu2⟩ := h st hs
  obtain ⟨h1, h2⟩ := rg_let hg n st a b hr
  rw [← (hu2 hu).2]
  exact ct_let h1 h2
theorem bf_closed {sc : Int → Int → Int} {k : Nat} (hk : k ≤ 4) {NS : Int} (hB : ∀ i, bok NS (bf sc k i)) : ∀ (i j : Nat) (e : Int × Int), j < i → (bf sc k i)[j]? = some e → ∀ x : Int, 0 ≤ x → x < k → hw (bf sc k i) (sc e.1 x) ≠ -2
  | 0, j, e, hj, _ => by omega
  | i + 1, j, e, hj, he => by
    intro x h0 h1
    by_cases hji : j < i
    · obtain ⟨t, ht⟩ := bf_pre sc k i
      by_cases hl : j < (bf sc k i).length
      · rw [ht, List.getElem?_append_left hl] at he
        have := bf_closed hk hB i j e hji he x h0 h1
        rw [ht, hw_pre this]
        exact this
      · exfalso
        have h2 : (bf sc k i)[i]? = none := List.getElem?_eq_none (by omega)
        have h3 : bf sc k (i + 1) = bf sc k i := by
          conv => lhs; unfold bf
          rw [h2]
        rw [h3, List.getElem?_eq_none (by omega)] at he
        cases he
    · have hji : j = i := by omega
      subst hji
      cases he2 : (bf sc k j)[j]? with
      | none =>
        exfalso
        have h3 : bf sc k (j + 1) = bf sc k j := by
          conv => lhs; unfold bf
          rw [he2]
        rw [h3, he2] at he
        cases he
      | some e2 =>
        have hl := (List.getElem?_eq_some_iff.mp he2).1
        obtain ⟨t, ht⟩ := bf_pre sc k j
        have he3 := he
        rw [ht, List.getElem?_append_left hl, he2] at he3
        obtain rfl := Option.some.inj he3
        have heb := (hB j).2.2.1 e2 (List.mem_of_getElem? he2)
        rw [bf_s he2]
        obtain ⟨t2, ht2⟩ := br_pren sc (bf sc k j) e2.1 (x.toNat + 1) (k - (x.toNat + 1))
        rw [show x.toNat + 1 + (k - (x.toNat + 1)) = k by omega] at ht2
        have hin : hw (br sc (bf sc k j) e2.1 (x.toNat + 1)) (sc e2.1 x) ≠ -2 := by
          have hok1 : hok (br sc (bf sc k j) e2.1 x.toNat) := by
            have : ∀ n : Nat, hok (br sc (bf sc k j) e2.1 n) := by
              intro n
              induction n with
              | zero => exact (hB j).1
              | succ n ih =>
                show hok (bs sc (br sc (bf sc k j) e2.1 n) e2.1 n)
                unfold bs
                split
                · intro d hd
                  rcases List.mem_append.mp hd with h5 | h5
                  · exact ih d h5
                  · rw [List.mem_singleton.mp h5]
                    show -1 ≤ e2.1 * 4 + (n : Int)
                    omega
                · exact ih
            exact this _
          have : br sc (bf sc k j) e2.1 (x.toNat + 1) = bs sc (br sc (bf sc k j) e2.1 x.toNat) e2.1 x := by
            rw [br, show ((x.toNat : Nat) : Int) = x by omega]
          rw [this]
          exact bs_in hok1 heb.1 h0
        rw [ht2, hw_pre hin]
        exact hin
