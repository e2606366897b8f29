/-! ===== letters that stay: as mathematics ===== -/
def tmi (w l : Int) : Int := if w < 1 then 0 else if w < 5 then (if w - 1 = l then 1 else 0) else (if (w - 5) / 4 = l then 1 else 0) + (if (w - 5) % 4 = l then 1 else 0)
theorem tmi_rng (w l : Int) : 0 ≤ tmi w l ∧ tmi w l ≤ 2 := by
  unfold tmi
  (repeat' split) <;> omega
/-- a sentence, a program, a letter, how many letters -/
abbrev Ud : Type := Sn × Pg × Int × Int
def unx (u : Ud) (st x : Int) : Int := u.1.1 (st / 6) x * 6 + u.2.1.1 (st % 6) x
def udl (u : Ud) (st x : Int) : Int := tmi (u.2.1.2.1 (st % 6) x) u.2.2.1 - (if x = u.2.2.1 then 1 else 0)
def ub (u : Ud) (st ov : Int) : Prop := u.1.2 (st / 6) = 1 ∧ u.2.1.2.2 (st % 6) ≠ -1 ∧ ov + tmi (u.2.1.2.2 (st % 6)) u.2.2.1 ≠ 0
def pth (u : Ud) : Nat → Int → Int → Prop
  | 0, st, ov => ub u st ov
  | d + 1, st, ov => ∃ x : Int, (0 ≤ x ∧ x < u.2.2.2) ∧ pth u d (unx u st x) (ov + udl u st x)
def rch (u : Ud) : Nat → Int → Int → Prop
  | 0, st, ov => st = 0 ∧ ov = 0
  | n + 1, st, ov => ∃ st' ov' x : Int, rch u n st' ov' ∧ (0 ≤ x ∧ x < u.2.2.2) ∧ st = unx u st' x ∧ ov = ov' + udl u st' x
theorem udl_rng (u : Ud) (st x : Int) : -1 ≤ udl u st x ∧ udl u st x ≤ 2 := by
  have := tmi_rng (u.2.1.2.1 (st % 6) x) u.2.2.1
  unfold udl
  split <;> omega
theorem pth_two {u : Ud} : ∀ (d : Nat) (st ov o1 o2 : Int), o1 ≠ o2 → pth u d st ov → pth u d st o1 ∨ pth u d st o2
  | 0, st, ov, o1, o2, hn, h => by
    obtain ⟨h1, h2, -⟩ := h
    by_cases e : o1 + tmi (u.2.1.2.2 (st % 6)) u.2.2.1 = 0
    · exact Or.inr ⟨h1, h2, by omega⟩
    · exact Or.inl ⟨h1, h2, e⟩
  | d + 1, st, ov, o1, o2, hn, h => by
    obtain ⟨x, hx, h⟩ := h
    rcases pth_two d _ _ (o1 + udl u st x) (o2 + udl u st x) (by omega) h with h | h
    · exact Or.inl ⟨x, hx, h⟩
    · exact Or.inr ⟨x, hx, h⟩
theorem rch_pth {u : Ud} : ∀ (n d : Nat) (st ov : Int), rch u n st ov → pth u d st ov → pth u (n + d) 0 0
  | 0, d, st, ov, hr, hp => by
    obtain ⟨rfl, rfl⟩ := hr
    rw [Nat.zero_add]
    exact hp
  | n + 1, d, st, ov, hr, hp => by
    obtain ⟨st', ov', x, hr', hx, rfl, rfl⟩ := hr
    have := rch_pth n (d + 1) st' ov' hr' ⟨x, hx, hp⟩
    rw [show n + 1 + d = n + (d + 1) by omega]
    exact this
theorem pth_rch {u : Ud} : ∀ (d n : Nat) (st ov : Int), rch u n st ov → pth u d st ov → ∃ st' ov' : Int, rch u (n + d) st' ov' ∧ ub u st' ov'
  | 0, n, st, ov, hr, hp => ⟨st, ov, hr, hp⟩
  | d + 1, n, st, ov, hr, hp => by
    obtain ⟨x, hx, hp⟩ := hp
    have := pth_rch d (n + 1) (unx u st x) (ov + udl u st x) ⟨st, ov, x, hr, hx, rfl, rfl⟩ hp
    rw [show n + (d + 1) = n + 1 + d by omega]
    exact this
theorem unx_rng {u : Ud} (hA : okS u.1) (hP : okP u.2.2.2 u.2.1) (hk : u.2.2.2 ≤ 4) {st x : Int} (hs : 0 ≤ st ∧ st < 36) (hx : 0 ≤ x ∧ x < u.2.2.2) : 0 ≤ unx u st x ∧ unx u st x < 36 := by
  have h1 := hA (st / 6) x (by omega) (by omega)
  have h2 := hP.1 (st % 6) x (by omega) (by omega)
  unfold unx
  omega
theorem rch_rng {u : Ud} (hA : okS u.1) (hP : okP u.2.2.2 u.2.1) (hk : u.2.2.2 ≤ 4) : ∀ (n : Nat) (st ov : Int), rch u n st ov → (0 ≤ st ∧ st < 36) ∧ -(n : Int) ≤ ov ∧ ov ≤ 2 * n
  | 0, st, ov, hr => by
    obtain ⟨rfl, rfl⟩ := hr
    omega
  | n + 1, st, ov, hr => by
    obtain ⟨st', ov', x, hr', hx, rfl, rfl⟩ := hr
    have h1 := rch_rng hA hP hk n st' ov' hr'
    have h2 := udl_rng u st' x
    have h3 := unx_rng hA hP hk h1.1 hx
    refine ⟨h3, ?_⟩
    have : ((n + 1 : Nat) : Int) = n + 1 := by omega
    rw [this]
    omega
abbrev Nd : Type := Int × Int × Int
def cn : List Nd → Int → Int
  | [], _ => 0
  | e :: l, st => (if e.1 = st then 1 else 0) + cn l st
def fov : List Nd → Int → Int
  | [], _ => 0
  | e :: l, st => if e.1 = st then e.2.1 else fov l st
theorem cn_app {e : Nd} {st : Int} : ∀ q : List Nd, cn (q ++ [e]) st = cn q st + (if e.1 = st then 1 else 0)
  | [] => by simp [cn]
  | d :: l => by
    have ih := cn_app (e := e) (st := st) l
    show (if d.1 = st then (1 : Int) else 0) + cn (l ++ [e]) st = (if d.1 = st then (1 : Int) else 0) + cn l st + _
    rw [ih]
    omega
theorem cn_nn {st : Int} : ∀ q : List Nd, 0 ≤ cn q st
  | [] => by simp [cn]
  | d :: l => by
    have ih := cn_nn (st := st) l
    show 0 ≤ (if d.1 = st then (1 : Int) else 0) + cn l st
    split <;> omega
theorem fov_app {e : Nd} {st : Int} : ∀ q : List Nd, fov (q ++ [e]) st = if cn q st = 0 then (if e.1 = st then e.2.1 else 0) else fov q st
  | [] => by simp [cn, fov]
  | d :: l => by
    have ih := fov_app (e := e) (st := st) l
    have hn := cn_nn (st := st) l
    show (if d.1 = st then d.2.1 else fov (l ++ [e]) st) = if (if d.1 = st then (1 : Int) else 0) + cn l st = 0 then _ else (if d.1 = st then d.2.1 else fov l st)
    by_cases h : d.1 = st
    · rw [if_pos h, if_pos h, if_pos h, if_neg (by omega)]
    · rw [if_neg h, if_neg h, if_neg h, ih]
      by_cases h2 : cn l st = 0
      · rw [if_pos h2, if_pos (show (0 : Int) + cn l st = 0 by omega)]
      · rw [if_neg h2, if_neg (show ¬ (0 : Int) + cn l st = 0 by omega)]
theorem fov_mem {st : Int} : ∀ q : List Nd, 1 ≤ cn q st → ∃ e ∈ q, e.1 = st ∧ e.2.1 = fov q st
  | [], h => by
    simp [cn] at h
  | d :: l, h => by
    by_cases h1 : d.1 = st
    · refine ⟨d, List.mem_cons_self, h1, ?_⟩
      show _ = if d.1 = st then d.2.1 else fov l st
      rw [if_pos h1]
    · have h2 : 1 ≤ cn l st := by
        have : (if d.1 = st then (1 : Int) else 0) + cn l st = cn (d :: l) st := rfl
        rw [if_neg h1] at this
        omega
      obtain ⟨e, he, h3, h4⟩ := fov_mem l h2
      refine ⟨e, List.mem_cons_of_mem _ he, h3, ?_⟩
      show _ = if d.1 = st then d.2.1 else fov l st
      rw [if_neg h1]
      exact h4
theorem am_sm_zero : ∀ n : Nat, am_sm (fun _ => 0) n = 0
  | 0 => rfl
  | n + 1 => by
    show am_sm (fun _ => 0) n + 0 = 0
    rw [am_sm_zero n]
    rfl
theorem am_sm_add {f g : Int → Int} : ∀ n : Nat, am_sm (fun j => f j + g j) n = am_sm f n + am_sm g n
  | 0 => rfl
  | n + 1 => by
    show am_sm (fun j => f j + g j) n + (f n + g n) = am_sm f n + f n + (am_sm g n + g n)
    rw [am_sm_add n]
    omega
theorem am_sm_one {p : Int} (h : 0 ≤ p) : ∀ n : Nat, am_sm (fun j => if p = j then 1 else 0) n = if p < n then 1 else 0
  | 0 => by
    show (0 : Int) = _
    rw [if_neg (by omega)]
  | n + 1 => by
    show am_sm (fun j => if p = j then 1 else 0) n + (if p = (n : Int) then 1 else 0) = _
    rw [am_sm_one h n]
    (repeat' split) <;> omega
theorem cn_sum : ∀ q : List Nd, (∀ e ∈ q, 0 ≤ e.1 ∧ e.1 < 36) → am_sm (cn q) 36 = q.length
  | [], _ => by
    show am_sm (fun _ => 0) 36 = 0
    exact am_sm_zero 36
  | d :: l, h => by
    have ih := cn_sum l (fun e he => h e (List.mem_cons_of_mem _ he))
    have hd := h d List.mem_cons_self
    show am_sm (fun st => (if d.1 = st then 1 else 0) + cn l st) 36 = _
    rw [am_sm_add (f := fun st => if d.1 = st then 1 else 0) (g := cn l), ih, am_sm_one hd.1, if_pos (show d.1 < ((36 : Nat) : Int) from hd.2)]
    simp
    omega
def ky (q : List Nd) (e : Nd) : List Nd := if 2 ≤ cn q e.1 then q else if cn q e.1 = 1 ∧ fov q e.1 = e.2.1 then q else q ++ [e]
def cvd (q : List Nd) (st ov L : Int) : Prop := (∃ e ∈ q, e.1 = st ∧ e.2.1 = ov ∧ e.2.2 ≤ L) ∨ ∃ e ∈ q, ∃ e' ∈ q, e.1 = st ∧ e'.1 = st ∧ e.2.1 ≠ e'.2.1 ∧ e.2.2 ≤ L ∧ e'.2.2 ≤ L
def uok (u : Ud) (q : List Nd) : Prop :=
  (∀ (j : Nat) (e : Nd), q[j]? = some e → (0 ≤ e.1 ∧ e.1 < 36) ∧ (0 ≤ e.2.2 ∧ e.2.2 ≤ j) ∧ rch u e.2.2.toNat e.1 e.2.1) ∧
  (∀ (i j : Nat) (e e' : Nd), i ≤ j → q[i]? = some e → q[j]? = some e' → e.2.2 ≤ e'.2.2) ∧ (0, 0, 0) ∈ q ∧ (∀ st : Int, cn q st ≤ 2) ∧
  ∀ st : Int, cn q st = 2 → ∃ e ∈ q, ∃ e' ∈ q, e.1 = st ∧ e'.1 = st ∧ e.2.1 ≠ e'.2.1
theorem uok.len {u : Ud} {q : List Nd} (h : uok u q) : (q.length : Int) ≤ 72 := by
  have h1 := cn_sum q (fun e he => by
    obtain ⟨j, hj⟩ := List.mem_iff_getElem?.mp he
    exact (h.1 j e hj).1)
  have h2 := am_sm_bnd (f := cn q) (c := 2) 36 (fun j _ _ => ⟨cn_nn q, h.2.2.2.1 j⟩)
  omega
theorem cvd.mono {q t : List Nd} {st ov L : Int} (h : cvd q st ov L) : cvd (q ++ t) st ov L := by
  rcases h with ⟨e, he, h⟩ | ⟨e, he, e', he', h⟩
  · exact Or.inl ⟨e, List.mem_append_left _ he, h⟩
  · exact Or.inr ⟨e, List.mem_append_left _ he, e', List.mem_append_left _ he', h⟩
theorem ky_pre (q : List Nd) (e : Nd) : ∃ t, ky q e = q ++ t := by
  unfold ky
  split
  · exact ⟨[], (List.append_nil _).symm⟩
  · split
    · exact ⟨[], (List.append_nil _).symm⟩
    · exact ⟨[e], rfl⟩
theorem ky_ok {u : Ud} {q : List Nd} {e : Nd} (h : uok u q) (hst : 0 ≤ e.1 ∧ e.1 < 36) (hL : 0 ≤ e.2.2 ∧ e.2.2 ≤ q.length) (hr : rch u e.2.2.toNat e.1 e.2.1) (hm : ∀ e' ∈ q, e'.2.2 ≤ e.2.2) : uok u (ky q e) ∧ cvd (ky q e) e.1 e.2.1 e.2.2 ∧ ∀ e' ∈ ky q e, e'.2.2 ≤ e.2.2 := by
  unfold ky
  by_cases h2 : 2 ≤ cn q e.1
  · rw [if_pos h2]
    refine ⟨h, ?_, hm⟩
    have h3 := h.2.2.2.1 e.1
    obtain ⟨a, ha, b, hb, h4, h5, h6⟩ := h.2.2.2.2 e.1 (by omega)
    exact Or.inr ⟨a, ha, b, hb, h4, h5, h6, hm a ha, hm b hb⟩
  · rw [if_neg h2]
    by_cases h1 : cn q e.1 = 1 ∧ fov q e.1 = e.2.1
    · rw [if_pos h1]
      refine ⟨h, ?_, hm⟩
      obtain ⟨a, ha, h4, h5⟩ := fov_mem (st := e.1) q (by omega)
      exact Or.inl ⟨a, ha, h4, by rw [h5, h1.2], hm a ha⟩
    · rw [if_neg h1]
      have hq : ∀ (j : Nat) (x : Nd), (q ++ [e])[j]? = some x → (j < q.length ∧ q[j]? = some x) ∨ (j = q.length ∧ x = e) := by
        intro j x hx
        by_cases hj : j < q.length
        · rw [List.getElem?_append_left hj] at hx
          exact Or.inl ⟨hj, hx⟩
        · have hj2 : j < (q ++ [e]).length := (List.getElem?_eq_some_iff.mp hx).1
          simp at hj2
          have : j = q.length := by omega
          subst this
          simp at hx
          exact Or.inr ⟨rfl, hx.symm⟩
      refine ⟨⟨?_, ?_, ?_, ?_, ?_⟩, ?_, ?_⟩
      · intro j x hx
        rcases hq j x hx with ⟨-, hx⟩ | ⟨rfl, rfl⟩
        · exact h.1 j x hx
        · exact ⟨hst, hL, hr⟩
      · intro i j x x' hij hx hx'
        rcases hq j x' hx' with ⟨hj, hx'⟩ | ⟨rfl, rfl⟩
        · rcases hq i x hx with ⟨hi, hx⟩ | ⟨rfl, rfl⟩
          · exact h.2.1 i j x x' hij hx hx'
          · exfalso
            omega
        · rcases hq i x hx with ⟨hi, hx⟩ | ⟨rfl, rfl⟩
          · exact hm x (List.mem_of_getElem? hx)
          · exact Int.le_refl _
      · exact List.mem_append_left _ h.2.2.1
      · intro st
        rw [cn_app]
        have := h.2.2.2.1 st
        by_cases he : e.1 = st
        · subst he
          rw [if_pos rfl]
          omega
        · rw [if_neg he]
          omega
      · intro st hc
        rw [cn_app] at hc
        by_cases he : e.1 = st
        · subst he
          rw [if_pos rfl] at hc
          obtain ⟨a, ha, h4, h5⟩ := fov_mem (st := e.1) q (by omega)
          refine ⟨a, List.mem_append_left _ ha, e, List.mem_append_right _ List.mem_cons_self, h4, rfl, ?_⟩
          rw [h5]
          intro h6
          exact h1 ⟨by omega, h6⟩
        · rw [if_neg he] at hc
          obtain ⟨a, ha, b, hb, h4⟩ := h.2.2.2.2 st (by omega)
          exact ⟨a, List.mem_append_left _ ha, b, List.mem_append_left _ hb, h4⟩
      · exact Or.inl ⟨e, List.mem_append_right _ List.mem_cons_self, rfl, rfl, Int.le_refl _⟩
      · intro e' he'
        rcases List.mem_append.mp he' with h3 | h3
        · exact hm e' h3
        · rw [List.mem_singleton.mp h3]
          exact Int.le_refl _
theorem ky_len {u : Ud} {q : List Nd} {e : Nd} (h : uok u (ky q e)) (h2 : ¬ 2 ≤ cn q e.1) (h1 : ¬ (cn q e.1 = 1 ∧ fov q e.1 = e.2.1)) : (q.length : Int) < 72 := by
  have := h.len
  unfold ky at this
  rw [if_neg h2, if_neg h1] at this
  simp at this
  omega
/-- the first i nodes have been gone through -/
def prc (u : Ud) (q : List Nd) (i : Nat) : Prop := ∀ (j : Nat) (e : Nd), j < i → q[j]? = some e → (∀ x : Int, 0 ≤ x ∧ x < u.2.2.2 → cvd q (unx u e.1 x) (e.2.1 + udl u e.1 x) (e.2.2 + 1)) ∧ ¬ ub u e.1 e.2.1
theorem un_none {u : Ud} {q : List Nd} {m : Int} (hz : (0, 0, 0) ∈ q) (hD : ∀ e ∈ q, e.2.2 ≤ m → (∀ x : Int, 0 ≤ x ∧ x < u.2.2.2 → cvd q (unx u e.1 x) (e.2.1 + udl u e.1 x) (e.2.2 + 1)) ∧ ¬ ub u e.1 e.2.1) : ∀ d : Nat, (d : Int) ≤ m → ¬ pth u d 0 0 := by
  have key : ∀ (d : Nat) (e : Nd), e ∈ q → e.2.2 + d ≤ m → ¬ pth u d e.1 e.2.1 := by
    intro d
    induction d with
    | zero =>
      intro e he hm hp
      exact (hD e he (by omega)).2 hp
    | succ d ih =>
      intro e he hm hp
      obtain ⟨x, hx, hp⟩ := hp
      have hm' : ((d + 1 : Nat) : Int) = d + 1 := by omega
      rw [hm'] at hm
      rcases (hD e he (by omega)).1 x hx with ⟨a, ha, h1, h2, h3⟩ | ⟨a, ha, b, hb, h1, h2, h3, h4, h5⟩
      · refine ih a ha (by omega) ?_
        rw [h1, h2]
        exact hp
      · rcases pth_two d _ _ a.2.1 b.2.1 h3 hp with h6 | h6
        · refine ih a ha (by omega) ?_
          rw [h1]
          exact h6
        · refine ih b hb (by omega) ?_
          rw [h2]
          exact h6
  intro d hd
  exact key d (0, 0, 0) hz (by show (0 : Int) + d ≤ m; omega)
/-- what the shortest one is -/
def SU (u : Ud) (r : Int) : Prop := (r = -9 ∧ ∀ n : Nat, ¬ pth u n 0 0) ∨ ∃ n : Nat, n < 72 ∧ r = n ∧ pth u n 0 0 ∧ ∀ m : Nat, m < n → ¬ pth u m 0 0
theorem SU_end {u : Ud} {q : List Nd} (h : uok u q) (hp : prc u q q.length) : SU u (-9) := by
  refine Or.inl ⟨rfl, fun n => ?_⟩
  refine un_none (m := n) h.2.2.1 (fun e he _ => ?_) n (Int.le_refl _)
  obtain ⟨j, hj⟩ := List.mem_iff_getElem?.mp he
  exact hp j e (List.getElem?_eq_some_iff.mp hj).1 hj
theorem SU_hit {u : Ud} {q : List Nd} {i : Nat} {e : Nd} (h : uok u q) (hp : prc u q i) (he : q[i]? = some e) (hb : ub u e.1 e.2.1) : SU u e.2.2 := by
  have h1 := h.1 i e he
  have h2 := h.len
  have h3 := (List.getElem?_eq_some_iff.mp he).1
  refine Or.inr ⟨e.2.2.toNat, by omega, by omega, ?_, fun m hm => ?_⟩
  · have := rch_pth e.2.2.toNat 0 e.1 e.2.1 h1.2.2 hb
    exact this
  · refine un_none (m := m) h.2.2.1 (fun a ha hl => ?_) m (Int.le_refl _)
    obtain ⟨j, hj⟩ := List.mem_iff_getElem?.mp ha
    refine hp j a ?_ hj
    by_cases hji : j < i
    · exact hji
    · have := h.2.1 i j e a (by omega) he hj
      omega
theorem SU_one {u : Ud} {r r' : Int} (h : SU u r) (h' : SU u r') : r = r' := by
  rcases h with ⟨h1, h2⟩ | ⟨n, -, h1, h2, h3⟩
  · rcases h' with ⟨h4, h5⟩ | ⟨m, -, h4, h5, h6⟩
    · omega
    · exact absurd h5 (h2 m)
  · rcases h' with ⟨h4, h5⟩ | ⟨m, -, h4, h5, h6⟩
    · exact absurd h2 (h5 n)
    · have : n = m := by
        rcases Nat.lt_trichotomy n m with h | h | h
        · exact absurd h2 (h6 n h)
        · exact h
        · exact absurd h5 (h3 m h)
      omega
