/-! ===== programs that agree: as mathematics ===== -/
/-- a sentence, two programs, how many letters -/
abbrev Gd : Type := Sn × Pg × Pg × Int
def gx (g : Gd) (st x : Int) : Int := 36 * g.1.1 (st / 36) x + 6 * g.2.1.1 (st / 6 % 6) x + g.2.2.1.1 (st % 6) x
def ga (g : Gd) (st x : Int) : Int := g.2.1.2.1 (st / 6 % 6) x
def gb (g : Gd) (st x : Int) : Int := g.2.2.1.2.1 (st % 6) x
def ea (g : Gd) (st : Int) : Int := g.2.1.2.2 (st / 6 % 6)
def eb (g : Gd) (st : Int) : Int := g.2.2.1.2.2 (st % 6)
def bw (g : Gd) (st : Int) : Prop := g.1.2 (st / 36) = 1 ∧ ea g st ≠ -1 ∧ eb g st ≠ -1
def sa (g : Gd) (st : Int) : Prop := g.1.2 (st / 36) = 1 ∧ ¬ (ea g st = -1 ↔ eb g st = -1)
def rg (g : Gd) : Nat → Int → List Int → List Int → Prop
  | 0, st, a, b => st = 0 ∧ a = [] ∧ b = []
  | n + 1, st, a, b => ∃ (st' : Int) (a' b' : List Int) (x : Int), rg g n st' a' b' ∧ (0 ≤ x ∧ x < g.2.2.2) ∧ st = gx g st' x ∧ a = a' ++ wl (ga g st' x) ∧ b = b' ++ wl (gb g st' x)
def uw (g : Gd) : Nat → Int → Prop
  | 0, st => bw g st
  | m + 1, st => ∃ x : Int, (0 ≤ x ∧ x < g.2.2.2) ∧ uw g m (gx g st x)
def us (g : Gd) (st : Int) : Prop := ∃ m : Nat, uw g m st
def AG (g : Gd) : Prop := ∀ (n : Nat) (st : Int) (a b : List Int), rg g n st a b → ¬ sa g st ∧ (bw g st → a ++ wl (ea g st) = b ++ wl (eb g st))
def ct (a b : List Int) : List Int × List Int := (a.drop b.length, b.drop a.length)
def okG (g : Gd) : Prop := (2 ≤ g.2.2.2 ∧ g.2.2.2 ≤ 4) ∧ okS g.1 ∧ okP g.2.2.2 g.2.1 ∧ okP g.2.2.2 g.2.2.1
theorem us_back {g : Gd} {st x : Int} (hx : 0 ≤ x ∧ x < g.2.2.2) (h : us g (gx g st x)) : us g st := by
  obtain ⟨m, h⟩ := h
  exact ⟨m + 1, x, hx, h⟩
theorem us_bw {g : Gd} {st : Int} (h : bw g st) : us g st := ⟨0, h⟩
theorem us_or {g : Gd} {st : Int} (h : us g st) : bw g st ∨ ∃ x : Int, (0 ≤ x ∧ x < g.2.2.2) ∧ us g (gx g st x) := by
  obtain ⟨m, h⟩ := h
  cases m with
  | zero => exact Or.inl h
  | succ m =>
    obtain ⟨x, hx, h⟩ := h
    exact Or.inr ⟨x, hx, m, h⟩
theorem gx_rng {g : Gd} (hg : okG g) {st x : Int} (hs : 0 ≤ st ∧ st < 216) (hx : 0 ≤ x ∧ x < g.2.2.2) : 0 ≤ gx g st x ∧ gx g st x < 216 := by
  have hk := hg.1
  have h1 := hg.2.1 (st / 36) x (by omega) (by omega)
  have h2 := hg.2.2.1.1 (st / 6 % 6) x (by omega) (by omega)
  have h3 := hg.2.2.2.1 (st % 6) x (by omega) (by omega)
  unfold gx
  omega
theorem gx_parts {g : Gd} (hg : okG g) {st x : Int} (hs : 0 ≤ st ∧ st < 216) (hx : 0 ≤ x ∧ x < g.2.2.2) : gx g st x / 36 = g.1.1 (st / 36) x ∧ gx g st x / 6 % 6 = g.2.1.1 (st / 6 % 6) x ∧ gx g st x % 6 = g.2.2.1.1 (st % 6) x := by
  have hk := hg.1
  have h1 := hg.2.1 (st / 36) x (by omega) (by omega)
  have h2 := hg.2.2.1.1 (st / 6 % 6) x (by omega) (by omega)
  have h3 := hg.2.2.2.1 (st % 6) x (by omega) (by omega)
  unfold gx
  omega
theorem rg_rng {g : Gd} (hg : okG g) : ∀ (n : Nat) (st : Int) (a b : List Int), rg g n st a b → (0 ≤ st ∧ st < 216) ∧ a.length ≤ 2 * n ∧ b.length ≤ 2 * n
  | 0, st, a, b, h => by
    obtain ⟨rfl, rfl, rfl⟩ := h
    simp
  | n + 1, st, a, b, h => by
    obtain ⟨st', a', b', x, h, hx, rfl, rfl, rfl⟩ := h
    have h1 := rg_rng hg n st' a' b' h
    have h2 := wl_len (ga g st' x)
    have h3 := wl_len (gb g st' x)
    refine ⟨gx_rng hg h1.1 hx, ?_, ?_⟩
    · rw [List.length_append]
      omega
    · rw [List.length_append]
      omega
theorem lk_iff {a b : List Int} : lk_ a b ↔ ∀ i : Nat, i < a.length → i < b.length → a[i]? = b[i]? := by
  constructor
  · intro h i h1 h2
    have := h i h1 h2
    rw [List.getElem?_eq_getElem h1, List.getElem?_eq_getElem h2]
    simp [List.getD, List.getElem?_eq_getElem h1, List.getElem?_eq_getElem h2] at this
    rw [this]
  · intro h i h1 h2
    have := h i h1 h2
    simp only [List.getD, this]
theorem lk_of_eq {a b u v : List Int} (h : a ++ u = b ++ v) : lk_ a b := by
  rw [lk_iff]
  intro i h1 h2
  have : (a ++ u)[i]? = (b ++ v)[i]? := by rw [h]
  rw [List.getElem?_append_left h1, List.getElem?_append_left h2] at this
  exact this
theorem ct_one (a b : List Int) : (ct a b).1 = [] ∨ (ct a b).2 = [] := by
  unfold ct
  by_cases h : a.length ≤ b.length
  · exact Or.inl (List.drop_eq_nil_of_le h)
  · exact Or.inr (List.drop_eq_nil_of_le (by omega))
theorem lk_take {a b : List Int} (h : lk_ a b) (hl : a.length ≤ b.length) : b.take a.length = a := by
  rw [lk_iff] at h
  apply List.ext_getElem?
  intro i
  by_cases hi : i < a.length
  · rw [List.getElem?_take_of_lt hi]
    exact (h i hi (by omega)).symm
  · rw [List.getElem?_eq_none (by rw [List.length_take]; omega), List.getElem?_eq_none (by omega)]
theorem lk_symm {a b : List Int} (h : lk_ a b) : lk_ b a := fun i h1 h2 => (h i h2 h1).symm
theorem ct_split {a b : List Int} (h : lk_ a b) : ∃ c : List Int, a = c ++ (ct a b).1 ∧ b = c ++ (ct a b).2 := by
  unfold ct
  by_cases hl : a.length ≤ b.length
  · refine ⟨a, ?_, ?_⟩
    · show a = a ++ a.drop b.length
      rw [List.drop_eq_nil_of_le hl, List.append_nil]
    · show b = a ++ b.drop a.length
      conv => lhs; rw [← List.take_append_drop a.length b]
      rw [lk_take h hl]
  · refine ⟨b, ?_, ?_⟩
    · show a = b ++ a.drop b.length
      conv => lhs; rw [← List.take_append_drop b.length a]
      rw [lk_take (lk_symm h) (by omega)]
    · show b = b ++ b.drop a.length
      rw [List.drop_eq_nil_of_le (by omega), List.append_nil]
theorem lk_app {c u v : List Int} : lk_ (c ++ u) (c ++ v) ↔ lk_ u v := by
  rw [lk_iff, lk_iff]
  constructor
  · intro h i h1 h2
    have := h (c.length + i) (by rw [List.length_append]; omega) (by rw [List.length_append]; omega)
    rw [List.getElem?_append_right (by omega), List.getElem?_append_right (by omega)] at this
    rw [show c.length + i - c.length = i by omega] at this
    exact this
  · intro h i h1 h2
    by_cases hc : i < c.length
    · rw [List.getElem?_append_left hc, List.getElem?_append_left hc]
    · rw [List.length_append] at h1 h2
      rw [List.getElem?_append_right (by omega), List.getElem?_append_right (by omega)]
      exact h _ (by omega) (by omega)
theorem drop_app (c u : List Int) (n : Nat) : (c ++ u).drop (c.length + n) = u.drop n := by
  rw [← List.drop_drop, List.drop_left]
theorem ct_app (c u v : List Int) : ct (c ++ u) (c ++ v) = ct u v := by
  unfold ct
  rw [List.length_append, List.length_append, drop_app, drop_app]
theorem uw_AG {g : Gd} (h : AG g) : ∀ (m : Nat) (st : Int), uw g m st → ∃ al be : List Int, al.length ≤ 2 * m + 2 ∧ be.length ≤ 2 * m + 2 ∧ ∀ (n : Nat) (a b : List Int), rg g n st a b → a ++ al = b ++ be
  | 0, st, hu => by
    have h1 := wl_len (ea g st)
    have h2 := wl_len (eb g st)
    exact ⟨wl (ea g st), wl (eb g st), by omega, by omega, fun n a b hr => (h n st a b hr).2 hu⟩
  | m + 1, st, hu => by
    obtain ⟨x, hx, hu⟩ := hu
    obtain ⟨al, be, h1, h2, h3⟩ := uw_AG h m _ hu
    have h4 := wl_len (ga g st x)
    have h5 := wl_len (gb g st x)
    refine ⟨wl (ga g st x) ++ al, wl (gb g st x) ++ be, by rw [List.length_append]; omega, by rw [List.length_append]; omega, fun n a b hr => ?_⟩
    have := h3 (n + 1) (a ++ wl (ga g st x)) (b ++ wl (gb g st x)) ⟨st, a, b, x, hr, hx, rfl, rfl, rfl⟩
    rw [List.append_assoc, List.append_assoc] at this
    exact this
theorem AG_lk {g : Gd} (h : AG g) {n : Nat} {st : Int} {a b : List Int} (hu : us g st) (hr : rg g n st a b) : lk_ a b := by
  obtain ⟨m, hu⟩ := hu
  obtain ⟨al, be, -, -, h3⟩ := uw_AG h m st hu
  exact lk_of_eq (h3 n a b hr)
theorem ct_uniq {u v u' v' al be : List Int} (h : u ++ al = v ++ be) (h' : u' ++ al = v' ++ be) (h1 : u = [] ∨ v = []) (h1' : u' = [] ∨ v' = []) : u = u' ∧ v = v' := by
  have e1 : u.length + al.length = v.length + be.length := by rw [← List.length_append, h, List.length_append]
  have e2 : u'.length + al.length = v'.length + be.length := by rw [← List.length_append, h', List.length_append]
  by_cases hl : al.length ≤ be.length
  · have hv : v = [] := by
      rcases h1 with h1 | h1
      · rw [h1] at e1
        exact List.eq_nil_of_length_eq_zero (by simp at e1; omega)
      · exact h1
    have hv' : v' = [] := by
      rcases h1' with h1 | h1
      · rw [h1] at e2
        exact List.eq_nil_of_length_eq_zero (by simp at e2; omega)
      · exact h1
    subst hv hv'
    refine ⟨?_, rfl⟩
    have : u ++ al = u' ++ al := by rw [h, h']
    exact List.append_cancel_right this
  · have hv : u = [] := by
      rcases h1 with h1 | h1
      · exact h1
      · rw [h1] at e1
        exact List.eq_nil_of_length_eq_zero (by simp at e1; omega)
    have hv' : u' = [] := by
      rcases h1' with h1 | h1
      · exact h1
      · rw [h1] at e2
        exact List.eq_nil_of_length_eq_zero (by simp at e2; omega)
    subst hv hv'
    refine ⟨rfl, ?_⟩
    have : v ++ be = v' ++ be := by rw [← h, ← h']
    exact List.append_cancel_right this
theorem ct_cancel {a b al be : List Int} (h : lk_ a b) (e : a ++ al = b ++ be) : (ct a b).1 ++ al = (ct a b).2 ++ be := by
  obtain ⟨c, h4, h5⟩ := ct_split h
  generalize (ct a b).1 = u at h4 ⊢
  generalize (ct a b).2 = v at h5 ⊢
  subst h4
  subst h5
  rw [List.append_assoc, List.append_assoc] at e
  exact List.append_cancel_left e
theorem AG_ct {g : Gd} (h : AG g) {n n' : Nat} {st : Int} {a b a' b' : List Int} (hu : us g st) (hr : rg g n st a b) (hr' : rg g n' st a' b') : ct a b = ct a' b' := by
  have hl := AG_lk h hu hr
  have hl' := AG_lk h hu hr'
  obtain ⟨m, hu⟩ := hu
  obtain ⟨al, be, -, -, h3⟩ := uw_AG h m st hu
  obtain ⟨p1, p2⟩ := ct_uniq (ct_cancel hl (h3 n a b hr)) (ct_cancel hl' (h3 n' a' b' hr')) (ct_one a b) (ct_one a' b')
  exact Prod.ext p1 p2
theorem AG_end {g : Gd} (h : AG g) {n : Nat} {st : Int} {a b : List Int} (hb : bw g st) (hr : rg g n st a b) : (ct a b).1 ++ wl (ea g st) = (ct a b).2 ++ wl (eb g st) := ct_cancel (AG_lk h (us_bw hb) hr) ((h n st a b hr).2 hb)
/-! a short way to where both write -/
def pp (f : Int → Int → Int) (T : Int → Prop) (k : Int) : Nat → Int → Prop
  | 0, v => T v
  | m + 1, v => ∃ x : Int, (0 ≤ x ∧ x < k) ∧ pp f T k m (f v x)
theorem pp_min {f : Int → Int → Int} {T : Int → Prop} {k : Int} (hf : ∀ v x : Int, 0 ≤ v ∧ v < 36 → 0 ≤ x ∧ x < k → 0 ≤ f v x ∧ f v x < 36) : ∀ (m : Nat) (v : Int), 0 ≤ v ∧ v < 36 → pp f T k m v → (∀ j : Nat, j < m → ¬ pp f T k j v) → ∃ l : List Int, l.length = m + 1 ∧ l.Nodup ∧ ∀ e ∈ l, (0 ≤ e ∧ e < 36) ∧ ∃ d : Nat, d ≤ m ∧ pp f T k d e
  | 0, v, hv, h, _ => ⟨[v], rfl, by simp, fun e he => by
      rw [List.mem_singleton.mp he]
      exact ⟨hv, 0, Nat.le_refl _, h⟩⟩
  | m + 1, v, hv, h, hm => by
    obtain ⟨x, hx, h⟩ := h
    obtain ⟨l, h1, h2, h3⟩ := pp_min hf m (f v x) (hf v x hv hx) h (fun j hj hp => hm (j + 1) (by omega) ⟨x, hx, hp⟩)
    refine ⟨v :: l, by simp [h1], ?_, fun e he => ?_⟩
    · rw [List.nodup_cons]
      refine ⟨fun hin => ?_, h2⟩
      obtain ⟨-, d, hd, hp⟩ := h3 v hin
      exact hm d (by omega) hp
    · rcases List.mem_cons.mp he with rfl | he
      · exact ⟨hv, m + 1, Nat.le_refl _, x, hx, h⟩
      · obtain ⟨h4, d, hd, hp⟩ := h3 e he
        exact ⟨h4, d, by omega, hp⟩
theorem pp_first {f : Int → Int → Int} {T : Int → Prop} {k v : Int} : ∀ m : Nat, (∃ j : Nat, j ≤ m ∧ pp f T k j v) → ∃ d : Nat, pp f T k d v ∧ ∀ j : Nat, j < d → ¬ pp f T k j v
  | 0, ⟨j, hj, h⟩ => ⟨j, h, fun i hi => by omega⟩
  | m + 1, ⟨j, hj, h⟩ => by
    by_cases hh : ∃ i : Nat, i ≤ m ∧ pp f T k i v
    · exact pp_first m hh
    · refine ⟨j, h, fun i hi hp => hh ⟨i, by omega, hp⟩⟩
theorem pp_35 {f : Int → Int → Int} {T : Int → Prop} {k v : Int} (hf : ∀ v x : Int, 0 ≤ v ∧ v < 36 → 0 ≤ x ∧ x < k → 0 ≤ f v x ∧ f v x < 36) (hv : 0 ≤ v ∧ v < 36) {m : Nat} (h : pp f T k m v) : ∃ d : Nat, d ≤ 35 ∧ pp f T k d v := by
  obtain ⟨d, h1, h2⟩ := pp_first m ⟨m, Nat.le_refl _, h⟩
  obtain ⟨l, h3, h4, h5⟩ := pp_min hf d v hv h1 h2
  have := ph_ 36 l h4 (fun x hx => (h5 x hx).1)
  exact ⟨d, by omega, h1⟩
def nd2 (st : Int) : Int := 6 * (st / 36) + st % 6
def nf (g : Gd) (v x : Int) : Int := 6 * g.1.1 (v / 6) x + g.2.2.1.1 (v % 6) x
def nT (g : Gd) (v : Int) : Prop := g.1.2 (v / 6) = 1 ∧ g.2.2.1.2.2 (v % 6) ≠ -1
theorem nd_step {g : Gd} (hg : okG g) {st x : Int} (hs : 0 ≤ st ∧ st < 216) (hx : 0 ≤ x ∧ x < g.2.2.2) : nd2 (gx g st x) = nf g (nd2 st) x := by
  obtain ⟨h1, h2, h3⟩ := gx_parts hg hs hx
  unfold nd2 nf
  rw [h1, h3, show (6 * (st / 36) + st % 6) / 6 = st / 36 by omega, show (6 * (st / 36) + st % 6) % 6 = st % 6 by omega]
theorem nd_T {g : Gd} {st : Int} (hs : 0 ≤ st ∧ st < 216) : nT g (nd2 st) ↔ g.1.2 (st / 36) = 1 ∧ eb g st ≠ -1 := by
  unfold nT nd2 eb
  rw [show (6 * (st / 36) + st % 6) / 6 = st / 36 by omega, show (6 * (st / 36) + st % 6) % 6 = st % 6 by omega]
theorem uw_pp {g : Gd} (hg : okG g) : ∀ (m : Nat) (st : Int), 0 ≤ st ∧ st < 216 → uw g m st → pp (nf g) (nT g) g.2.2.2 m (nd2 st)
  | 0, st, hs, h => (nd_T hs).mpr ⟨h.1, h.2.2⟩
  | m + 1, st, hs, h => by
    obtain ⟨x, hx, h⟩ := h
    refine ⟨x, hx, ?_⟩
    rw [← nd_step hg hs hx]
    exact uw_pp hg m _ (gx_rng hg hs hx) h
theorem pp_uw {g : Gd} (hg : okG g) (hA : AG g) : ∀ (m n : Nat) (st : Int) (a b : List Int), rg g n st a b → pp (nf g) (nT g) g.2.2.2 m (nd2 st) → uw g m st
  | 0, n, st, a, b, hr, h => by
    have hs := (rg_rng hg n st a b hr).1
    have h1 := (nd_T hs).mp h
    have h2 := (hA n st a b hr).1
    refine ⟨h1.1, fun h3 => h2 ⟨h1.1, fun h4 => h1.2 (h4.mp h3)⟩, h1.2⟩
  | m + 1, n, st, a, b, hr, h => by
    have hs := (rg_rng hg n st a b hr).1
    obtain ⟨x, hx, h⟩ := h
    rw [← nd_step hg hs hx] at h
    exact ⟨x, hx, pp_uw hg hA m (n + 1) _ _ _ ⟨st, a, b, x, hr, hx, rfl, rfl, rfl⟩ h⟩
theorem AG_72 {g : Gd} (hg : okG g) (h : AG g) {n : Nat} {st : Int} {a b : List Int} (hu : us g st) (hr : rg g n st a b) : a.length ≤ b.length + 72 ∧ b.length ≤ a.length + 72 := by
  have hs := (rg_rng hg n st a b hr).1
  obtain ⟨m, hu⟩ := hu
  have h1 := uw_pp hg m st hs hu
  have hf : ∀ v x : Int, 0 ≤ v ∧ v < 36 → 0 ≤ x ∧ x < g.2.2.2 → 0 ≤ nf g v x ∧ nf g v x < 36 := by
    intro v x hv hx
    have hk := hg.1
    have h1 := hg.2.1 (v / 6) x (by omega) (by omega)
    have h3 := hg.2.2.2.1 (v % 6) x (by omega) (by omega)
    unfold nf
    omega
  obtain ⟨d, hd, h2⟩ := pp_35 hf (by unfold nd2; omega) h1
  obtain ⟨al, be, h3, h4, h5⟩ := uw_AG h d st (pp_uw hg h d n st a b hr h2)
  have h6 := h5 n a b hr
  have : a.length + al.length = b.length + be.length := by rw [← List.length_append, h6, List.length_append]
  omega
