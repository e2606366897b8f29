/-! ===== a walk, and its image under other names ===== -/
theorem ix_none {p : Int} : ∀ {q : List (Int × Int)}, hok q → hw q p = -2 → ix q p = q.length
  | [], _, _ => rfl
  | e :: l, h, hn => by
    have he := h e List.mem_cons_self
    have h1 : ¬ e.1 = p := by
      intro h1
      unfold hw at hn
      rw [if_pos h1] at hn
      omega
    have h2 : hw l p = -2 := by
      unfold hw at hn
      rw [if_neg h1] at hn
      exact hn
    have ih := ix_none (fun x hx => h x (List.mem_cons_of_mem _ hx)) h2
    show (if e.1 = p then (0 : Int) else ix l p + 1) = ((e :: l).length : Int)
    rw [if_neg h1, ih]
    simp
theorem ix_pre {p : Int} {t : List (Int × Int)} : ∀ {q : List (Int × Int)}, hw q p ≠ -2 → ix (q ++ t) p = ix q p
  | [], h => by simp [hw] at h
  | e :: l, h => by
    show (if e.1 = p then (0 : Int) else ix (l ++ t) p + 1) = if e.1 = p then (0 : Int) else ix l p + 1
    by_cases h1 : e.1 = p
    · rw [if_pos h1, if_pos h1]
    · rw [if_neg h1, if_neg h1]
      have h2 : hw (e :: l) p = hw l p := by
        conv => lhs; unfold hw
        rw [if_neg h1]
      rw [h2] at h
      rw [ix_pre h]
theorem ix_ne {p : Int} : ∀ {q : List (Int × Int)} {j : Nat}, (j : Int) < ix q p → (q.getD j (0, 0)).1 ≠ p
  | [], j, h => by
    have h : (j : Int) < 0 := h
    omega
  | e :: l, j, h => by
    have h : (j : Int) < if e.1 = p then (0 : Int) else ix l p + 1 := h
    by_cases h1 : e.1 = p
    · rw [if_pos h1] at h
      omega
    · rw [if_neg h1] at h
      cases j with
      | zero => exact h1
      | succ j =>
        have := ix_ne (p := p) (q := l) (j := j) (by omega)
        exact this
theorem ix_hit {p : Int} : ∀ {q : List (Int × Int)}, ix q p < q.length → (q.getD (ix q p).toNat (0, 0)).1 = p
  | [], h => by
    have h : (0 : Int) < 0 := h
    omega
  | e :: l, h => by
    have hr := ix_rng (p := p) (q := l)
    by_cases h1 : e.1 = p
    · have h2 : ix (e :: l) p = 0 := by
        show (if e.1 = p then (0 : Int) else ix l p + 1) = 0
        rw [if_pos h1]
      rw [h2]
      exact h1
    · have h2 : ix (e :: l) p = ix l p + 1 := by
        show (if e.1 = p then (0 : Int) else ix l p + 1) = _
        rw [if_neg h1]
      rw [h2] at h ⊢
      have h3 : ix l p < l.length := by
        simp only [List.length_cons] at h
        omega
      have := ix_hit h3
      rw [show (ix l p + 1).toNat = (ix l p).toNat + 1 by omega]
      exact this
theorem bs_in {sc : Int → Int → Int} {q : List (Int × Int)} {pl x : Int} (hq : hok q) (hpl : 0 ≤ pl) (hx : 0 ≤ x) : hw (bs sc q pl x) (sc pl x) ≠ -2 := by
  unfold bs
  by_cases h : hw q (sc pl x) = -2
  · rw [if_pos h, hw_app hq, if_pos h, if_pos rfl]
    omega
  · rw [if_neg h]
    exact h
theorem bs_ix {sc : Int → Int → Int} {q : List (Int × Int)} {pl x : Int} (hq : hok q) : ix (bs sc q pl x) (sc pl x) = ix q (sc pl x) := by
  unfold bs
  by_cases h : hw q (sc pl x) = -2
  · rw [if_pos h, ix_app hq, if_pos h, if_pos rfl, ix_none hq h]
  · rw [if_neg h]
def ps1 (f : Int → Int) (h : Int) : Int := if h < 0 then h else f (h / 4) * 4 + h % 4
def ps (f : Int → Int) (e : Int × Int) : Int × Int := (f e.1, ps1 f e.2)
/-- f takes one walk to the other -/
def mp (S : Int → Prop) (f : Int → Int) (sc sc' : Int → Int → Int) (k : Nat) : Prop := S 0 ∧ f 0 = 0 ∧ (∀ p, S p → 0 ≤ p) ∧ (∀ p, 0 ≤ p → 0 ≤ f p) ∧ (∀ p x : Int, S p → 0 ≤ x → x < k → S (sc p x)) ∧ (∀ p q, S p → S q → f p = f q → p = q) ∧ ∀ p x : Int, S p → 0 ≤ x → x < k → sc' (f p) x = f (sc p x)
def alS (S : Int → Prop) (q : List (Int × Int)) : Prop := hok q ∧ ∀ e ∈ q, S e.1 ∧ (0 ≤ e.2 → S (e.2 / 4))
section
variable {S : Int → Prop} {f : Int → Int} {sc sc' : Int → Int → Int} {k : Nat}
theorem ps1_neg (hf : ∀ p, 0 ≤ p → 0 ≤ f p) {h : Int} : ps1 f h < 0 ↔ h < 0 := by
  unfold ps1
  split
  · exact Iff.rfl
  · have := hf (h / 4) (by omega)
    omega
theorem ps1_2 (hf : ∀ p, 0 ≤ p → 0 ≤ f p) {h : Int} : ps1 f h = -2 ↔ h = -2 := by
  unfold ps1
  split
  · exact Iff.rfl
  · have := hf (h / 4) (by omega)
    omega
theorem hw_map (hm : mp S f sc sc' k) {p : Int} (hp : S p) : ∀ {q : List (Int × Int)}, alS S q → hw (q.map (ps f)) (f p) = ps1 f (hw q p)
  | [], _ => rfl
  | e :: l, h => by
    have ih := hw_map hm hp (q := l) ⟨fun x hx => h.1 x (List.mem_cons_of_mem _ hx), fun x hx => h.2 x (List.mem_cons_of_mem _ hx)⟩
    show (if f e.1 = f p then ps1 f e.2 else hw (l.map (ps f)) (f p)) = ps1 f (if e.1 = p then e.2 else hw l p)
    by_cases h1 : e.1 = p
    · rw [if_pos (by rw [h1]), if_pos h1]
    · rw [if_neg (fun h2 => h1 (hm.2.2.2.2.2.1 _ _ (h.2 e List.mem_cons_self).1 hp h2)), if_neg h1, ih]
theorem ix_map (hm : mp S f sc sc' k) {p : Int} (hp : S p) : ∀ {q : List (Int × Int)}, alS S q → ix (q.map (ps f)) (f p) = ix q p
  | [], _ => rfl
  | e :: l, h => by
    have ih := ix_map hm hp (q := l) ⟨fun x hx => h.1 x (List.mem_cons_of_mem _ hx), fun x hx => h.2 x (List.mem_cons_of_mem _ hx)⟩
    show (if f e.1 = f p then (0 : Int) else ix (l.map (ps f)) (f p) + 1) = if e.1 = p then (0 : Int) else ix l p + 1
    by_cases h1 : e.1 = p
    · rw [if_pos (by rw [h1]), if_pos h1]
    · rw [if_neg (fun h2 => h1 (hm.2.2.2.2.2.1 _ _ (h.2 e List.mem_cons_self).1 hp h2)), if_neg h1, ih]
theorem nbr_map (hm : mp S f sc sc' k) {p : Int} (hp : S p) {q : List (Int × Int)} (h : alS S q) : nbr (q.map (ps f)) (f p) = nbr q p := by
  unfold nbr
  rw [hw_map hm hp h, ix_map hm hp h]
  by_cases h1 : hw q p = -2
  · rw [if_pos h1, if_pos ((ps1_2 hm.2.2.2.1).mpr h1)]
  · rw [if_neg h1, if_neg (fun h2 => h1 ((ps1_2 hm.2.2.2.1).mp h2))]
theorem alS_bs (hm : mp S f sc sc' k) {q : List (Int × Int)} {pl x : Int} (h : alS S q) (hp : S pl) (hx : 0 ≤ x ∧ x < k) (hx4 : x < 4) : alS S (bs sc q pl x) := by
  have h0 := hm.2.2.1 pl hp
  unfold bs
  split
  · refine ⟨fun e he => ?_, fun e he => ?_⟩
    · rcases List.mem_append.mp he with h1 | h1
      · exact h.1 e h1
      · rw [List.mem_singleton.mp h1]
        show -1 ≤ pl * 4 + x
        omega
    · rcases List.mem_append.mp he with h1 | h1
      · exact h.2 e h1
      · rw [List.mem_singleton.mp h1]
        refine ⟨hm.2.2.2.2.1 pl x hp hx.1 hx.2, fun _ => ?_⟩
        show S ((pl * 4 + x) / 4)
        rw [show (pl * 4 + x) / 4 = pl by omega]
        exact hp
  · exact h
theorem bs_map (hm : mp S f sc sc' k) {q : List (Int × Int)} {pl x : Int} (h : alS S q) (hp : S pl) (hx : 0 ≤ x ∧ x < k) (hx4 : x < 4) : bs sc' (q.map (ps f)) (f pl) x = (bs sc q pl x).map (ps f) := by
  have h0 := hm.2.2.1 pl hp
  have hS := hm.2.2.2.2.1 pl x hp hx.1 hx.2
  have hc := hm.2.2.2.2.2.2 pl x hp hx.1 hx.2
  unfold bs
  rw [hc, hw_map hm hS h]
  by_cases h1 : hw q (sc pl x) = -2
  · rw [if_pos h1, if_pos ((ps1_2 hm.2.2.2.1).mpr h1), List.map_append]
    have : ps f (sc pl x, pl * 4 + x) = (f (sc pl x), f pl * 4 + x) := by
      unfold ps ps1
      rw [if_neg (show ¬ (sc pl x, pl * 4 + x).2 < 0 by show ¬ pl * 4 + x < 0; omega)]
      show (f (sc pl x), f ((pl * 4 + x) / 4) * 4 + (pl * 4 + x) % 4) = _
      rw [show (pl * 4 + x) / 4 = pl by omega, show (pl * 4 + x) % 4 = x by omega]
    rw [List.map_cons, List.map_nil, this]
  · rw [if_neg h1, if_neg (fun h2 => h1 ((ps1_2 hm.2.2.2.1).mp h2))]
theorem br_map (hm : mp S f sc sc' k) (hk : k ≤ 4) {q : List (Int × Int)} {pl : Int} (h : alS S q) (hp : S pl) : ∀ n : Nat, n ≤ k → br sc' (q.map (ps f)) (f pl) n = (br sc q pl n).map (ps f) ∧ alS S (br sc q pl n)
  | 0, _ => ⟨rfl, h⟩
  | n + 1, hn => by
    obtain ⟨h1, h2⟩ := br_map hm hk h hp n (by omega)
    show bs sc' (br sc' (q.map (ps f)) (f pl) n) (f pl) n = (bs sc (br sc q pl n) pl n).map (ps f) ∧ alS S (bs sc (br sc q pl n) pl n)
    rw [h1]
    exact ⟨bs_map hm h2 hp (by omega) (by omega), alS_bs hm h2 hp (by omega) (by omega)⟩
theorem bf_map (hm : mp S f sc sc' k) (hk : k ≤ 4) : ∀ i : Nat, bf sc' k i = (bf sc k i).map (ps f) ∧ alS S (bf sc k i)
  | 0 => by
    refine ⟨?_, fun e he => ?_, fun e he => ?_⟩
    · show [(0, -1)] = [(f 0, ps1 f (-1))]
      rw [hm.2.1]
      rfl
    · have : e = (0, -1) := List.mem_singleton.mp he
      rw [this]
      exact Int.le_refl _
    · have : e = (0, -1) := List.mem_singleton.mp he
      rw [this]
      exact ⟨hm.1, fun h => by exfalso; have h : (0 : Int) ≤ -1 := h; omega⟩
  | i + 1 => by
    obtain ⟨h1, h2⟩ := bf_map hm hk i
    unfold bf
    rw [h1, List.getElem?_map]
    cases he : (bf sc k i)[i]? with
    | none =>
      exact ⟨rfl, h2⟩
    | some e =>
      have hS := (h2.2 e (List.mem_of_getElem? he)).1
      exact br_map hm hk h2 hS k (Nat.le_refl _)
theorem alS.par {q : List (Int × Int)} (h : alS S q) {p : Int} (hn : 0 ≤ hw q p) : S (hw q p / 4) := by
  have h1 := hw_mem (q := q) (p := p) (by omega)
  exact (h.2 _ h1).2 hn
theorem ln_map (hm : mp S f sc sc' k) {q : List (Int × Int)} (h : alS S q) : ∀ (n : Nat) (p : Int), S p → ln (q.map (ps f)) n (f p) = ln q n p
  | 0, _, _ => rfl
  | n + 1, p, hp => by
    unfold ln
    rw [hw_map hm hp h]
    by_cases h1 : hw q p < 0
    · rw [if_pos h1, if_pos ((ps1_neg hm.2.2.2.1).mpr h1)]
    · rw [if_neg h1, if_neg (fun h2 => h1 ((ps1_neg hm.2.2.2.1).mp h2))]
      have h3 := h.par (p := p) (by omega)
      have : ps1 f (hw q p) / 4 = f (hw q p / 4) := by
        unfold ps1
        rw [if_neg h1]
        omega
      rw [this, ln_map hm h n _ h3]
theorem pa_map (hm : mp S f sc sc' k) {q : List (Int × Int)} (h : alS S q) : ∀ (m n : Nat) (p : Int), S p → m ≤ ln q n p → pa (q.map (ps f)) m (f p) = f (pa q m p) ∧ S (pa q m p)
  | 0, _, p, hp, _ => ⟨rfl, hp⟩
  | m + 1, 0, p, hp, hn => by
    have hn : m + 1 ≤ 0 := hn
    omega
  | m + 1, n + 1, p, hp, hn => by
    unfold ln at hn
    by_cases h1 : hw q p < 0
    · rw [if_pos h1] at hn
      omega
    · rw [if_neg h1] at hn
      have h3 := h.par (p := p) (by omega)
      have : ps1 f (hw q p) / 4 = f (hw q p / 4) := by
        unfold ps1
        rw [if_neg h1]
        omega
      unfold pa
      rw [hw_map hm hp h, this]
      exact pa_map hm h m n _ h3 (by omega)
theorem pic_map (hm : mp S f sc sc' k) {q : List (Int × Int)} (h : alS S q) {p : Int} (hp : S p) {j : Int} (hlast : 0 ≤ j ∧ j < ln q 1296 p → 0 ≤ hw q (pa q (ln q 1296 p - 1 - j.toNat) p)) : pic (q.map (ps f)) (f p) j = pic q p j := by
  unfold pic
  rw [ln_map hm h 1296 p hp]
  by_cases h1 : j = -1
  · rw [if_pos h1, if_pos h1]
  · rw [if_neg h1, if_neg h1]
    by_cases h2 : 0 ≤ j ∧ j < ln q 1296 p
    · rw [if_pos h2, if_pos h2]
      have h4 := hlast h2
      obtain ⟨h3, h5⟩ := pa_map hm h (ln q 1296 p - 1 - j.toNat) 1296 p hp (by omega)
      rw [h3, hw_map hm h5 h]
      unfold ps1
      rw [if_neg (by omega)]
      omega
    · rw [if_neg h2, if_neg h2]
theorem fb_map {b b' : Int → Int} : ∀ {q : List (Int × Int)}, (∀ e ∈ q, 0 ≤ e.1 ∧ (b' (f e.1) = 1 ↔ b e.1 = 1)) → fb b' (q.map (ps f)) = if fb b q = -9 then -9 else f (fb b q)
  | [], _ => rfl
  | e :: l, h => by
    have ih := fb_map (q := l) (b := b) (b' := b') (fun x hx => h x (List.mem_cons_of_mem _ hx))
    have he := h e List.mem_cons_self
    show (if b' (f e.1) = 1 then f e.1 else fb b' (l.map (ps f))) = if (if b e.1 = 1 then e.1 else fb b l) = -9 then -9 else f (if b e.1 = 1 then e.1 else fb b l)
    by_cases h1 : b e.1 = 1
    · rw [if_pos h1, if_pos (he.2.mpr h1), if_neg (by omega)]
    · rw [if_neg h1, if_neg (fun h2 => h1 (he.2.mp h2)), ih]
end
