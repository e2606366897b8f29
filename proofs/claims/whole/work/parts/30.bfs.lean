/-! ===== walks by breadth, as mathematics ===== -/
/-- how a place was met: -2 not at all -/
def hw : List (Int × Int) → Int → Int
  | [], _ => -2
  | e :: l, p => if e.1 = p then e.2 else hw l p
def hok (q : List (Int × Int)) : Prop := ∀ e ∈ q, -1 ≤ e.2
theorem hw_none {p : Int} : ∀ {q : List (Int × Int)}, hok q → (hw q p = -2 ↔ ∀ e ∈ q, e.1 ≠ p)
  | [], _ => by simp [hw]
  | e :: l, h => by
    have ih := hw_none (p := p) (q := l) (fun x hx => h x (List.mem_cons_of_mem _ hx))
    have he := h e List.mem_cons_self
    unfold hw
    split
    · rename_i h1
      constructor
      · intro h2
        omega
      · intro h2
        exact absurd h1 (h2 e List.mem_cons_self)
    · rename_i h1
      rw [ih]
      constructor
      · intro h2 x hx
        rcases List.mem_cons.mp hx with rfl | hx
        · exact h1
        · exact h2 x hx
      · intro h2 x hx
        exact h2 x (List.mem_cons_of_mem _ hx)
theorem hw_mem {p : Int} : ∀ {q : List (Int × Int)}, hw q p ≠ -2 → (p, hw q p) ∈ q
  | [], h => by simp [hw] at h
  | e :: l, h => by
    by_cases h1 : e.1 = p
    · have : hw (e :: l) p = e.2 := by
        unfold hw
        rw [if_pos h1]
      rw [this, ← h1]
      exact List.mem_cons_self
    · have h2 : hw (e :: l) p = hw l p := by
        conv => lhs; unfold hw
        rw [if_neg h1]
      rw [h2] at h ⊢
      exact List.mem_cons_of_mem _ (hw_mem h)
theorem hw_ge {p : Int} {q : List (Int × Int)} (h : hok q) : -2 ≤ hw q p := by
  by_cases h1 : hw q p = -2
  · omega
  · have := h _ (hw_mem h1)
    show -2 ≤ hw q p
    have h2 : -1 ≤ hw q p := this
    omega
theorem hw_app {p p0 h0 : Int} : ∀ {q : List (Int × Int)}, hok q → hw (q ++ [(p0, h0)]) p = if hw q p = -2 then (if p0 = p then h0 else -2) else hw q p
  | [], _ => by simp [hw]
  | e :: l, h => by
    have ih := hw_app (p := p) (p0 := p0) (h0 := h0) (q := l) (fun x hx => h x (List.mem_cons_of_mem _ hx))
    have he := h e List.mem_cons_self
    show (if e.1 = p then e.2 else hw (l ++ [(p0, h0)]) p) = if (if e.1 = p then e.2 else hw l p) = -2 then _ else (if e.1 = p then e.2 else hw l p)
    by_cases h1 : e.1 = p
    · rw [if_pos h1, if_pos h1, if_neg (by omega)]
    · rw [if_neg h1, if_neg h1, ih]
/-- a letter from a place; all letters from it; the first i places of the list gone through -/
def bs (sc : Int → Int → Int) (q : List (Int × Int)) (pl x : Int) : List (Int × Int) := if hw q (sc pl x) = -2 then q ++ [(sc pl x, pl * 4 + x)] else q
def br (sc : Int → Int → Int) (q : List (Int × Int)) (pl : Int) : Nat → List (Int × Int)
  | 0 => q
  | n + 1 => bs sc (br sc q pl n) pl n
def bf (sc : Int → Int → Int) (k : Nat) : Nat → List (Int × Int)
  | 0 => [(0, -1)]
  | i + 1 => match (bf sc k i)[i]? with
    | some e => br sc (bf sc k i) e.1 k
    | none => bf sc k i
/-- what such a list is -/
def bok (NS : Int) (q : List (Int × Int)) : Prop := hok q ∧ (q.map Prod.fst).Nodup ∧ (∀ e ∈ q, 0 ≤ e.1 ∧ e.1 < NS) ∧ q[0]? = some (0, -1) ∧ (∀ i : Nat, ∀ e, q[i]? = some e → i ≠ 0 → ∃ j : Nat, ∃ e', j < i ∧ q[j]? = some e' ∧ 0 ≤ e.2 ∧ e.2 / 4 = e'.1)
theorem bok.len {NS : Int} {q : List (Int × Int)} (h : bok NS q) : 0 < q.length := by
  have := h.2.2.2.1
  exact (List.getElem?_eq_some_iff.mp this).1
theorem ph_ : ∀ (n : Nat) (l : List Int), l.Nodup → (∀ x ∈ l, 0 ≤ x ∧ x < n) → l.length ≤ n
  | 0, l, _, h => by
    cases l with
    | nil => simp
    | cons x l =>
      have := h x List.mem_cons_self
      omega
  | n + 1, l, hd, h => by
    have h1 : (l.filter (fun x => x ≠ (n : Int))).length ≤ n := ph_ n _ (hd.filter _) (fun x hx => by
      obtain ⟨a, b⟩ := List.mem_filter.mp hx
      have := h x a
      have b' : x ≠ (n : Int) := by simpa using b
      omega)
    have h2 : l.length ≤ (l.filter (fun x => x ≠ (n : Int))).length + 1 := by
      clear h1 h
      induction l with
      | nil => simp
      | cons x l ih =>
        have hd' := List.nodup_cons.mp hd
        by_cases hx : x = (n : Int)
        · have e1 : l.filter (fun x => x ≠ (n : Int)) = l := by
            refine List.filter_eq_self.mpr (fun y hy => ?_)
            have : y ≠ (n : Int) := fun e => hd'.1 (by rw [hx, ← e]; exact hy)
            simpa using this
          rw [List.filter_cons]
          simp only [hx, ne_eq, not_true_eq_false, decide_false, Bool.false_eq_true, if_false]
          have e2 : (l.filter (fun x => decide ¬ x = (n : Int))) = l := e1
          rw [e2]
          simp
        · rw [List.filter_cons]
          have : (decide (x ≠ (n : Int))) = true := by simpa using hx
          rw [if_pos this]
          have := ih hd'.2
          simp only [List.length_cons]
          omega
    omega
theorem bok.bound {NS : Nat} {q : List (Int × Int)} (h : bok NS q) : q.length ≤ NS := by
  have := ph_ NS (q.map Prod.fst) h.2.1 (fun x hx => by
    obtain ⟨e, he, rfl⟩ := List.mem_map.mp hx
    exact h.2.2.1 e he)
  simpa using this
theorem bok_bs {NS : Int} {q : List (Int × Int)} {sc : Int → Int → Int} {pl x : Int} {j : Nat} {h0 : Int} (h : bok NS q) (hj : q[j]? = some (pl, h0)) (hx : 0 ≤ x ∧ x < 4) (hs : 0 ≤ sc pl x ∧ sc pl x < NS) : bok NS (bs sc q pl x) := by
  unfold bs
  split
  · rename_i hn
    have hpl := h.2.2.1 _ (List.mem_of_getElem? hj)
    have hnot := (hw_none h.1).mp hn
    refine ⟨fun e he => ?_, ?_, fun e he => ?_, ?_, fun i e hi h0i => ?_⟩
    · rcases List.mem_append.mp he with q1 | q1
      · exact h.1 e q1
      · rw [List.mem_singleton.mp q1]
        show -1 ≤ pl * 4 + x
        have : 0 ≤ pl := hpl.1
        omega
    · rw [List.map_append, List.nodup_append]
      refine ⟨h.2.1, by simp, fun a ha b hb => ?_⟩
      obtain ⟨e, he, rfl⟩ := List.mem_map.mp ha
      have hb' : b = sc pl x := by simpa using hb
      rw [hb']
      exact hnot e he
    · rcases List.mem_append.mp he with q1 | q1
      · exact h.2.2.1 e q1
      · rw [List.mem_singleton.mp q1]
        exact hs
    · rw [List.getElem?_append_left h.len]
      exact h.2.2.2.1
    · by_cases hlt : i < q.length
      · rw [List.getElem?_append_left hlt] at hi
        obtain ⟨j', e', a1, a2, a3⟩ := h.2.2.2.2 i e hi h0i
        exact ⟨j', e', a1, by rw [List.getElem?_append_left (by omega)]; exact a2, a3⟩
      · have hjl : j < q.length := (List.getElem?_eq_some_iff.mp hj).1
        have hie : i = q.length := by
          have := (List.getElem?_eq_some_iff.mp hi).1
          simp at this
          omega
        subst hie
        rw [List.getElem?_append_right (Nat.le_refl _)] at hi
        simp at hi
        subst hi
        have : 0 ≤ pl := hpl.1
        exact ⟨j, (pl, h0), hjl, by rw [List.getElem?_append_left hjl]; exact hj, by show 0 ≤ pl * 4 + x; omega, by show (pl * 4 + x) / 4 = pl; omega⟩
  · exact h
theorem bs_pre (sc : Int → Int → Int) (q : List (Int × Int)) (pl x : Int) : ∃ t, bs sc q pl x = q ++ t := by
  unfold bs
  split
  · exact ⟨_, rfl⟩
  · exact ⟨[], by simp⟩
theorem br_pre (sc : Int → Int → Int) (q : List (Int × Int)) (pl : Int) : ∀ n : Nat, ∃ t, br sc q pl n = q ++ t
  | 0 => ⟨[], by simp [br]⟩
  | n + 1 => by
    obtain ⟨t, ht⟩ := br_pre sc q pl n
    obtain ⟨t', ht'⟩ := bs_pre sc (br sc q pl n) pl n
    exact ⟨t ++ t', by rw [br, ht', ht, List.append_assoc]⟩
theorem bf_s {sc : Int → Int → Int} {k i : Nat} {e : Int × Int} (h : (bf sc k i)[i]? = some e) : bf sc k (i + 1) = br sc (bf sc k i) e.1 k := by
  conv => lhs; unfold bf
  rw [h]
theorem bf_n {sc : Int → Int → Int} {k i : Nat} (h : (bf sc k i)[i]? = none) : bf sc k (i + 1) = bf sc k i := by
  conv => lhs; unfold bf
  rw [h]
theorem bf_pre (sc : Int → Int → Int) (k i : Nat) : ∃ t, bf sc k (i + 1) = bf sc k i ++ t := by
  cases h : (bf sc k i)[i]? with
  | some e =>
    rw [bf_s h]
    exact br_pre sc _ _ _
  | none => exact ⟨[], by rw [bf_n h, List.append_nil]⟩
theorem pre_at {q t : List (Int × Int)} {i : Nat} {e : Int × Int} (h : q[i]? = some e) : (q ++ t)[i]? = some e := by
  rw [List.getElem?_append_left (List.getElem?_eq_some_iff.mp h).1]
  exact h
theorem bok_br {NS : Int} {q : List (Int × Int)} {sc : Int → Int → Int} {pl : Int} {j : Nat} {h0 : Int} (h : bok NS q) (hj : q[j]? = some (pl, h0)) : ∀ n : Nat, n ≤ 4 → (∀ x : Int, 0 ≤ x → x < n → 0 ≤ sc pl x ∧ sc pl x < NS) → bok NS (br sc q pl n)
  | 0, _, _ => h
  | n + 1, hn, hs => by
    have ih := bok_br h hj n (by omega) (fun x h0 h1 => hs x h0 (by omega))
    obtain ⟨t, ht⟩ := br_pre sc q pl n
    exact bok_bs (j := j) (h0 := h0) ih (by rw [ht]; exact pre_at hj) (by omega) (hs n (by omega) (by omega))
theorem bok_0 {NS : Int} (h : 0 < NS) : bok NS [(0, -1)] := by
  refine ⟨fun e he => ?_, by simp, fun e he => ?_, rfl, fun i e hi h0 => ?_⟩
  · rw [List.mem_singleton.mp he]
    show (-1 : Int) ≤ -1
    omega
  · rw [List.mem_singleton.mp he]
    exact ⟨by show (0 : Int) ≤ 0; omega, h⟩
  · have := (List.getElem?_eq_some_iff.mp hi).1
    simp at this
    omega
theorem bok_bf {NS : Int} {sc : Int → Int → Int} {k : Nat} (hN : 0 < NS) (hk : k ≤ 4) (hs : ∀ p x : Int, 0 ≤ p → p < NS → 0 ≤ x → x < k → 0 ≤ sc p x ∧ sc p x < NS) : ∀ i : Nat, bok NS (bf sc k i)
  | 0 => bok_0 hN
  | i + 1 => by
    have ih := bok_bf hN hk hs i
    unfold bf
    split
    · rename_i e he
      have hb := ih.2.2.1 e (List.mem_of_getElem? he)
      exact bok_br (h0 := e.2) ih he k hk (fun x h0 h1 => hs e.1 x hb.1 hb.2 h0 h1)
    · cases i <;> exact ih
theorem bf_fix {sc : Int → Int → Int} {k i : Nat} (h : (bf sc k i).length ≤ i) : ∀ d : Nat, bf sc k (i + d) = bf sc k i
  | 0 => rfl
  | d + 1 => by
    have ih := bf_fix h d
    have hn : (bf sc k (i + d))[i + d]? = none := List.getElem?_eq_none (by rw [ih]; omega)
    rw [← ih]
    exact bf_n hn
theorem bf_end {sc : Int → Int → Int} {k i n : Nat} (h : (bf sc k i).length ≤ i) (hin : i ≤ n) : bf sc k n = bf sc k i := by
  rw [show n = i + (n - i) by omega]
  exact bf_fix h _
