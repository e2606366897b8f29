/-! ===== a sentence of a kind: the names of the reference and the points of the class ===== -/
def kval (kind a k : Int) : Prop := (0 ≤ kind ∧ kind ≤ 7) ∧ (kind = 2 ∨ kind = 4 ∨ kind = 5 ∨ kind = 6 → 0 ≤ a ∧ a < k) ∧ (kind = 3 → 1 ≤ a ∧ a ≤ 6)
def vn (kind a k n : Int) : Prop := (kind = 1 ∧ ((0 ≤ n ∧ n < k) ∨ n = 8)) ∨ ((kind = 2 ∨ kind = 6) ∧ (n = 0 ∨ n = 9)) ∨ (kind = 3 ∧ 0 ≤ n ∧ n < a) ∨ (kind = 4 ∧ (n = 0 ∨ n = 8)) ∨ (kind = 5 ∧ (n = 0 ∨ n = 8 ∨ n = 9)) ∨ (kind = 7 ∧ ((0 ≤ n ∧ n ≤ k) ∨ n = 8)) ∨ (kind = 0 ∧ n = 0)
def th (kind k n : Int) : Int := if kind = 1 then (if n = 8 then k else n) else if kind = 7 then (if n = 8 then k + 1 else n) else if kind = 2 ∨ kind = 6 then (if n = 9 then 1 else 0) else if kind = 4 then (if n = 8 then 1 else 0) else if kind = 5 then (if n = 9 then 1 else if n = 8 then 2 else 0) else n
theorem vn_rng {kind a k n : Int} (hk : 2 ≤ k ∧ k ≤ 4) (hv : kval kind a k) (h : vn kind a k n) : (0 ≤ n ∧ n < 10) ∧ 0 ≤ th kind k n ∧ th kind k n < 6 := by
  unfold kval at hv
  unfold vn at h
  unfold th
  refine ⟨by omega, ?_⟩
  (repeat' split) <;> omega
theorem vn_0 {kind a k : Int} (hk : 2 ≤ k ∧ k ≤ 4) (hv : kval kind a k) : vn kind a k 0 ∧ th kind k 0 = 0 := by
  unfold kval at hv
  refine ⟨by unfold vn; omega, ?_⟩
  unfold th
  (repeat' split) <;> omega
theorem vn_inj {kind a k n m : Int} (hk : 2 ≤ k ∧ k ≤ 4) (hv : kval kind a k) (h : vn kind a k n) (h' : vn kind a k m) (he : th kind k n = th kind k m) : n = m := by
  unfold kval at hv
  unfold vn at h h'
  unfold th at he
  (repeat' split at he) <;> omega
theorem vn_go {kind a k n x : Int} (hk : 2 ≤ k ∧ k ≤ 4) (hv : kval kind a k) (h : vn kind a k n) (hx : 0 ≤ x ∧ x < k) : vn kind a k (mn kind a n x) := by
  unfold kval at hv
  unfold vn at h
  unfold mn
  by_cases h3 : kind = 3
  · subst h3
    have ha := hv.2.2 rfl
    have h1 := Int.emod_nonneg (n + 1) (show a ≠ 0 by omega)
    have h2 := Int.emod_lt_of_pos (n + 1) (show 0 < a by omega)
    rw [if_neg (by omega), if_neg (by omega), if_pos rfl]
    unfold vn
    omega
  · rw [if_neg h3]
    unfold vn
    (repeat' split) <;> omega
theorem vn_th {kind a k n x : Int} (hk : 2 ≤ k ∧ k ≤ 4) (hv : kval kind a k) (h : vn kind a k n) (hx : 0 ≤ x ∧ x < k) : kn kind a (th kind k n) x k = th kind k (mn kind a n x) := by
  unfold kval at hv
  unfold vn at h
  have hc : kind = 0 ∨ kind = 1 ∨ kind = 2 ∨ kind = 3 ∨ kind = 4 ∨ kind = 5 ∨ kind = 6 ∨ kind = 7 := by omega
  rcases hc with rfl | rfl | rfl | rfl | rfl | rfl | rfl | rfl
  · unfold kn th mn
    simp <;> omega
  · unfold kn th mn
    simp only [if_true]
    (repeat' split) <;> omega
  · unfold kn th mn
    simp
    try ((repeat' split) <;> omega)
  · have ha := hv.2.2 rfl
    have h4 : (n + 1) % a = if n + 1 < a then n + 1 else 0 := by
      by_cases h5 : n + 1 < a
      · rw [if_pos h5, Int.emod_eq_of_lt (by omega) h5]
      · rw [if_neg h5, show n + 1 = a by omega, Int.emod_self]
    unfold kn th mn
    simp
    rw [h4]
  · unfold kn th mn
    simp
    try ((repeat' split) <;> omega)
  · unfold kn th mn
    simp
    try ((repeat' split) <;> omega)
  · unfold kn th mn
    simp
    try ((repeat' split) <;> omega)
  · unfold kn th mn
    simp
    try ((repeat' split) <;> omega)
theorem vn_h {kind a k n : Int} (hk : 2 ≤ k ∧ k ≤ 4) (hv : kval kind a k) (h : vn kind a k n) : kh kind (th kind k n) k = mh kind n := by
  unfold kval at hv
  unfold vn at h
  have hc : kind = 0 ∨ kind = 1 ∨ kind = 2 ∨ kind = 3 ∨ kind = 4 ∨ kind = 5 ∨ kind = 6 ∨ kind = 7 := by omega
  rcases hc with rfl | rfl | rfl | rfl | rfl | rfl | rfl | rfl
  all_goals
    unfold kh th mh
    simp
    try ((repeat' split) <;> omega)
theorem mn_mp {kind a k : Int} (hk : 2 ≤ k ∧ k ≤ 4) (hv : kval kind a k) {A B : Sn} (hA : ∀ p x : Int, 0 ≤ p ∧ p < 6 → 0 ≤ x ∧ x < k → A.1 p x = kn kind a p x k) (hB : ∀ x : Int, 0 ≤ x ∧ x < k → B.1 0 x = 0) : mp (vn kind a k) (fun n => th kind k n * 6) (mn kind a) (ap A B) k.toNat := by
  have h0 := vn_0 hk hv
  refine ⟨h0.1, ?_, fun p hp => (vn_rng hk hv hp).1.1, fun p hp => ?_, fun p x hp h1 h2 => vn_go hk hv hp ⟨h1, by omega⟩, fun p q hp hq he => ?_, fun p x hp h1 h2 => ?_⟩
  · show th kind k 0 * 6 = 0
    rw [h0.2]
    rfl
  · show 0 ≤ th kind k p * 6
    have : 0 ≤ th kind k p := by
      unfold th
      (repeat' split) <;> omega
    omega
  · have he : th kind k p * 6 = th kind k q * 6 := he
    exact vn_inj hk hv hp hq (by omega)
  · have hx : 0 ≤ x ∧ x < k := ⟨h1, by omega⟩
    have hr := vn_rng hk hv hp
    show ap A B (th kind k p * 6) x = th kind k (mn kind a p x) * 6
    unfold ap
    rw [show th kind k p * 6 / 6 = th kind k p by omega, show th kind k p * 6 % 6 = 0 by omega, hA _ x hr.2 hx, hB x hx, vn_th hk hv hp hx]
    omega
/-- what is made -/
def mq (kind a k : Int) : List (Int × Int) := bf (mn kind a) k.toNat 36
def mk_ (kind a k : Int) : Sn := (fun p x => if p < (mq kind a k).length ∧ x < k then nbr (mq kind a k) (mn kind a ((mq kind a k).getD p.toNat (0, 0)).1 x) else 0, fun p => if p < (mq kind a k).length then mh kind ((mq kind a k).getD p.toNat (0, 0)).1 else 1)
theorem mn_ok {kind a k : Int} (hk : 2 ≤ k ∧ k ≤ 4) (hv : kval kind a k) (i : Nat) : bok ((10 : Nat) : Int) (bf (mn kind a) k.toNat i) ∧ (bf (mn kind a) k.toNat i).length ≤ 6 ∧ alS (vn kind a k) (bf (mn kind a) k.toNat i) := by
  have hm := mn_mp hk hv (A := (fun p x => kn kind a p x k, fun _ => 0)) (B := (fun _ _ => 0, fun _ => 0)) (fun _ _ _ _ => rfl) (fun _ _ => rfl)
  obtain ⟨-, hal⟩ := bf_map hm (by omega) i
  have hb : ∀ i : Nat, bok ((10 : Nat) : Int) (bf (mn kind a) k.toNat i) ∧ alS (vn kind a k) (bf (mn kind a) k.toNat i) := by
    intro i
    induction i with
    | zero => exact ⟨⟨fun e he => by rw [List.mem_singleton.mp he]; exact Int.le_refl _, by simp [bf], fun e he => by rw [List.mem_singleton.mp he]; exact ⟨Int.le_refl _, by show (0 : Int) < ((10 : Nat) : Int); omega⟩, rfl, fun j e he hj => by
        cases j with
        | zero => exact absurd rfl hj
        | succ j => simp [bf] at he⟩, (bf_map hm (by omega) 0).2⟩
    | succ i ih =>
      refine ⟨?_, (bf_map hm (by omega) (i + 1)).2⟩
      unfold bf
      cases he : (bf (mn kind a) k.toNat i)[i]? with
      | none => exact ih.1
      | some e =>
        have hS := (ih.2.2 e (List.mem_of_getElem? he)).1
        exact bok_br (h0 := e.2) (sc := mn kind a) ih.1 he k.toNat (by omega) (fun y h0 h1 => by
          have h2 := (vn_rng hk hv (vn_go hk hv hS (x := y) ⟨h0, by omega⟩)).1
          exact ⟨h2.1, h2.2⟩)
  refine ⟨(hb i).1, ?_, hal⟩
  have h6 := ph_ 6 ((bf (mn kind a) k.toNat i).map (fun e => th kind k e.1)) (by
    have hn := (hb i).1.2.1
    have : (bf (mn kind a) k.toNat i).map (fun e => th kind k e.1) = ((bf (mn kind a) k.toNat i).map Prod.fst).map (th kind k) := by
      rw [List.map_map]
      rfl
    rw [this]
    refine List.Pairwise.map (th kind k) ?_ (List.Pairwise.and_mem.mp hn)
    intro x y hxy he
    obtain ⟨hx, hy, hne⟩ := hxy
    obtain ⟨ex, hex, rfl⟩ := List.mem_map.mp hx
    obtain ⟨ey, hey, rfl⟩ := List.mem_map.mp hy
    exact hne (vn_inj hk hv (hal.2 ex hex).1 (hal.2 ey hey).1 he)) (fun x hx => by
      obtain ⟨e, he, rfl⟩ := List.mem_map.mp hx
      exact (vn_rng hk hv (hal.2 e he).1).2)
  simpa using h6
