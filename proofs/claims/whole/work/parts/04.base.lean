/-! ===== numbers ===== -/
theorem am_toInt {x : Int} (h : am_i32 x) : (Int32.ofInt x).toInt = x := Int32.toInt_ofInt_of_le (by have := h.1; omega) (by have := h.2; omega)
theorem am_toInt64 {x : Int} (h : am_i64 x) : (Int64.ofInt x).toInt = x := Int64.toInt_ofInt_of_le (by have := h.1; omega) (by have := h.2; omega)
theorem am_lt {x y : Int} (hx : am_i32 x) (hy : am_i32 y) : (Int32.ofInt x < Int32.ofInt y) ↔ x < y := by rw [Int32.lt_iff_toInt_lt, am_toInt hx, am_toInt hy]
theorem am_le {x y : Int} (hx : am_i32 x) (hy : am_i32 y) : (Int32.ofInt x ≤ Int32.ofInt y) ↔ x ≤ y := by rw [Int32.le_iff_toInt_le, am_toInt hx, am_toInt hy]
theorem am_eq {x y : Int} (hx : am_i32 x) (hy : am_i32 y) : (Int32.ofInt x = Int32.ofInt y) ↔ x = y := by
  constructor
  · intro h
    rw [← am_toInt hx, ← am_toInt hy, h]
  · rintro rfl
    rfl
theorem am_lt64 {x y : Int} (hx : am_i64 x) (hy : am_i64 y) : (Int64.ofInt x < Int64.ofInt y) ↔ x < y := by rw [Int64.lt_iff_toInt_lt, am_toInt64 hx, am_toInt64 hy]
theorem am_eq64 {x y : Int} (hx : am_i64 x) (hy : am_i64 y) : (Int64.ofInt x = Int64.ofInt y) ↔ x = y := by
  constructor
  · intro h
    rw [← am_toInt64 hx, ← am_toInt64 hy, h]
  · rintro rfl
    rfl
theorem am_clamp {x : Int} (h : am_i32 x) : (Int32.ofInt x).toNatClampNeg = x.toNat := Int32.toNatClampNeg_ofInt_of_le (by have := h.1; omega) (by have := h.2; omega)
theorem am_in {x : Int} {n : Nat} (h : am_i32 x) (h0 : 0 ≤ x) (h1 : x < n) : vp_in (Int32.ofInt x) n := by
  unfold vp_in
  rw [am_clamp h, Int32.lt_iff_toInt_lt, am_toInt h]
  show ¬ (x < (0 : Int32).toInt ∨ _)
  rw [show (0 : Int32).toInt = 0 from rfl]
  omega
theorem am_i32_0 : am_i32 0 := by unfold am_i32; omega
/-! ===== the world's list ===== -/
theorem am_wo_at {G : am_G} {K : am_K} {M : am_M} {i : Nat} {e : am_C} (h : K.1[i]? = some e) : (am_wo G K M)[i]? = some (G.1 i, am_en G M i e) := by
  have hi : i < K.1.length := (List.getElem?_eq_some_iff.mp h).1
  simp [am_wo, List.getElem?_map, List.getElem?_range hi, List.getD, h]
theorem am_wo_len {G : am_G} {K : am_K} {M : am_M} : (am_wo G K M).length = K.1.length := by simp [am_wo]
theorem am_kd_at {K : am_K} {a : Int} {e : am_C} (h : am_kd K a = some e) : 0 ≤ a ∧ K.1[a.toNat]? = some e ∧ a.toNat < K.1.length ∧ ((a.toNat : Nat) : Int) = a := by
  unfold am_kd at h
  split at h
  · cases h
  · rename_i h0
    exact ⟨by omega, h, (List.getElem?_eq_some_iff.mp h).1, by omega⟩
theorem am_getD {l : List am_C} {i : Nat} {e : am_C} (h : l[i]? = some e) : l.getD i (0, 0, []) = e := by simp [List.getD, h]
theorem am_wo_set {G : am_G} {K K' : am_K} {M M' : am_M} {i : Nat} {e' : am_C} (hl : K'.1.length = K.1.length) (hk : ∀ j : Nat, j ≠ i → K'.1[j]? = K.1[j]?) (hi : K'.1[i]? = some e') (hm : ∀ j : Nat, j ≠ i → M' j = M j) :
    am_wo G K' M' = (am_wo G K M).set i (G.1 i, am_en G M' i e') := by
  apply List.ext_getElem?
  intro n
  by_cases hn : n < K.1.length
  · by_cases hni : n = i
    · subst hni
      rw [List.getElem?_set_self (by rw [am_wo_len]; exact hn), am_wo_at hi]
    · rw [List.getElem?_set_ne (fun h => hni h.symm)]
      obtain ⟨e, he⟩ : ∃ e, K.1[n]? = some e := ⟨_, List.getElem?_eq_getElem hn⟩
      rw [am_wo_at he, am_wo_at ((hk n hni).trans he)]
      congr 2
      unfold am_en
      have hv : am_fv G M' n e = am_fv G M n e := by
        funext k
        unfold am_fv
        rw [hm n hni]
      rw [hv, hm n hni]
  · rw [List.getElem?_eq_none (by rw [am_wo_len]; omega), List.getElem?_eq_none (by rw [List.length_set, am_wo_len]; omega)]
theorem am_rf_ext {G G' : am_G} {n : Nat} (hG : ∀ i, i < n → G'.1 i = G.1 i ∧ G'.2.1 i = G.2.1 i) {a : Int} (ha : a < (n : Int)) : am_rf G' a = am_rf G a := by
  unfold am_rf
  split
  · rfl
  · rw [(hG a.toNat (by omega)).1]
theorem am_cv_ext {G G' : am_G} {K : am_K} (hG : ∀ i, i < K.1.length → G'.1 i = G.1 i ∧ G'.2.1 i = G.2.1 i) (hb : G'.2.2 = G.2.2) {v : am_V} (hv : am_ok K v) : am_cv G' v = am_cv G v := by
  match v, hv with
  | .inl x, _ => rfl
  | .inr (.inl x), _ => rfl
  | .inr (.inr a), hv =>
    show (if a = -2 then Value.ref G'.2.2 else va_rf (am_rf G' a)) = (if a = -2 then Value.ref G.2.2 else va_rf (am_rf G a))
    rw [hb, am_rf_ext hG hv.2]
theorem am_getD_mem {l : List Int} {k : Nat} : l.getD k (-1) = -1 ∨ l.getD k (-1) ∈ l := by
  by_cases h : k < l.length
  · right
    simp [List.getD, List.getElem?_eq_getElem h]
  · left
    simp [List.getD, List.getElem?_eq_none (Nat.le_of_not_lt h)]
theorem am_en_ext {G G' : am_G} {K : am_K} {M M' : am_M} (hG : ∀ i, i < K.1.length → G'.1 i = G.1 i ∧ G'.2.1 i = G.2.1 i) (hM : am_mok K M) {i : Nat} {e : am_C} (he : K.1[i]? = some e) (hm : M' i = M i) : am_en G' M' i e = am_en G M i e := by
  obtain ⟨h1, h2, h3⟩ := hM i e he
  have hi : i < K.1.length := (List.getElem?_eq_some_iff.mp he).1
  have href : ∀ k : Nat, am_rf G' (e.2.2.getD k (-1)) = am_rf G (e.2.2.getD k (-1)) := by
    intro k
    rcases am_getD_mem (l := e.2.2) (k := k) with h | h
    · rw [h]
      rfl
    · exact am_rf_ext hG (h1 _ h).2
  unfold am_en
  split
  · rename_i h10
    congr 2
    refine List.map_congr_left (fun k _ => ?_)
    unfold am_fv
    rw [hm]
    split
    · rename_i hf
      rw [am_rf_ext hG (h3 k h10 hf).2]
    · rw [href]
  · rw [(hG i hi).2, hm]
    simp only [href]
theorem am_wo_push {G G' : am_G} {K K' : am_K} {M M' : am_M} {e : am_C} (hK : K'.1 = K.1 ++ [e]) (hG : ∀ i, i < K.1.length → G'.1 i = G.1 i ∧ G'.2.1 i = G.2.1 i) (hM : am_mok K M) (hm : ∀ j : Nat, j < K.1.length → M' j = M j) :
    am_wo G' K' M' = am_wo G K M ++ [(G'.1 K.1.length, am_en G' M' K.1.length e)] := by
  apply List.ext_getElem?
  intro n
  by_cases hn : n < K.1.length
  · obtain ⟨e0, he⟩ : ∃ e, K.1[n]? = some e := ⟨_, List.getElem?_eq_getElem hn⟩
    have he' : K'.1[n]? = some e0 := by rw [hK, List.getElem?_append_left hn]; exact he
    rw [List.getElem?_append_left (by rw [am_wo_len]; exact hn), am_wo_at he, am_wo_at he', am_en_ext hG hM he (hm n hn), (hG n hn).1]
  · by_cases hn2 : n = K.1.length
    · subst hn2
      have he' : K'.1[K.1.length]? = some e := by rw [hK, List.getElem?_append_right (Nat.le_refl _)]; simp
      rw [List.getElem?_append_right (by rw [am_wo_len]; exact Nat.le_refl _), am_wo_at he', am_wo_len]
      simp
    · rw [List.getElem?_eq_none (by rw [am_wo_len, hK]; simp; omega), List.getElem?_eq_none (by simp [am_wo_len]; omega)]
theorem am_tys_at {G : am_G} {K : am_K} {i : Nat} {e : am_C} {t : FieldType} (h : K.1[i]? = some e) (ht : am_ty e.1 = some t) : ∃ t0 : Nat, (am_tys G K)[t0]? = some (G.2.1 i, t) := by
  have hi : i < K.1.length := (List.getElem?_eq_some_iff.mp h).1
  have hm : (G.2.1 i, t) ∈ am_tys G K := List.mem_filterMap.mpr ⟨i, List.mem_range.mpr hi, by rw [am_getD h, ht]; rfl⟩
  exact List.getElem?_of_mem hm
theorem am_tys_set {G : am_G} {K K' : am_K} (hl : K'.1.length = K.1.length) (hk : ∀ j : Nat, (K'.1.getD j (0, 0, [])).1 = (K.1.getD j (0, 0, [])).1) : am_tys G K' = am_tys G K := by
  unfold am_tys
  rw [hl]
  simp only [hk]
theorem am_fm_congr {f g : Nat → Option (ClassId × FieldType)} : ∀ (l : List Nat), (∀ a ∈ l, f a = g a) → l.filterMap f = l.filterMap g
  | [], _ => rfl
  | a :: l, h => by
    rw [List.filterMap_cons, List.filterMap_cons, h a List.mem_cons_self, am_fm_congr l (fun b hb => h b (List.mem_cons_of_mem _ hb))]
theorem am_tys_push {G G' : am_G} {K K' : am_K} {e : am_C} (hK : K'.1 = K.1 ++ [e]) (hG : ∀ i, i < K.1.length → G'.1 i = G.1 i ∧ G'.2.1 i = G.2.1 i) :
    am_tys G' K' = am_tys G K ++ ((am_ty e.1).map (fun t => (G'.2.1 K.1.length, t))).toList := by
  unfold am_tys
  have hl : K'.1.length = K.1.length + 1 := by rw [hK]; simp
  rw [hl, List.range_succ, List.filterMap_append]
  congr 1
  · refine am_fm_congr _ (fun i hi => ?_)
    have hi' := List.mem_range.mp hi
    have e1 : K'.1.getD i (0, 0, []) = K.1.getD i (0, 0, []) := by
      rw [hK]
      simp only [List.getD, List.getElem?_append_left hi']
    rw [e1, (hG i hi').2]
  · have e1 : K'.1.getD K.1.length (0, 0, []) = e := by
      rw [hK]
      simp [List.getD]
    rw [List.filterMap_cons, e1]
    cases am_ty e.1 <;> simp
/-! ===== locals ===== -/
/-- the known locals as the kit's list -/
def am_kl (G : am_G) (ls : am_L) : List (Nat × Value) := (List.range ls.length).filterMap (fun i => ((ls[i]?).join).map (fun v => (i, am_cv G v)))
theorem am_kl_mem {G : am_G} {ls : am_L} {i : Nat} {v : Value} : (i, v) ∈ am_kl G ls ↔ ∃ w : am_V, ls[i]? = some (some w) ∧ am_cv G w = v := by
  unfold am_kl
  rw [List.mem_filterMap]
  constructor
  · rintro ⟨j, hj, h⟩
    cases hx : ls[j]? with
    | none => rw [hx] at h; simp at h
    | some o =>
      cases o with
      | none => rw [hx] at h; simp at h
      | some w =>
        rw [hx] at h
        simp at h
        obtain ⟨rfl, rfl⟩ := h
        exact ⟨w, hx, rfl⟩
  · rintro ⟨w, h, rfl⟩
    have hi : i < ls.length := (List.getElem?_eq_some_iff.mp h).1
    exact ⟨i, List.mem_range.mpr hi, by rw [h]; rfl⟩
theorem am_lr_has {G : am_G} {K : am_K} {nL : Nat} {ls : am_L} {rl : Array Slot} (h : am_lr G K nL ls rl) : lv_has rl nL (am_kl G ls) := by
  obtain ⟨h0, h1, h2, h3⟩ := h
  refine ⟨h1, h2, fun q hq => ?_⟩
  obtain ⟨i, v⟩ := q
  obtain ⟨w, hw, rfl⟩ := am_kl_mem.mp hq
  exact (h3 i w hw).1
theorem am_cat {G : am_G} {v : am_V} : (am_cv G v).category = (match v with | .inr (.inl _) => 2 | _ => 1) := by
  match v with
  | .inl x => rfl
  | .inr (.inl x) => rfl
  | .inr (.inr a) =>
    show (if a = -2 then Value.ref G.2.2 else va_rf (am_rf G a)).category = 1
    split
    · rfl
    · cases am_rf G a <;> rfl
/-- a value of one word into a local: a long that begins one place ahead is gone -/
def am_st (ls : am_L) (i : Nat) (v : am_V) : am_L := match i with
  | 0 => ls.set 0 (some v)
  | j + 1 => match ls[j]? with
    | some (some (.inr (.inl _))) => (ls.set j none).set (j + 1) (some v)
    | _ => ls.set (j + 1) (some v)
/-- a long into a local -/
def am_st2 (ls : am_L) (i : Nat) (v : am_V) : am_L := (am_st ls i v).set (i + 1) none
theorem am_st_len {ls : am_L} {i : Nat} {v : am_V} : (am_st ls i v).length = ls.length := by
  unfold am_st
  split
  · simp
  · split <;> simp
theorem am_st_at {ls : am_L} {i : Nat} {v : am_V} {j : Nat} {w : am_V} (hi : i < ls.length) (h : (am_st ls i v)[j]? = some (some w)) :
    (j = i ∧ w = v) ∨ (j ≠ i ∧ ls[j]? = some (some w) ∧ ¬ (j + 1 = i ∧ ∃ x, w = .inr (.inl x))) := by
  by_cases hji : j = i
  · subst hji
    left
    refine ⟨rfl, ?_⟩
    unfold am_st at h
    split at h
    · rw [List.getElem?_set_self hi] at h
      exact (Option.some.inj (Option.some.inj h)).symm
    · split at h
      · rw [List.getElem?_set_self (by simpa using hi)] at h
        exact (Option.some.inj (Option.some.inj h)).symm
      · rw [List.getElem?_set_self hi] at h
        exact (Option.some.inj (Option.some.inj h)).symm
  · right
    refine ⟨hji, ?_⟩
    unfold am_st at h
    split at h
    · rw [List.getElem?_set_ne (fun q => hji q.symm)] at h
      exact ⟨h, fun q => absurd q.1 (by omega)⟩
    · rename_i k
      split at h
      · rename_i x hx
        rw [List.getElem?_set_ne (fun q => hji q.symm)] at h
        by_cases hjk : j = k
        · subst hjk
          have hj : j < ls.length := by omega
          rw [List.getElem?_set_self hj] at h
          cases h
        · rw [List.getElem?_set_ne (fun q => hjk q.symm)] at h
          exact ⟨h, fun q => hjk (by omega)⟩
      · rename_i hx
        rw [List.getElem?_set_ne (fun q => hji q.symm)] at h
        refine ⟨h, fun q => ?_⟩
        obtain ⟨q1, x, rfl⟩ := q
        have : j = k := by omega
        subst this
        exact hx x h
theorem am_lr_st {G : am_G} {K : am_K} {nL : Nat} {ls : am_L} {rl rl' : Array Slot} {i : Nat} {v : am_V} (h : am_lr G K nL ls rl) (hi : i < nL) (hv : am_ok K v)
    (hc : lv_has rl' nL ((i, am_cv G v) :: (am_kl G ls).filter (fun q => !(q.1 == i) && !(q.1 + 1 == i && q.2.category == 2)))) : am_lr G K nL (am_st ls i v) rl' := by
  obtain ⟨h0, h1, h2, h3⟩ := h
  refine ⟨am_st_len.trans h0, hc.1, hc.2.1, fun j w hj => ?_⟩
  rcases am_st_at (by omega) hj with ⟨rfl, rfl⟩ | ⟨a1, a2, a3⟩
  · exact ⟨hc.2.2 (j, am_cv G w) List.mem_cons_self, hv⟩
  · refine ⟨hc.2.2 (j, am_cv G w) (List.mem_cons_of_mem _ (List.mem_filter.mpr ⟨am_kl_mem.mpr ⟨w, a2, rfl⟩, ?_⟩)), (h3 j w a2).2⟩
    have e1 : (j == i) = false := by simpa using a1
    have e2 : (j + 1 == i && (am_cv G w).category == 2) = false := by
      by_cases hj1 : j + 1 = i
      · rw [am_cat]
        match w, a3 with
        | .inl x, _ => simp
        | .inr (.inl x), a3 => exact absurd ⟨hj1, x, rfl⟩ a3
        | .inr (.inr x), _ => simp
      · have : (j + 1 == i) = false := by simpa using hj1
        rw [this]
        rfl
    simp only [e1, e2]
    rfl
theorem am_st2_at {ls : am_L} {i : Nat} {v : am_V} {j : Nat} {w : am_V} (hi : i + 1 < ls.length) (h : (am_st2 ls i v)[j]? = some (some w)) :
    (j = i ∧ w = v) ∨ (j ≠ i ∧ j ≠ i + 1 ∧ ls[j]? = some (some w) ∧ ¬ (j + 1 = i ∧ ∃ x, w = .inr (.inl x))) := by
  unfold am_st2 at h
  by_cases hj : j = i + 1
  · subst hj
    rw [List.getElem?_set_self (by rw [am_st_len]; exact hi)] at h
    cases h
  · rw [List.getElem?_set_ne (fun q => hj q.symm)] at h
    rcases am_st_at (by omega) h with q | ⟨a1, a2, a3⟩
    · exact Or.inl q
    · exact Or.inr ⟨a1, hj, a2, a3⟩
theorem am_lr_st2 {G : am_G} {K : am_K} {nL : Nat} {ls : am_L} {rl rl' : Array Slot} {i : Nat} {v : am_V} (h : am_lr G K nL ls rl) (hi : i + 1 < nL) (hv : am_ok K v)
    (hc : lv_has rl' nL ((i, am_cv G v) :: (am_kl G ls).filter (fun q => !(q.1 == i) && (!(q.1 == i + 1) && !(q.1 + 1 == i && q.2.category == 2))))) : am_lr G K nL (am_st2 ls i v) rl' := by
  obtain ⟨h0, h1, h2, h3⟩ := h
  refine ⟨(List.length_set ..).trans (am_st_len.trans h0), hc.1, hc.2.1, fun j w hj => ?_⟩
  rcases am_st2_at (by omega) hj with ⟨rfl, rfl⟩ | ⟨a1, a0, a2, a3⟩
  · exact ⟨hc.2.2 (j, am_cv G w) List.mem_cons_self, hv⟩
  · refine ⟨hc.2.2 (j, am_cv G w) (List.mem_cons_of_mem _ (List.mem_filter.mpr ⟨am_kl_mem.mpr ⟨w, a2, rfl⟩, ?_⟩)), (h3 j w a2).2⟩
    have e1 : (j == i) = false := by simpa using a1
    have e0 : (j == i + 1) = false := by simpa using a0
    have e2 : (j + 1 == i && (am_cv G w).category == 2) = false := by
      by_cases hj1 : j + 1 = i
      · rw [am_cat]
        match w, a3 with
        | .inl x, _ => simp
        | .inr (.inl x), a3 => exact absurd ⟨hj1, x, rfl⟩ a3
        | .inr (.inr x), _ => simp
      · have : (j + 1 == i) = false := by simpa using hj1
        rw [this]
        rfl
    simp only [e1, e0, e2]
    rfl
theorem am_lr_ext {G G' : am_G} {K K' : am_K} {nL : Nat} {ls : am_L} {rl : Array Slot} (hl : K.1.length ≤ K'.1.length) (hG : ∀ i, i < K.1.length → G'.1 i = G.1 i ∧ G'.2.1 i = G.2.1 i) (hb : G'.2.2 = G.2.2) (h : am_lr G K nL ls rl) : am_lr G' K' nL ls rl := by
  obtain ⟨h0, h1, h2, h3⟩ := h
  refine ⟨h0, h1, h2, fun i v hv => ?_⟩
  obtain ⟨a, b⟩ := h3 i v hv
  refine ⟨by rw [am_cv_ext hG hb b]; exact a, ?_⟩
  match v, b with
  | .inl x, b => exact b
  | .inr (.inl x), b => exact b
  | .inr (.inr x), b => exact ⟨b.1, by have := b.2; omega⟩
theorem am_ok_ext {K K' : am_K} (hl : K.1.length ≤ K'.1.length) {v : am_V} (h : am_ok K v) : am_ok K' v := by
  match v, h with
  | .inl x, b => exact b
  | .inr (.inl x), b => exact b
  | .inr (.inr x), b => exact ⟨b.1, by have := b.2; omega⟩
/-- the memory's one place: it stays well -/
theorem am_mok_up {K : am_K} {M : am_M} {a i v : Int} {e : am_C} (hM : am_mok K M) (ha : am_kd K a = some e) (h64 : am_i64 v) (h32 : e.1 ≠ 13 → am_i32 v) (hr : e.1 < 10 → (∀ k : Nat, (k : Int) = i → am_fk e.1 k = 2 → -1 ≤ v ∧ v < (K.1.length : Int))) : am_mok K (am_up M a i v) := by
  obtain ⟨ha0, ha1, -, ha2⟩ := am_kd_at ha
  intro j e' he'
  obtain ⟨h1, h2, h3⟩ := hM j e' he'
  by_cases hj : (j : Int) = a
  · have : j = a.toNat := by omega
    subst this
    cases ha1.symm.trans he'
    refine ⟨h1, fun q => ?_, fun k h10 hf => ?_⟩
    · unfold am_up
      rw [if_pos hj]
      split
      · exact ⟨h64, h32⟩
      · exact h2 q
    · unfold am_up
      rw [if_pos hj]
      split
      · rename_i hk
        exact hr h10 k hk hf
      · exact h3 k h10 hf
  · refine ⟨h1, fun q => ?_, fun k h10 hf => ?_⟩
    · unfold am_up
      rw [if_neg hj]
      exact h2 q
    · unfold am_up
      rw [if_neg hj]
      exact h3 k h10 hf
