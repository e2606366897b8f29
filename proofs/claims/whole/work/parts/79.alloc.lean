/-! ===== making objects: shapes that grow ===== -/
def KX (ks : List am_C) (i : Nat) (e : am_C) (news : List am_C) : List am_C := ks.set i e ++ news
theorem KX_len (ks : List am_C) (i : Nat) (e : am_C) (news : List am_C) : (KX ks i e news).length = ks.length + news.length := by
  unfold KX
  rw [List.length_append, List.length_set]
theorem KX_app (ks : List am_C) (i : Nat) (e : am_C) (news : List am_C) (x : am_C) : KX ks i e news ++ [x] = KX ks i e (news ++ [x]) := by
  unfold KX
  rw [List.append_assoc]
theorem KX_set {ks : List am_C} {i : Nat} (h : i < ks.length) (e e' : am_C) (news : List am_C) : (KX ks i e news).set i e' = KX ks i e' news := by
  unfold KX
  rw [List.set_append_left _ _ (by rw [List.length_set]; exact h), List.set_set]
theorem KX_setn {ks : List am_C} {i j : Nat} (e e' : am_C) (news : List am_C) : (KX ks i e news).set (ks.length + j) e' = KX ks i e (news.set j e') := by
  unfold KX
  rw [List.set_append_right _ _ (by rw [List.length_set]; omega), List.length_set, show ks.length + j - ks.length = j by omega]
theorem KX_0 {ks : List am_C} {i : Nat} {e : am_C} (h : ks[i]? = some e) : ks = KX ks i e [] := by
  unfold KX
  rw [List.append_nil]
  apply List.ext_getElem?
  intro j
  rw [List.getElem?_set]
  by_cases hj : i = j
  · subst hj
    have := (List.getElem?_eq_some_iff.mp h).1
    rw [if_pos rfl, if_pos this, h]
  · rw [if_neg hj]
theorem KX_this {ks : List am_C} {i : Nat} (h : i < ks.length) (e : am_C) (news : List am_C) : (KX ks i e news)[i]? = some e := by
  unfold KX
  rw [List.getElem?_append_left (by rw [List.length_set]; exact h), List.getElem?_set_self h]
theorem KX_new {ks : List am_C} {i j : Nat} {e x : am_C} {news : List am_C} (h : news[j]? = some x) : (KX ks i e news)[ks.length + j]? = some x := by
  unfold KX
  rw [List.getElem?_append_right (by rw [List.length_set]; omega), List.length_set, show ks.length + j - ks.length = j by omega]
  exact h
theorem KX_nest {ks : List am_C} {i r : Nat} {e x e' : am_C} {news news' : List am_C} (hr : r = ks.length + news.length) : KX (KX ks i e (news ++ [x])) r e' news' = KX ks i e (news ++ e' :: news') := by
  subst hr
  show (KX ks i e (news ++ [x])).set (ks.length + news.length) e' ++ news' = _
  rw [KX_setn]
  unfold KX
  rw [List.append_assoc, List.set_append_right _ _ (Nat.le_refl _), Nat.sub_self]
  simp
theorem kd_at {X : List am_C} {c s i : Nat} {e : am_C} (h : X[i]? = some e) {r : Int} (hr : r = i) : am_kd (X, c, s) r = some e := by
  subst hr
  unfold am_kd
  rw [if_neg (by omega), Int.toNat_natCast]
  exact h
theorem am_KX {mi : am_I} {pc : Nat} {ls : am_L} {stk : List am_V} {X X' : List am_C} {c s : Nat} {M : am_M} {Q : am_Q} (h : X = X') (k : am_At mi pc ls stk (X', c, s) M Q) : am_At mi pc ls stk (X, c, s) M Q := h ▸ k
section
variable {mi : am_I} {pc idx : Nat} {ls : am_L} {stk : List am_V} {ks news : List am_C} {i c s : Nat} {e : am_C} {M : am_M} {Q : am_Q}
theorem t_newa {n r : Int} {tag : Nat} {atype : ArrayType} {ty : FieldType} (hr : (ks.length : Int) + news.length = r) (hmc : am_mc mi ≠ 0) (hd : decode (am_cc mi) pc = .ok (.newarray atype, 2)) (hw : Cond.arrayClass (newarray.typeOf atype) ∈ am_tb) (hty : newarray.typeOf atype = ty) (htag : (tag = 11 ∧ ty = .int) ∨ (tag = 12 ∧ ty = .boolean) ∨ (tag = 13 ∧ ty = .long)) (h0 : 0 ≤ n) (h1 : n ≤ 60000000) (hb : c + 1 ≤ am_mc mi ∧ s + n.toNat ≤ am_ms mi)
    (k : am_At mi (pc + 2) ls (vr r :: stk) (KX ks i e (news ++ [(tag, n.toNat, [])]), c + 1, s + n.toNat) (am_nw M r (fun _ => 0)) Q) : am_At mi pc ls (vi n :: stk) (KX ks i e news, c, s) M Q := by
  have hl : (((KX ks i e news, c, s) : am_K).1.length : Int) = r := by
    show ((KX ks i e news).length : Int) = r
    rw [KX_len]
    omega
  refine s_newa (tag := tag) hmc hd hw hty htag h0 h1 hb ?_
  rw [hl]
  show am_At mi (pc + 2) ls (vr r :: stk) (KX ks i e news ++ [(tag, n.toNat, [])], c + 1, s + n.toNat) _ Q
  rw [KX_app]
  exact k
theorem t_new {ci N : Nat} {r : Int} {C : String} {T : u_T} {ty0 : Nat → FieldType} (hr : (ks.length : Int) + news.length = r) (hmc : am_mc mi ≠ 0) (hd : decode (am_cc mi) pc = .ok (.new idx, 3)) (hci : ci < 10) (hcl : vwCl[ci]? = some (C, T, N)) (hin : ∀ w ∈ u_ws C T N, w ∈ am_tb) (hty : ∀ k, k < N → parseFieldDescriptor (T k).2.2.1 = some (ty0 k))
    (hdef : ∀ k, k < N → defaultValue (ty0 k) = (if am_fk ci k = 2 ∨ am_fk ci k = 3 then .null else .int 0)) (hw1 : Cond.classLink (am_own mi) idx C ∈ am_tb) (hw2 : Cond.instantiable C N ∈ am_tb) (hw3 : Cond.initialized C ∈ am_tb) (hb : c + 1 ≤ am_mc mi ∧ s + N ≤ am_ms mi)
    (k : am_At mi (pc + 3) ls (vr r :: stk) (KX ks i e (news ++ [(ci, N, List.replicate N (-1))]), c + 1, s + N) (am_nw M r (fun j => if am_fk ci j.toNat = 2 then -1 else 0)) Q) : am_At mi pc ls stk (KX ks i e news, c, s) M Q := by
  have hl : (((KX ks i e news, c, s) : am_K).1.length : Int) = r := by
    show ((KX ks i e news).length : Int) = r
    rw [KX_len]
    omega
  refine s_new hmc hd hci hcl hin hty hdef hw1 hw2 hw3 hb ?_
  rw [hl]
  show am_At mi (pc + 3) ls (vr r :: stk) (KX ks i e news ++ [(ci, N, List.replicate N (-1))], c + 1, s + N) _ Q
  rw [KX_app]
  exact k
theorem t_newq {n r : Int} {tag : Nat} {C : String} (hr : (ks.length : Int) + news.length = r) (hmc : am_mc mi ≠ 0) (hd : decode (am_cc mi) pc = .ok (.anewarray idx, 3)) (hw : Cond.classLink (am_own mi) idx C ∈ am_tb) (hC : C ∈ am_aos) (htag : (tag = 14 ∧ C = "AnyLength$Sentence") ∨ (tag = 15 ∧ C = "AnyLength$Program")) (h0 : 0 ≤ n) (h1 : n ≤ 1000) (hb : c + 1 ≤ am_mc mi ∧ s + n.toNat ≤ am_ms mi)
    (k : am_At mi (pc + 3) ls (vr r :: stk) (KX ks i e (news ++ [(tag, n.toNat, List.replicate n.toNat (-1))]), c + 1, s + n.toNat) (am_nw M r (fun _ => 0)) Q) : am_At mi pc ls (vi n :: stk) (KX ks i e news, c, s) M Q := by
  have hl : (((KX ks i e news, c, s) : am_K).1.length : Int) = r := by
    show ((KX ks i e news).length : Int) = r
    rw [KX_len]
    omega
  refine s_newq (tag := tag) hmc hd hw hC htag h0 h1 hb ?_
  rw [hl]
  show am_At mi (pc + 3) ls (vr r :: stk) (KX ks i e news ++ [(tag, n.toNat, List.replicate n.toNat (-1))], c + 1, s + n.toNat) _ Q
  rw [KX_app]
  exact k
theorem t_putF {ci N k : Nat} {rs : List Int} {C : String} {T : u_T} {ty0 : Nat → FieldType} {x : Int} (hlt : i < ks.length) (hmc : am_mc mi ≠ 0) (hd : decode (am_cc mi) pc = .ok (.putfield idx, 3)) (hci : ci < 10) (hcl : vwCl[ci]? = some (C, T, N)) (hin : ∀ w ∈ u_ws C T N, w ∈ am_tb)
    (hty : ∀ k, k < N → parseFieldDescriptor (T k).2.2.1 = some (ty0 k)) (hnm : ∀ a, a < N → ∀ b, b < N → a ≠ b → (T a).2.1 ≠ (T b).2.1)
    (hk0 : k < N) (hrs : k < rs.length) (hw : Cond.fieldLink (am_own mi) idx (T k).1 (T k).2.1 (T k).2.2.1 ∈ am_tb) (hfin : (T k).2.2.2 = true) (hini : (am_y mi).name = "<init>") (hown : (T k).1 = am_own mi)
    (hf : am_fk ci k = 3) (ht : (∃ n, ty0 k = .object n) ∨ ∃ t, ty0 k = .array t) (hx1 : -1 ≤ x)
    (k1 : am_At mi (pc + 3) ls stk (KX ks i (ci, N, rs.set k x) news, c, s) M Q) : am_At mi pc ls (vr x :: vr i :: stk) (KX ks i (ci, N, rs) news, c, s) M Q := by
  refine s_putF hmc hd (kd_at (KX_this hlt _ _) rfl) hci hcl hin hty hnm hk0 hrs hw hfin hini hown hf ht hx1 ?_
  show am_At mi (pc + 3) ls stk ((KX ks i (ci, N, rs) news).set (Int.toNat (i : Int)) (ci, N, rs.set k x), c, s) M Q
  rw [Int.toNat_natCast, KX_set hlt]
  exact k1
theorem t_aastore {i2 x : Int} {j tag n cx Nx : Nat} {a : Int} {rs rx : List Int} {Cx : String} {Tx : u_T} {jx : Nat} (ha : a = ks.length + j) (hx : x = ks.length + jx) (hmc : am_mc mi ≠ 0) (hd : decode (am_cc mi) pc = .ok (.aastore, 1)) (hc : news[j]? = some (tag, n, rs)) (htag : (tag = 14 ∧ Cx = "AnyLength$Sentence") ∨ (tag = 15 ∧ Cx = "AnyLength$Program")) (hcx : news[jx]? = some (cx, Nx, rx)) (hcx1 : cx < 10) (hclx : vwCl[cx]? = some (Cx, Tx, Nx)) (h0 : 0 ≤ i2) (h1 : i2 < (n : Int)) (hrs : rs.length = n)
    (k : am_At mi (pc + 1) ls stk (KX ks i e (news.set j (tag, n, rs.set i2.toNat x)), c, s) M Q) : am_At mi pc ls (vr x :: vi i2 :: vr a :: stk) (KX ks i e news, c, s) M Q := by
  refine s_aastore hmc hd (kd_at (KX_new hc) (by rw [ha]; omega)) htag (kd_at (KX_new hcx) (by rw [hx]; omega)) hcx1 hclx h0 h1 hrs ?_
  show am_At mi (pc + 1) ls stk ((KX ks i e news).set a.toNat (tag, n, rs.set i2.toNat x), c, s) M Q
  rw [show a.toNat = ks.length + j by omega, KX_setn]
  exact k
end
