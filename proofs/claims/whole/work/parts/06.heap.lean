/-! ===== arrays and fields ===== -/
theorem am_cv_ref {G : am_G} {a : Int} (h : 0 ≤ a) : am_cv G (vr a) = .ref (G.1 a.toNat) := by
  show (if a = -2 then Value.ref G.2.2 else va_rf (am_rf G a)) = _
  rw [if_neg (by omega)]
  unfold am_rf
  rw [if_neg (by omega)]
  rfl
theorem am_cv_rf {G : am_G} {a : Int} (h : -1 ≤ a) : am_cv G (vr a) = va_rf (am_rf G a) := by
  show (if a = -2 then Value.ref G.2.2 else va_rf (am_rf G a)) = _
  rw [if_neg (by omega)]
theorem am_up_hit {M : am_M} {a i v : Int} : am_up M a i v a i = v := by simp [am_up]
theorem am_up_cell {M : am_M} {a i v : Int} {j : Nat} (h : (j : Int) ≠ a) : am_up M a i v j = M j := by
  funext q
  simp [am_up, h]
theorem am_Y_up {mi : am_I} {s : State} {A : Nat → Prop} {D : va_G} {G0 : am_G} {K0 : am_K} {M0 : am_M} {G : am_G} {K : am_K} {M : am_M} {H : Heap} {locs : List Loc} {a i v : Int} {e : am_C} {H1 : Heap} {locs1 : List Loc} {x : va_E}
    (hY : am_Y mi s A D G0 K0 M0 G K M H locs) (hk : am_kd K a = some e) (hm : am_mok K (am_up M a i v)) (hx : am_en G (am_up M a i v) a.toNat e = x)
    (hP : va_P D vwCl ((am_wo G K M).set a.toNat (G.1 a.toNat, x)) H1) (hD : va_D A ((am_wo G K M).set a.toNat (G.1 a.toNat, x))) (hS : va_S A s.heap H1 locs1) : am_Y mi s A D G0 K0 M0 G K (am_up M a i v) H1 locs1 := by
  obtain ⟨ha0, ha1, ha2, ha3⟩ := am_kd_at hk
  obtain ⟨⟨y1, y2, y3, y4, y5⟩, ⟨y6, y7, y8, y9, y10⟩, y11, y12, y13⟩ := hY
  have hw : am_wo G K (am_up M a i v) = (am_wo G K M).set a.toNat (G.1 a.toNat, x) := by
    rw [am_wo_set (K := K) (M := M) (i := a.toNat) (e' := e) rfl (fun _ _ => rfl) ha1 (fun j hj => am_up_cell (by omega)), hx]
  refine ⟨⟨y1, by rw [hw]; exact hP, by rw [hw]; exact hD, hS, hm⟩, ⟨y6, y7, y8, y9, fun b j hb => ?_⟩, y11, y12, y13⟩
  rw [← y10 b j hb]
  simp [am_up, show b ≠ a by omega]
section AM
variable {mi : am_I} {pc : Nat} {ls : am_L} {stk : List am_V} {K : am_K} {M : am_M} {Q : am_Q}
theorem s_iaload {a i : Int} {n : Nat} {rs : List Int} (hd : decode (am_cc mi) pc = .ok (.iaload, 1)) (hc : am_kd K a = some (11, n, rs)) (h0 : 0 ≤ i) (h1 : i < (n : Int)) (k : am_At mi (pc + 1) ls (vi (M a i) :: stk) K M Q) : am_At mi pc ls (vi i :: vr a :: stk) K M Q := by
  intro p l e s m args below meth c Z A D G0 K0 M0 G H locs rl hS hY hL hk hR
  obtain ⟨hi, hk⟩ := List.forall_mem_cons.mp hk
  obtain ⟨ha, hk⟩ := List.forall_mem_cons.mp hk
  obtain ⟨ha0, ha1, ha2, ha3⟩ := am_kd_at hc
  have hv := (hY.1.2.2.2.2 _ _ ha1).2.1 i
  rw [ha3] at hv
  have h := k _ _ _ _ _ _ _ _ _ _ _ _ _ _ _ _ _ _ _ hS hY hL (List.forall_mem_cons.mpr ⟨hv.2 (by simp), hk⟩) hR
  obtain ⟨t0, ht0⟩ := am_tys_at (G := G) ha1 (t := .int) rfl
  rw [List.map_cons, List.map_cons, am_cv_ref ha0]
  refine va_iald hS.1 hS.2.1 hY.1.1 hY.1.2.1 a.toNat t0 (am_wo_at ha1) ht0 (am_in hi h0 h1) hd ?_
  rw [am_clamp hi, ha3, show ((i.toNat : Nat) : Int) = i from by omega]
  exact h
theorem s_baload {a i : Int} {n : Nat} {rs : List Int} (hd : decode (am_cc mi) pc = .ok (.baload, 1)) (hc : am_kd K a = some (12, n, rs)) (h0 : 0 ≤ i) (h1 : i < (n : Int)) (k : am_At mi (pc + 1) ls (vi (M a i) :: stk) K M Q) : am_At mi pc ls (vi i :: vr a :: stk) K M Q := by
  intro p l e s m args below meth c Z A D G0 K0 M0 G H locs rl hS hY hL hk hR
  obtain ⟨hi, hk⟩ := List.forall_mem_cons.mp hk
  obtain ⟨ha, hk⟩ := List.forall_mem_cons.mp hk
  obtain ⟨ha0, ha1, ha2, ha3⟩ := am_kd_at hc
  have hv := (hY.1.2.2.2.2 _ _ ha1).2.1 i
  rw [ha3] at hv
  have h := k _ _ _ _ _ _ _ _ _ _ _ _ _ _ _ _ _ _ _ hS hY hL (List.forall_mem_cons.mpr ⟨hv.2 (by simp), hk⟩) hR
  obtain ⟨t0, ht0⟩ := am_tys_at (G := G) ha1 (t := .boolean) rfl
  rw [List.map_cons, List.map_cons, am_cv_ref ha0]
  refine va_zald hS.1 hS.2.1 hY.1.1 hY.1.2.1 a.toNat t0 (am_wo_at ha1) ht0 (am_in hi h0 h1) hd ?_
  rw [am_clamp hi, ha3, show ((i.toNat : Nat) : Int) = i from by omega]
  exact h
theorem s_laload {a i : Int} {n : Nat} {rs : List Int} (hd : decode (am_cc mi) pc = .ok (.laload, 1)) (hc : am_kd K a = some (13, n, rs)) (h0 : 0 ≤ i) (h1 : i < (n : Int)) (k : am_At mi (pc + 1) ls (vl (M a i) :: stk) K M Q) : am_At mi pc ls (vi i :: vr a :: stk) K M Q := by
  intro p l e s m args below meth c Z A D G0 K0 M0 G H locs rl hS hY hL hk hR
  obtain ⟨hi, hk⟩ := List.forall_mem_cons.mp hk
  obtain ⟨ha, hk⟩ := List.forall_mem_cons.mp hk
  obtain ⟨ha0, ha1, ha2, ha3⟩ := am_kd_at hc
  have hv := (hY.1.2.2.2.2 _ _ ha1).2.1 i
  rw [ha3] at hv
  have h := k _ _ _ _ _ _ _ _ _ _ _ _ _ _ _ _ _ _ _ hS hY hL (List.forall_mem_cons.mpr ⟨hv.1, hk⟩) hR
  obtain ⟨t0, ht0⟩ := am_tys_at (G := G) ha1 (t := .long) rfl
  rw [List.map_cons, List.map_cons, am_cv_ref ha0]
  refine va_lald hS.1 hS.2.1 hY.1.1 hY.1.2.1 a.toNat t0 (am_wo_at ha1) ht0 (am_in hi h0 h1) hd ?_
  rw [am_clamp hi, ha3, show ((i.toNat : Nat) : Int) = i from by omega]
  exact h
theorem s_aaload {a i : Int} {n tag : Nat} {rs : List Int} (hd : decode (am_cc mi) pc = .ok (.aaload, 1)) (hc : am_kd K a = some (tag, n, rs)) (htag : tag = 14 ∨ tag = 15) (h0 : 0 ≤ i) (h1 : i < (n : Int)) (k : am_At mi (pc + 1) ls (vr (rs.getD i.toNat (-1)) :: stk) K M Q) : am_At mi pc ls (vi i :: vr a :: stk) K M Q := by
  intro p l e s m args below meth c Z A D G0 K0 M0 G H locs rl hS hY hL hk hR
  obtain ⟨hi, hk⟩ := List.forall_mem_cons.mp hk
  obtain ⟨ha, hk⟩ := List.forall_mem_cons.mp hk
  obtain ⟨ha0, ha1, ha2, ha3⟩ := am_kd_at hc
  have hr : -1 ≤ rs.getD i.toNat (-1) ∧ rs.getD i.toNat (-1) < (K.1.length : Int) := by
    rcases am_getD_mem (l := rs) (k := i.toNat) with q | q
    · rw [q]
      omega
    · exact (hY.1.2.2.2.2 _ _ ha1).1 _ q
  have h := k _ _ _ _ _ _ _ _ _ _ _ _ _ _ _ _ _ _ _ hS hY hL (List.forall_mem_cons.mpr ⟨⟨by omega, hr.2⟩, hk⟩) hR
  rw [List.map_cons, am_cv_rf hr.1] at h
  rw [List.map_cons, List.map_cons, am_cv_ref ha0]
  rcases htag with rfl | rfl
  · obtain ⟨t0, ht0⟩ := am_tys_at (G := G) ha1 (t := .object "AnyLength$Sentence") rfl
    refine va_aldq hS.1 hS.2.1 hY.1.1 hY.1.2.1 a.toNat t0 (am_wo_at ha1) ht0 (am_in hi h0 h1) hd ?_
    rw [am_clamp hi]
    exact h
  · obtain ⟨t0, ht0⟩ := am_tys_at (G := G) ha1 (t := .object "AnyLength$Program") rfl
    refine va_aldq hS.1 hS.2.1 hY.1.1 hY.1.2.1 a.toNat t0 (am_wo_at ha1) ht0 (am_in hi h0 h1) hd ?_
    rw [am_clamp hi]
    exact h
theorem s_alen {a : Int} {n tag : Nat} {rs : List Int} (hd : decode (am_cc mi) pc = .ok (.arraylength, 1)) (hc : am_kd K a = some (tag, n, rs)) (htag : tag = 11) (hn : am_i32 (n : Int)) (k : am_At mi (pc + 1) ls (vi (n : Int) :: stk) K M Q) : am_At mi pc ls (vr a :: stk) K M Q := by
  intro p l e s m args below meth c Z A D G0 K0 M0 G H locs rl hS hY hL hk hR
  obtain ⟨ha, hk⟩ := List.forall_mem_cons.mp hk
  obtain ⟨ha0, ha1, ha2, ha3⟩ := am_kd_at hc
  have h := k _ _ _ _ _ _ _ _ _ _ _ _ _ _ _ _ _ _ _ hS hY hL (List.forall_mem_cons.mpr ⟨hn, hk⟩) hR
  rw [List.map_cons, am_cv_ref ha0]
  subst htag
  obtain ⟨t0, ht0⟩ := am_tys_at (G := G) ha1 (t := .int) rfl
  exact va_alen hS.1 hS.2.1 hY.1.1 hY.1.2.1 a.toNat t0 (am_wo_at ha1) ht0 (Int32.ofInt_eq_ofNat (n := n)).symm hd h
theorem s_sload {i : Int} (hsc : am_sc mi = true) (hd : decode (am_cc mi) pc = .ok (.iaload, 1)) (h0 : 0 ≤ i) (h1 : i < M (-2) (-1)) (k : am_At mi (pc + 1) ls (vi (M (-2) i) :: stk) K M Q) : am_At mi pc ls (vi i :: vr (-2) :: stk) K M Q := by
  intro p l e s m args below meth c Z A D G0 K0 M0 G H locs rl hS hY hL hk hR
  obtain ⟨hi, hk⟩ := List.forall_mem_cons.mp hk
  obtain ⟨ha, hk⟩ := List.forall_mem_cons.mp hk
  obtain ⟨L, xs, x1, x2, x3, x4, x5, x6⟩ := hY.2.2.2.2 hsc
  have e1 := hY.2.1.2.2.2.2 (-2) (-1) (by omega)
  have e2 := hY.2.1.2.2.2.2 (-2) i (by omega)
  have e3 := x6 i.toNat (by omega)
  rw [show ((i.toNat : Nat) : Int) = i from by omega] at e3
  have h := k _ _ _ _ _ _ _ _ _ _ _ _ _ _ _ _ _ _ _ hS hY hL (List.forall_mem_cons.mpr ⟨by rw [e2, e3]; exact am_i32_of _, hk⟩) hR
  rw [List.map_cons, List.map_cons, show am_cv G (vr (-2)) = .ref G0.2.2 from by rw [← hY.2.1.2.2.1]; rfl]
  refine va_sld hS.1 hS.2.1 x1 x2 x3 hY.1.2.2.2.1 (am_in hi h0 (by omega)) hd ?_
  rw [am_clamp hi]
  rw [List.map_cons, show am_cv G (vi (M (-2) i)) = .int (xs i.toNat) from by rw [e2, e3]; exact congrArg Value.int (Int32.ofInt_toInt _)] at h
  exact h
theorem s_slen (hsc : am_sc mi = true) (hd : decode (am_cc mi) pc = .ok (.arraylength, 1)) (k : am_At mi (pc + 1) ls (vi (M (-2) (-1)) :: stk) K M Q) : am_At mi pc ls (vr (-2) :: stk) K M Q := by
  intro p l e s m args below meth c Z A D G0 K0 M0 G H locs rl hS hY hL hk hR
  obtain ⟨ha, hk⟩ := List.forall_mem_cons.mp hk
  obtain ⟨L, xs, x1, x2, x3, x4, x5, x6⟩ := hY.2.2.2.2 hsc
  have e1 := hY.2.1.2.2.2.2 (-2) (-1) (by omega)
  have h := k _ _ _ _ _ _ _ _ _ _ _ _ _ _ _ _ _ _ _ hS hY hL (List.forall_mem_cons.mpr ⟨by rw [e1, x5]; exact ⟨by omega, by omega⟩, hk⟩) hR
  rw [List.map_cons, show am_cv G (vr (-2)) = .ref G0.2.2 from by rw [← hY.2.1.2.2.1]; rfl]
  refine va_slen hS.1 hS.2.1 x1 x2 x3 hY.1.2.2.2.1 hd ?_
  rw [List.map_cons, show am_cv G (vi (M (-2) (-1))) = .int (Int32.ofNat L) from by rw [e1, x5]; exact congrArg Value.int Int32.ofInt_eq_ofNat] at h
  exact h
theorem s_iastore {a i x : Int} {n : Nat} {rs : List Int} (hd : decode (am_cc mi) pc = .ok (.iastore, 1)) (hc : am_kd K a = some (11, n, rs)) (h0 : 0 ≤ i) (h1 : i < (n : Int)) (k : am_At mi (pc + 1) ls stk K (am_up M a i x) Q) : am_At mi pc ls (vi x :: vi i :: vr a :: stk) K M Q := by
  intro p l e s m args below meth c Z A D G0 K0 M0 G H locs rl hS hY hL hk hR
  obtain ⟨hx, hk⟩ := List.forall_mem_cons.mp hk
  obtain ⟨hi, hk⟩ := List.forall_mem_cons.mp hk
  obtain ⟨ha, hk⟩ := List.forall_mem_cons.mp hk
  obtain ⟨ha0, ha1, ha2, ha3⟩ := am_kd_at hc
  obtain ⟨t0, ht0⟩ := am_tys_at (G := G) ha1 (t := .int) rfl
  rw [List.map_cons, List.map_cons, List.map_cons, am_cv_ref ha0]
  refine va_iast hS.1 hS.2.1 hY.1.1 hY.1.2.1 hY.1.2.2.1 hY.1.2.2.2.1 a.toNat t0 (am_wo_at ha1) ht0 (am_in hi h0 h1) hd (fun H1 locs1 q1 q2 q3 => ?_)
  refine k _ _ _ _ _ _ _ _ _ _ _ _ _ _ _ _ _ _ _ hS (am_Y_up hY hc (am_mok_up hY.1.2.2.2.2 hc (am_i64_of32 hx) (fun _ => hx) (fun h => absurd h (by simp))) ?_ q1 q2 q3) hL hk hR
  show Sum.inl (G.2.1 a.toNat, n, Sum.inl (fun j : Nat => Int32.ofInt (am_up M a i x (a.toNat : Int) (j : Int)))) = _
  rw [am_clamp hi]
  congr 3
  congr 1
  funext j
  unfold upd am_up
  rw [ha3, if_pos rfl]
  by_cases hj : j = i.toNat
  · rw [if_pos (by omega), if_pos hj]
  · rw [if_neg (by omega), if_neg hj]
theorem s_bastore {a i x : Int} {n : Nat} {rs : List Int} (hd : decode (am_cc mi) pc = .ok (.bastore, 1)) (hc : am_kd K a = some (12, n, rs)) (h0 : 0 ≤ i) (h1 : i < (n : Int)) (h01 : x = 0 ∨ x = 1) (k : am_At mi (pc + 1) ls stk K (am_up M a i x) Q) : am_At mi pc ls (vi x :: vi i :: vr a :: stk) K M Q := by
  intro p l e s m args below meth c Z A D G0 K0 M0 G H locs rl hS hY hL hk hR
  obtain ⟨hx, hk⟩ := List.forall_mem_cons.mp hk
  obtain ⟨hi, hk⟩ := List.forall_mem_cons.mp hk
  obtain ⟨ha, hk⟩ := List.forall_mem_cons.mp hk
  obtain ⟨ha0, ha1, ha2, ha3⟩ := am_kd_at hc
  obtain ⟨t0, ht0⟩ := am_tys_at (G := G) ha1 (t := .boolean) rfl
  rw [List.map_cons, List.map_cons, List.map_cons, am_cv_ref ha0]
  refine va_zast hS.1 hS.2.1 hY.1.1 hY.1.2.1 hY.1.2.2.1 hY.1.2.2.2.1 a.toNat t0 (am_wo_at ha1) ht0 (am_in hi h0 h1) hd (fun H1 locs1 q1 q2 q3 => ?_)
  refine k _ _ _ _ _ _ _ _ _ _ _ _ _ _ _ _ _ _ _ hS (am_Y_up hY hc (am_mok_up hY.1.2.2.2.2 hc (am_i64_of32 hx) (fun _ => hx) (fun h => absurd h (by simp))) ?_ q1 q2 q3) hL hk hR
  show Sum.inl (G.2.1 a.toNat, n, Sum.inl (fun j : Nat => Int32.ofInt (am_up M a i x (a.toNat : Int) (j : Int)))) = _
  have hnar : vp_nar .boolean (Int32.ofInt x) = Int32.ofInt x := by rcases h01 with rfl | rfl <;> decide +kernel
  rw [am_clamp hi, hnar]
  congr 3
  congr 1
  funext j
  unfold upd am_up
  rw [ha3, if_pos rfl]
  by_cases hj : j = i.toNat
  · rw [if_pos (by omega), if_pos hj]
  · rw [if_neg (by omega), if_neg hj]
theorem s_lastore {a i x : Int} {n : Nat} {rs : List Int} (hd : decode (am_cc mi) pc = .ok (.lastore, 1)) (hc : am_kd K a = some (13, n, rs)) (h0 : 0 ≤ i) (h1 : i < (n : Int)) (k : am_At mi (pc + 1) ls stk K (am_up M a i x) Q) : am_At mi pc ls (vl x :: vi i :: vr a :: stk) K M Q := by
  intro p l e s m args below meth c Z A D G0 K0 M0 G H locs rl hS hY hL hk hR
  obtain ⟨hx, hk⟩ := List.forall_mem_cons.mp hk
  obtain ⟨hi, hk⟩ := List.forall_mem_cons.mp hk
  obtain ⟨ha, hk⟩ := List.forall_mem_cons.mp hk
  obtain ⟨ha0, ha1, ha2, ha3⟩ := am_kd_at hc
  obtain ⟨t0, ht0⟩ := am_tys_at (G := G) ha1 (t := .long) rfl
  rw [List.map_cons, List.map_cons, List.map_cons, am_cv_ref ha0]
  refine va_last hS.1 hS.2.1 hY.1.1 hY.1.2.1 hY.1.2.2.1 hY.1.2.2.2.1 a.toNat t0 (am_wo_at ha1) ht0 (am_in hi h0 h1) hd (fun H1 locs1 q1 q2 q3 => ?_)
  refine k _ _ _ _ _ _ _ _ _ _ _ _ _ _ _ _ _ _ _ hS (am_Y_up hY hc (am_mok_up hY.1.2.2.2.2 hc hx (fun h => absurd rfl h) (fun h => absurd h (by simp))) ?_ q1 q2 q3) hL hk hR
  show Sum.inl (G.2.1 a.toNat, n, Sum.inr (Sum.inl (fun j : Nat => Int64.ofInt (am_up M a i x (a.toNat : Int) (j : Int))))) = _
  rw [am_clamp hi]
  congr 3
  congr 2
  funext j
  unfold vp_updL am_up
  rw [ha3, if_pos rfl]
  by_cases hj : j = i.toNat
  · rw [if_pos (by omega), if_pos hj]
  · rw [if_neg (by omega), if_neg hj]
end AM
