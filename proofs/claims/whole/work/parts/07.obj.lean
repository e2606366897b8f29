/-! ===== fields ===== -/
section AM
variable {mi : am_I} {pc : Nat} {ls : am_L} {stk : List am_V} {K : am_K} {M : am_M} {Q : am_Q}
theorem am_fields_at {G : am_G} {M : am_M} {i : Nat} {e : am_C} {k : Nat} (h : k < e.2.1) : ((List.range e.2.1).map (am_fv G M i e))[k]? = some (am_fv G M i e k) := by
  simp [List.getElem?_map, List.getElem?_range h]
theorem am_en_obj {G : am_G} {M : am_M} {i : Nat} {e : am_C} (h : e.1 < 10) : am_en G M i e = .inr (e.1, (List.range e.2.1).map (am_fv G M i e)) := by
  unfold am_en
  rw [if_pos h]
theorem s_getf {a : Int} {ci N idx k : Nat} {rs : List Int} {C : String} {T : u_T} (hd : decode (am_cc mi) pc = .ok (.getfield idx, 3)) (hc : am_kd K a = some (ci, N, rs)) (hci : ci < 10) (hcl : vwCl[ci]? = some (C, T, N)) (hin : ∀ w ∈ u_ws C T N, w ∈ am_tb)
    (hk0 : k < N) (hw : Cond.fieldLink (am_own mi) idx (T k).1 (T k).2.1 (T k).2.2.1 ∈ am_tb) {v : am_V} (hv : v = if am_fk ci k = 2 then vr (M a k) else if am_fk ci k = 3 then vr (rs.getD k (-1)) else vi (M a k))
    (k1 : am_At mi (pc + 3) ls (v :: stk) K M Q) : am_At mi pc ls (vr a :: stk) K M Q := by
  intro p l e s m args below meth c Z A D G0 K0 M0 G H locs rl hS hY hL hk hR
  obtain ⟨ha, hk⟩ := List.forall_mem_cons.mp hk
  obtain ⟨ha0, ha1, ha2, ha3⟩ := am_kd_at hc
  obtain ⟨m1, m2, m3⟩ := hY.1.2.2.2.2 _ _ ha1
  rw [ha3] at m2 m3
  have hr : -1 ≤ rs.getD k (-1) ∧ rs.getD k (-1) < (K.1.length : Int) := by
    rcases am_getD_mem (l := rs) (k := k) with q | q
    · rw [q]
      omega
    · exact m1 _ q
  have hok : am_ok K v ∧ am_cv G v = am_fv G M a.toNat (ci, N, rs) k := by
    unfold am_fv
    rw [ha3]
    split at hv
    · rename_i hf
      subst hv
      have q := m3 k hci hf
      rw [if_pos hf]
      exact ⟨⟨by omega, q.2⟩, am_cv_rf q.1⟩
    · rename_i hf
      rw [if_neg hf]
      split at hv
      · rename_i hf3
        subst hv
        rw [if_pos hf3]
        exact ⟨⟨by omega, hr.2⟩, am_cv_rf hr.1⟩
      · rename_i hf3
        subst hv
        rw [if_neg hf3]
        exact ⟨(m2 k).2 (by show ci ≠ 13; omega), rfl⟩
  have h := k1 _ _ _ _ _ _ _ _ _ _ _ _ _ _ _ _ _ _ _ hS hY hL (List.forall_mem_cons.mpr ⟨hok.1, hk⟩) hR
  rw [List.map_cons, hok.2] at h
  rw [List.map_cons, am_cv_ref ha0]
  have he := am_wo_at (G := G) (M := M) ha1
  rw [am_en_obj (show (ci, N, rs).1 < 10 from hci)] at he
  exact va_get hS.1 hS.2.1 hS.2.2.2.2.2.2.2.1 hin hS.2.2.2.2.2.2.1 hY.1.1 hY.1.2.1 a.toNat he hcl k hk0 (hS.2.2.2.2.2.2.2.1 _ hw) (fun x h => h) (am_fields_at hk0) hd h
/-- into a field that is no fixed reference -/
theorem s_putf {a : Int} {ci N idx k : Nat} {rs : List Int} {C : String} {T : u_T} {ty0 : Nat → FieldType} {v : am_V} {x : Int} (hd : decode (am_cc mi) pc = .ok (.putfield idx, 3)) (hc : am_kd K a = some (ci, N, rs)) (hci : ci < 10) (hcl : vwCl[ci]? = some (C, T, N)) (hin : ∀ w ∈ u_ws C T N, w ∈ am_tb)
    (hty : ∀ k, k < N → parseFieldDescriptor (T k).2.2.1 = some (ty0 k)) (hnm : ∀ a, a < N → ∀ b, b < N → a ≠ b → (T a).2.1 ≠ (T b).2.1)
    (hk0 : k < N) (hw : Cond.fieldLink (am_own mi) idx (T k).1 (T k).2.1 (T k).2.2.1 ∈ am_tb) (hfin : (T k).2.2.2 = false)
    (hv : (am_fk ci k = 0 ∧ ty0 k = .int ∧ v = vi x) ∨ (am_fk ci k = 1 ∧ ty0 k = .boolean ∧ v = vi x ∧ (x = 0 ∨ x = 1)) ∨ (am_fk ci k = 2 ∧ (∃ n, ty0 k = .object n) ∧ v = vr x ∧ -1 ≤ x ∧ x < 100000))
    (k1 : am_At mi (pc + 3) ls stk K (am_up M a k x) Q) : am_At mi pc ls (v :: vr a :: stk) K M Q := by
  intro p l e s m args below meth c Z A D G0 K0 M0 G H locs rl hS hY hL hk hR
  obtain ⟨hx, hk⟩ := List.forall_mem_cons.mp hk
  obtain ⟨ha, hk⟩ := List.forall_mem_cons.mp hk
  obtain ⟨ha0, ha1, ha2, ha3⟩ := am_kd_at hc
  have he := am_wo_at (G := G) (M := M) ha1
  rw [am_en_obj (show (ci, N, rs).1 < 10 from hci)] at he
  rw [List.map_cons, List.map_cons, am_cv_ref ha0]
  have hnar : narrow (ty0 k) (am_cv G v) = am_cv G v ∧ fits (ty0 k) (am_cv G v) = true ∧ am_cv G v = am_fv G (am_up M a k x) a.toNat (ci, N, rs) k := by
    have e1 : am_up M a k x (a.toNat : Int) (k : Int) = x := by rw [ha3]; exact am_up_hit
    rcases hv with ⟨f, t, rfl⟩ | ⟨f, t, rfl, h01⟩ | ⟨f, ⟨n, t⟩, rfl, h1, h2⟩
    · refine ⟨by rw [t]; rfl, by rw [t]; rfl, ?_⟩
      unfold am_fv
      rw [if_neg (by rw [f]; decide), if_neg (by rw [f]; decide), e1]
      rfl
    · refine ⟨by rw [t]; rcases h01 with rfl | rfl <;> rfl, by rw [t]; rcases h01 with rfl | rfl <;> rfl, ?_⟩
      unfold am_fv
      rw [if_neg (by rw [f]; decide), if_neg (by rw [f]; decide), e1]
      rfl
    · rw [am_cv_rf h1]
      refine ⟨by rw [t]; cases am_rf G x <;> rfl, by rw [t]; cases am_rf G x <;> rfl, ?_⟩
      unfold am_fv
      rw [if_pos f, e1]
  refine va_put hS.1 hS.2.1 hS.2.2.2.2.2.2.2.1 hin ty0 hty hnm hS.2.2.2.2.2.2.1 hY.1.1 hY.1.2.1 hY.1.2.2.1 hY.1.2.2.2.1 a.toNat he hcl k hk0 (hS.2.2.2.2.2.2.2.1 _ hw) (fun x h => h) hfin (hty k hk0) hnar.1 hnar.2.1 (by simpa using hk0) hd (fun H1 locs1 q1 q2 q3 => ?_)
  have hm : am_mok K (am_up M a k x) := by
    rcases hv with ⟨f, t, rfl⟩ | ⟨f, t, rfl, h01⟩ | ⟨f, ⟨n, t⟩, rfl, h1, h2⟩
    · exact am_mok_up hY.1.2.2.2.2 hc (am_i64_of32 hx) (fun _ => hx) (fun _ k' hk' hf => absurd hf (by rw [show k' = k from by omega]; show ¬ am_fk ci k = 2; rw [f]; decide))
    · exact am_mok_up hY.1.2.2.2.2 hc (am_i64_of32 hx) (fun _ => hx) (fun _ k' hk' hf => absurd hf (by rw [show k' = k from by omega]; show ¬ am_fk ci k = 2; rw [f]; decide))
    · have q : am_i32 x := ⟨by omega, by omega⟩
      exact am_mok_up hY.1.2.2.2.2 hc (am_i64_of32 q) (fun _ => q) (fun _ k' hk' hf => ⟨h1, hx.2⟩)
  refine k1 _ _ _ _ _ _ _ _ _ _ _ _ _ _ _ _ _ _ _ hS (am_Y_up hY hc hm ?_ q1 q2 q3) hL hk hR
  rw [am_en_obj (show (ci, N, rs).1 < 10 from hci)]
  congr 2
  apply List.ext_getElem?
  intro j
  by_cases hj : j < N
  · rw [am_fields_at hj]
    by_cases hjk : j = k
    · subst hjk
      rw [List.getElem?_set_self (by simpa using hj), hnar.2.2]
    · rw [List.getElem?_set_ne (fun q => hjk q.symm), am_fields_at hj]
      unfold am_fv
      rw [show am_up M a k x (a.toNat : Int) (j : Int) = M (a.toNat : Int) (j : Int) from by unfold am_up; rw [ha3, if_pos rfl, if_neg (by omega)]]
  · rw [List.getElem?_eq_none (by simp; omega), List.getElem?_eq_none (by simp; omega)]
end AM
