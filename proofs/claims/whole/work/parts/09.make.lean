/-! ===== calls of what makes nothing; making ===== -/
theorem am_Call_mono {mi : am_I} {as : List am_V} {K : am_K} {M : am_M} {Q Q' : am_Q} (hq : ∀ r K' M', Q r K' M' → Q' r K' M') (h : am_Call mi as K M Q) : am_Call mi as K M Q' := by
  intro l D G sz hok hmok p e ha hc hk s m args below hf happ hP hK
  obtain ⟨n, o, h1, h2, h3, ⟨⟨⟨r, K', M', G', q, q2⟩, hF⟩, h5⟩⟩ := h l D G sz hok hmok p e ha hc hk s m args below hf happ hP hK
  exact ⟨n, o, h1, h2, h3, ⟨⟨⟨r, K', M', G', hq _ _ _ q, q2⟩, hF⟩, h5⟩⟩
theorem am_CallN_mono {mi : am_I} {as : List am_V} {K : am_K} {M : am_M} {Q Q' : Option am_V → am_M → Prop} (hq : ∀ r M', Q r M' → Q' r M') (h : am_CallN mi as K M Q) : am_CallN mi as K M Q' := am_Call_mono (fun r _ M' => hq r M') h
theorem am_At_mono {mi : am_I} {pc : Nat} {ls : am_L} {stk : List am_V} {K : am_K} {M : am_M} {Q Q' : am_Q} (hq : ∀ r K' M', Q r K' M' → Q' r K' M') (h : am_At mi pc ls stk K M Q) : am_At mi pc ls stk K M Q' := by
  intro p l e s m args below meth c Z A D G0 K0 M0 G H locs rl hS hY hL hk hR
  exact h p l e s m args below meth c Z A D G0 K0 M0 G H locs rl hS hY hL hk (fun r K' M' G' H' locs' pc' rl' q => hR r K' M' G' H' locs' pc' rl' (hq r K' M' q))
theorem am_callN_of {mi : am_I} {as : List am_V} {K : am_K} {M : am_M} {Q : Option am_V → am_M → Prop} (hy : plainName (am_y mi).cls = true) (hown : (am_y mi).cls = am_own mi) (hsc : am_sc mi = false) (hn : (am_ex as).length ≤ am_ml mi)
    (h : am_AtN mi 0 (am_ent (am_ml mi) as) [] (K.1, 0, 0) M Q) : am_CallN mi as K M Q := am_call_of hy hown hsc hn h
section AM
variable {mi mi' : am_I} {pc idx : Nat} {ls : am_L} {stk : List am_V} {K : am_K} {M : am_M} {Q : Option am_V → am_M → Prop}
theorem am_pure {as : List am_V} {K0 : am_K} {Q : am_Q} {pc : Nat} (h0 : am_mc mi' = 0 ∧ am_ms mi' = 0) (k : am_CallN mi' as K M (fun r M' => am_At mi pc ls (r.toList ++ stk) K M' Q)) :
    am_Call mi' as (K.1, 0, 0) M (fun r K' M' => (am_mc mi' = 0 → K'.1 = K.1) → am_At mi pc ls (r.toList ++ stk) (K'.1, K.2.1 + am_mc mi', K.2.2 + am_ms mi') M' Q) := by
  refine am_Call_mono (fun r K' M' h hq => ?_) k
  rw [hq h0.1, h0.1, h0.2]
  exact h
theorem n_callS {as : List am_V} (hd : decode (am_cc mi) pc = .ok (.invokestatic idx, 3)) (hl : am_lkS (am_own mi) idx mi' as.length) (hroom : am_fr mi' + 1 ≤ am_fr mi ∧ 8 + (am_ml mi' + 11) + am_lo mi' ≤ am_lo mi) (hcat : am_ct stk ≤ 8) (h0 : am_mc mi' = 0 ∧ am_ms mi' = 0) {Q : am_Q}
    (k : am_CallN mi' as K M (fun r M' => am_At mi (pc + 3) ls (r.toList ++ stk) K M' Q)) : am_At mi pc ls (as.reverse ++ stk) K M Q := by
  intro p l e s m args below meth c Z A D G0 K0 M0 G H locs rl hS hY hL hk hR
  exact s_callS hd hl hroom hcat ⟨by rw [h0.1]; exact hY.2.2.1, by rw [h0.2]; exact hY.2.2.2.1⟩ (am_pure (K0 := K) h0 k) p l e s m args below meth c Z A D G0 K0 M0 G H locs rl hS hY hL hk hR
theorem n_callN {as : List am_V} (hd : decode (am_cc mi) pc = .ok (.invokestatic idx, 3)) (hl : am_lkN (am_own mi) idx mi' as.length) (hroom : am_fr mi' + 1 ≤ am_fr mi ∧ 8 + (am_ml mi' + 11) + am_lo mi' ≤ am_lo mi) (hcat : am_ct stk ≤ 8) (h0 : am_mc mi' = 0 ∧ am_ms mi' = 0) {Q : am_Q}
    (k : am_CallN mi' as K M (fun r M' => am_At mi (pc + 3) ls (r.toList ++ stk) K M' Q)) : am_At mi pc ls (as.reverse ++ stk) K M Q := by
  intro p l e s m args below meth c Z A D G0 K0 M0 G H locs rl hS hY hL hk hR
  exact s_callN hd hl hroom hcat ⟨by rw [h0.1]; exact hY.2.2.1, by rw [h0.2]; exact hY.2.2.2.1⟩ (am_pure (K0 := K) h0 k) p l e s m args below meth c Z A D G0 K0 M0 G H locs rl hS hY hL hk hR
theorem n_callV {as : List am_V} {a : Int} {ci N : Nat} {rs : List Int} {C : String} {T : u_T} (hd : decode (am_cc mi) pc = .ok (.invokevirtual idx, 3)) (hl : am_lkV (am_own mi) idx mi' as.length) (hc : am_kd K a = some (ci, N, rs)) (hci : ci < 10) (hcl : vwCl[ci]? = some (C, T, N)) (hC : (am_y mi').cls = C) (hroom : am_fr mi' + 1 ≤ am_fr mi ∧ 8 + (am_ml mi' + 11) + am_lo mi' ≤ am_lo mi) (hcat : am_ct stk ≤ 8) (h0 : am_mc mi' = 0 ∧ am_ms mi' = 0) {Q : am_Q}
    (k : am_CallN mi' (vr a :: as) K M (fun r M' => am_At mi (pc + 3) ls (r.toList ++ stk) K M' Q)) : am_At mi pc ls (as.reverse ++ vr a :: stk) K M Q := by
  intro p l e s m args below meth c Z A D G0 K0 M0 G H locs rl hS hY hL hk hR
  exact s_callV hd hl hc hci hcl hC hroom hcat ⟨by rw [h0.1]; exact hY.2.2.1, by rw [h0.2]; exact hY.2.2.2.1⟩ (am_pure (K0 := K) h0 k) p l e s m args below meth c Z A D G0 K0 M0 G H locs rl hS hY hL hk hR
end AM
/-- a cell more -/
theorem am_Y_push {mi : am_I} {s : State} {A : Nat → Prop} {D : va_G} {G0 : am_G} {K0 : am_K} {M0 : am_M} {G : am_G} {K : am_K} {M M' : am_M} {H : Heap} {locs : List Loc} {e : am_C} {H1 : Heap} {locs1 : List Loc} {x : va_E} {q c1 s1 : Nat} {cA : ClassId}
    (hY : am_Y mi s A D G0 K0 M0 G K M H locs) (hmc : am_mc mi ≠ 0) (hm : am_mok (K.1 ++ [e], c1, s1) M') (hold : ∀ b j : Int, b ≠ K.1.length → M' b j = M b j)
    (hx : am_en (fun i => if i = K.1.length then q else G.1 i, fun i => if i = K.1.length then cA else G.2.1 i, G.2.2) M' K.1.length e = x)
    (hP : va_P D vwCl (am_wo G K M ++ [(q, x)]) H1) (hD : va_D A (am_wo G K M ++ [(q, x)])) (hS : va_S A s.heap H1 locs1) (hK : va_K D vwCl (am_tys G K ++ ((am_ty e.1).map (fun t => (cA, t))).toList) s) (hb : c1 ≤ am_mc mi ∧ s1 ≤ am_ms mi) :
    am_Y mi s A D G0 K0 M0 (fun i => if i = K.1.length then q else G.1 i, fun i => if i = K.1.length then cA else G.2.1 i, G.2.2) (K.1 ++ [e], c1, s1) M' H1 locs1 := by
  obtain ⟨⟨y1, y2, y3, y4, y5⟩, ⟨y6, y7, y8, y9, y10⟩, y11, y12, y13⟩ := hY
  have hG : ∀ i, i < K.1.length → (if i = K.1.length then q else G.1 i) = G.1 i ∧ (if i = K.1.length then cA else G.2.1 i) = G.2.1 i := fun i hi => ⟨if_neg (by omega), if_neg (by omega)⟩
  have hw : am_wo (fun i => if i = K.1.length then q else G.1 i, fun i => if i = K.1.length then cA else G.2.1 i, G.2.2) (K.1 ++ [e], c1, s1) M' = am_wo G K M ++ [(q, x)] := by
    rw [am_wo_push (G := G) (K := K) (M := M) (e := e) rfl hG y5 (fun j hj => by funext i; exact hold j i (by omega)), hx]
    simp
  have ht : am_tys (fun i => if i = K.1.length then q else G.1 i, fun i => if i = K.1.length then cA else G.2.1 i, G.2.2) (K.1 ++ [e], c1, s1) = am_tys G K ++ ((am_ty e.1).map (fun t => (cA, t))).toList := by
    rw [am_tys_push (G := G) (K := K) (e := e) rfl hG]
    simp
  refine ⟨⟨by rw [ht]; exact hK, by rw [hw]; exact hP, by rw [hw]; exact hD, hS, hm⟩, ⟨by simp; omega, fun i hi => ?_, y8, fun h => absurd h hmc, fun b j hb => ?_⟩, hb.1, hb.2, y13⟩
  · obtain ⟨a1, a2⟩ := hG i (by omega)
    exact ⟨a1.trans (y7 i hi).1, a2.trans (y7 i hi).2⟩
  · rw [hold b j (by omega)]
    exact y10 b j hb
theorem am_mok_push {K : am_K} {M M' : am_M} {e : am_C} {c1 s1 : Nat} (hM : am_mok K M) (hold : ∀ b j : Int, b ≠ K.1.length → M' b j = M b j) (hr : ∀ r ∈ e.2.2, r = -1) (hv : ∀ j : Int, M' K.1.length j = 0 ∨ M' K.1.length j = -1) : am_mok (K.1 ++ [e], c1, s1) M' := by
  intro i e' he'
  by_cases hi : i < K.1.length
  · have he : K.1[i]? = some e' := by rw [← he', List.getElem?_append_left hi]
    obtain ⟨h1, h2, h3⟩ := hM i e' he
    have hne : (i : Int) ≠ (K.1.length : Int) := by omega
    refine ⟨fun r hr => ⟨(h1 r hr).1, by have := (h1 r hr).2; simp; omega⟩, fun j => by rw [hold i j hne]; exact h2 j, fun k h10 hf => ?_⟩
    rw [hold i k hne]
    have := h3 k h10 hf
    exact ⟨this.1, by simp; omega⟩
  · have hil : i = K.1.length := by
      have := (List.getElem?_eq_some_iff.mp he').1
      simp at this
      omega
    subst hil
    have he : e' = e := by
      rw [List.getElem?_append_right (Nat.le_refl _)] at he'
      simp at he'
      exact he'.symm
    subst he
    refine ⟨fun r h => by rw [hr r h]; exact ⟨by omega, by simp; omega⟩, fun j => ?_, fun k _ _ => ?_⟩
    · unfold am_i64 am_i32
      rcases hv j with h | h <;> rw [h] <;> omega
    · rcases hv k with h | h <;> rw [h] <;> exact ⟨by omega, by simp <;> omega⟩
theorem am_nw_old {M : am_M} {a : Int} {f : Int → Int} {b j : Int} (h : b ≠ a) : am_nw M a f b j = M b j := by simp [am_nw, h]
theorem am_nw_hit {M : am_M} {a : Int} {f : Int → Int} {j : Int} : am_nw M a f a j = f j := by simp [am_nw]
section AM
variable {mi : am_I} {pc idx : Nat} {ls : am_L} {stk : List am_V} {K : am_K} {M : am_M} {Q : am_Q}
theorem am_ext1 {G : am_G} {K : am_K} {q : Nat} {cA : ClassId} : ∀ i, i < K.1.length → (if i = K.1.length then q else G.1 i) = G.1 i ∧ (if i = K.1.length then cA else G.2.1 i) = G.2.1 i := fun i hi => ⟨if_neg (by omega), if_neg (by omega)⟩
theorem am_stk_ext {G : am_G} {K : am_K} {q : Nat} {cA : ClassId} {stk : List am_V} (hk : ∀ v ∈ stk, am_ok K v) : stk.map (am_cv (fun i => if i = K.1.length then q else G.1 i, fun i => if i = K.1.length then cA else G.2.1 i, G.2.2)) = stk.map (am_cv G) :=
  List.map_congr_left (fun v hv => am_cv_ext (G := G) (G' := (fun i => if i = K.1.length then q else G.1 i, fun i => if i = K.1.length then cA else G.2.1 i, G.2.2)) (K := K) am_ext1 rfl (hk v hv))
theorem s_new {ci N : Nat} {C : String} {T : u_T} {ty0 : Nat → FieldType} (hmc : am_mc mi ≠ 0) (hd : decode (am_cc mi) pc = .ok (.new idx, 3)) (hci : ci < 10) (hcl : vwCl[ci]? = some (C, T, N)) (hin : ∀ w ∈ u_ws C T N, w ∈ am_tb) (hty : ∀ k, k < N → parseFieldDescriptor (T k).2.2.1 = some (ty0 k))
    (hdef : ∀ k, k < N → defaultValue (ty0 k) = (if am_fk ci k = 2 ∨ am_fk ci k = 3 then .null else .int 0)) (hw1 : Cond.classLink (am_own mi) idx C ∈ am_tb) (hw2 : Cond.instantiable C N ∈ am_tb) (hw3 : Cond.initialized C ∈ am_tb) (hb : K.2.1 + 1 ≤ am_mc mi ∧ K.2.2 + N ≤ am_ms mi)
    (k : am_At mi (pc + 3) ls (vr K.1.length :: stk) (K.1 ++ [(ci, N, List.replicate N (-1))], K.2.1 + 1, K.2.2 + N) (am_nw M K.1.length (fun j => if am_fk ci j.toNat = 2 then -1 else 0)) Q) : am_At mi pc ls stk K M Q := by
  intro p l e s m args below meth c Z A D G0 K0 M0 G H locs rl hS hY hL hk hR
  have hts := hS.2.2.2.2.2.2.2.1
  have hfs : ∀ (G' : am_G) (j : Nat), j < N → defaultValue (ty0 j) = vp_V ((List.range N).map (am_fv G' (am_nw M K.1.length (fun j => if am_fk ci j.toNat = 2 then -1 else 0)) K.1.length (ci, N, List.replicate N (-1)))) j := by
    intro G' j hj
    unfold vp_V
    rw [List.getD, am_fields_at (e := (ci, N, List.replicate N (-1))) hj, hdef j hj]
    show _ = am_fv _ _ _ _ _
    unfold am_fv
    rw [am_nw_hit]
    show _ = (if am_fk ci j = 2 then va_rf (am_rf G' (if am_fk ci (j : Int).toNat = 2 then -1 else 0)) else if am_fk ci j = 3 then va_rf (am_rf G' ((List.replicate N (-1)).getD j (-1))) else .int (Int32.ofInt (if am_fk ci (j : Int).toNat = 2 then -1 else 0)))
    rw [Int.toNat_natCast]
    by_cases h2 : am_fk ci j = 2
    · rw [if_pos (Or.inl h2), if_pos h2, if_pos h2]
      rfl
    · rw [if_neg h2, if_neg h2]
      by_cases h3 : am_fk ci j = 3
      · rw [if_pos (Or.inr h3), if_pos h3]
        rw [show (List.replicate N (-1 : Int)).getD j (-1) = -1 from by simp [List.getD, List.getElem?_replicate, hj]]
        rfl
      · rw [if_neg (by simp [h2, h3]), if_neg h3]
        rfl
  have hold : ∀ b j : Int, b ≠ K.1.length → am_nw M K.1.length (fun j => if am_fk ci j.toNat = 2 then -1 else 0) b j = M b j := fun b j h => am_nw_old h
  have hm : am_mok (K.1 ++ [(ci, N, List.replicate N (-1))], K.2.1 + 1, K.2.2 + N) (am_nw M K.1.length (fun j => if am_fk ci j.toNat = 2 then -1 else 0)) := by
    refine am_mok_push hY.1.2.2.2.2 hold (fun r hr => List.eq_of_mem_replicate hr) (fun j => ?_)
    rw [am_nw_hit]
    split
    · exact Or.inr rfl
    · exact Or.inl rfl
  refine va_new (ci := ci) (fs := (List.range N).map (am_fv (fun i => if i = K.1.length then 0 else G.1 i, fun i => if i = K.1.length then G.2.1 0 else G.2.1 i, G.2.2) (am_nw M K.1.length (fun j => if am_fk ci j.toNat = 2 then -1 else 0)) K.1.length (ci, N, List.replicate N (-1)))) hS.1 hS.2.1 hts hin ty0 hty hS.2.2.2.2.2.2.1 (hts _ hw1) (hts _ hw2) (hts _ hw3) hY.1.1 hY.1.2.1 hY.1.2.2.1 hY.1.2.2.2.1 hS.2.2.2.2.2.2.2.2.2.2 hcl (hfs _) hb.1 hb.2 hd (fun q H1 q1 q2 q3 => ?_)
  have hcvx : ∀ (G' : am_G), (List.range N).map (am_fv G' (am_nw M K.1.length (fun j => if am_fk ci j.toNat = 2 then -1 else 0)) K.1.length (ci, N, List.replicate N (-1))) = (List.range N).map (fun j => defaultValue (ty0 j)) := by
    intro G'
    refine List.map_congr_left (fun j hj => ?_)
    have hj := List.mem_range.mp hj
    rw [hfs G' j hj]
    unfold vp_V
    rw [List.getD, am_fields_at (e := (ci, N, List.replicate N (-1))) hj]
    rfl
  have hY' := am_Y_push (q := q) (cA := G.2.1 0) (e := (ci, N, List.replicate N (-1))) (c1 := K.2.1 + 1) (s1 := K.2.2 + N) hY hmc hm hold (by
    rw [am_en_obj (show (ci, N, List.replicate N (-1)).1 < 10 from hci)]
    show Sum.inr (ci, (List.range N).map _) = _
    rw [hcvx, ← hcvx (fun i => if i = K.1.length then 0 else G.1 i, fun i => if i = K.1.length then G.2.1 0 else G.2.1 i, G.2.2)]) q1 q2 q3 (by
    have : am_ty ci = none := by
      match ci, hci with
      | 0, _ => rfl
      | 1, _ => rfl
      | 2, _ => rfl
      | 3, _ => rfl
      | 4, _ => rfl
      | 5, _ => rfl
      | 6, _ => rfl
      | 7, _ => rfl
      | 8, _ => rfl
      | 9, _ => rfl
      | n + 10, h => omega
    show va_K D vwCl (am_tys G K ++ ((am_ty ci).map _).toList) s
    rw [this]
    simpa using hY.1.1) hb
  have hlen : K.1.length ≤ (K.1 ++ [(ci, N, List.replicate N (-1 : Int))]).length := by simp
  have h := k p l e s m args below meth c Z A D G0 K0 M0 _ H1 locs rl hS hY' (am_lr_ext (K := K) hlen am_ext1 rfl hL) (List.forall_mem_cons.mpr ⟨⟨by omega, by simp; omega⟩, fun v hv => am_ok_ext (K := K) hlen (hk v hv)⟩) hR
  rw [List.map_cons, am_cv_ref (by omega), am_stk_ext (q := q) (cA := G.2.1 0) hk] at h
  simp only [Int.toNat_natCast, if_pos] at h
  exact h
theorem s_newa {n : Int} {tag : Nat} {atype : ArrayType} {ty : FieldType} (hmc : am_mc mi ≠ 0) (hd : decode (am_cc mi) pc = .ok (.newarray atype, 2)) (hw : Cond.arrayClass (newarray.typeOf atype) ∈ am_tb) (hty : newarray.typeOf atype = ty) (htag : (tag = 11 ∧ ty = .int) ∨ (tag = 12 ∧ ty = .boolean) ∨ (tag = 13 ∧ ty = .long)) (h0 : 0 ≤ n) (h1 : n ≤ 60000000) (hb : K.2.1 + 1 ≤ am_mc mi ∧ K.2.2 + n.toNat ≤ am_ms mi)
    (k : am_At mi (pc + 2) ls (vr K.1.length :: stk) (K.1 ++ [(tag, n.toNat, [])], K.2.1 + 1, K.2.2 + n.toNat) (am_nw M K.1.length (fun _ => 0)) Q) : am_At mi pc ls (vi n :: stk) K M Q := by
  intro p l e s m args below meth c Z A D G0 K0 M0 G H locs rl hS hY hL hk hR
  obtain ⟨hn, hk⟩ := List.forall_mem_cons.mp hk
  have hts := hS.2.2.2.2.2.2.2.1
  have hold : ∀ b j : Int, b ≠ K.1.length → am_nw M K.1.length (fun _ => 0) b j = M b j := fun b j h => am_nw_old h
  have hm : am_mok (K.1 ++ [(tag, n.toNat, [])], K.2.1 + 1, K.2.2 + n.toNat) (am_nw M K.1.length (fun _ => 0)) := by
    refine am_mok_push hY.1.2.2.2.2 hold (fun r hr => by cases hr) (fun j => ?_)
    rw [am_nw_hit]
    exact Or.inl rfl
  have hlen : K.1.length ≤ (K.1 ++ [((tag, n.toNat, []) : am_C)]).length := by simp
  have hneg : ¬ Int32.ofInt n < 0 := by
    rw [show (0 : Int32) = Int32.ofInt 0 from rfl, am_lt hn am_i32_0]
    omega
  have fin : ∀ (q : Nat) (cA : ClassId) (H1 : Heap) (x : va_E), va_K D vwCl (am_tys G K ++ ((am_ty tag).map (fun t => (cA, t))).toList) s → va_P D vwCl (am_wo G K M ++ [(q, x)]) H1 → va_D A (am_wo G K M ++ [(q, x)]) → va_S A s.heap H1 locs →
      am_en (fun i => if i = K.1.length then q else G.1 i, fun i => if i = K.1.length then cA else G.2.1 i, G.2.2) (am_nw M K.1.length (fun _ => 0)) K.1.length (tag, n.toNat, []) = x →
      W p l e (am_rm mi) s m args below meth c H1 locs (K.2.1 + 1) (K.2.2 + n.toNat) Z (F0 m (pc + 2) rl (.ref q :: stk.map (am_cv G))) := by
    intro q cA H1 x g1 g2 g3 g4 g5
    have hY' := am_Y_push (q := q) (cA := cA) (e := (tag, n.toNat, [])) (c1 := K.2.1 + 1) (s1 := K.2.2 + n.toNat) hY hmc hm hold g5 g2 g3 g4 g1 hb
    have h := k p l e s m args below meth c Z A D G0 K0 M0 _ H1 locs rl hS hY' (am_lr_ext (K := K) hlen am_ext1 rfl hL) (List.forall_mem_cons.mpr ⟨⟨by omega, by simp; omega⟩, fun v hv => am_ok_ext (K := K) hlen (hk v hv)⟩) hR
    rw [List.map_cons, am_cv_ref (by omega), am_stk_ext (q := q) (cA := cA) hk] at h
    simp only [Int.toNat_natCast, if_pos] at h
    exact h
  have hbytes : n.toNat * 8 ≤ 536870912 := by omega
  rcases htag with ⟨rfl, rfl⟩ | ⟨rfl, rfl⟩ | ⟨rfl, rfl⟩
  · refine va_newa (a0 := (n.toNat, .inl (fun _ => 0))) hS.1 hS.2.1 (hts _ hw) hty hY.1.1 hY.1.2.1 hY.1.2.2.1 hY.1.2.2.2.1 hS.2.2.2.2.2.2.2.2.2.2 (fun cA => rfl) hneg (am_clamp hn) (by show n.toNat * 4 ≤ _; omega) hb.1 hb.2 hd (fun q cA H1 g1 g2 g3 g4 => fin q cA H1 _ g1 g2 g3 g4 ?_)
    show Sum.inl (_, n.toNat, Sum.inl (fun j : Nat => Int32.ofInt (am_nw M K.1.length (fun _ => 0) (K.1.length : Int) (j : Int)))) = _
    simp only [am_nw_hit, if_pos]
    rfl
  · refine va_newa (a0 := (n.toNat, .inl (fun _ => 0))) hS.1 hS.2.1 (hts _ hw) hty hY.1.1 hY.1.2.1 hY.1.2.2.1 hY.1.2.2.2.1 hS.2.2.2.2.2.2.2.2.2.2 (fun cA => rfl) hneg (am_clamp hn) (by show n.toNat * 1 ≤ _; omega) hb.1 hb.2 hd (fun q cA H1 g1 g2 g3 g4 => fin q cA H1 _ g1 g2 g3 g4 ?_)
    show Sum.inl (_, n.toNat, Sum.inl (fun j : Nat => Int32.ofInt (am_nw M K.1.length (fun _ => 0) (K.1.length : Int) (j : Int)))) = _
    simp only [am_nw_hit, if_pos]
    rfl
  · refine va_newa (a0 := (n.toNat, .inr (.inl (fun _ => 0)))) hS.1 hS.2.1 (hts _ hw) hty hY.1.1 hY.1.2.1 hY.1.2.2.1 hY.1.2.2.2.1 hS.2.2.2.2.2.2.2.2.2.2 (fun cA => rfl) hneg (am_clamp hn) (by show n.toNat * 8 ≤ _; omega) hb.1 hb.2 hd (fun q cA H1 g1 g2 g3 g4 => fin q cA H1 _ g1 g2 g3 g4 ?_)
    show Sum.inl (_, n.toNat, Sum.inr (Sum.inl (fun j : Nat => Int64.ofInt (am_nw M K.1.length (fun _ => 0) (K.1.length : Int) (j : Int))))) = _
    simp only [am_nw_hit, if_pos]
    rfl
theorem s_newq {n : Int} {tag : Nat} {C : String} (hmc : am_mc mi ≠ 0) (hd : decode (am_cc mi) pc = .ok (.anewarray idx, 3)) (hw : Cond.classLink (am_own mi) idx C ∈ am_tb) (hC : C ∈ am_aos) (htag : (tag = 14 ∧ C = "AnyLength$Sentence") ∨ (tag = 15 ∧ C = "AnyLength$Program")) (h0 : 0 ≤ n) (h1 : n ≤ 1000) (hb : K.2.1 + 1 ≤ am_mc mi ∧ K.2.2 + n.toNat ≤ am_ms mi)
    (k : am_At mi (pc + 3) ls (vr K.1.length :: stk) (K.1 ++ [(tag, n.toNat, List.replicate n.toNat (-1))], K.2.1 + 1, K.2.2 + n.toNat) (am_nw M K.1.length (fun _ => 0)) Q) : am_At mi pc ls (vi n :: stk) K M Q := by
  intro p l e s m args below meth c Z A D G0 K0 M0 G H locs rl hS hY hL hk hR
  obtain ⟨hn, hk⟩ := List.forall_mem_cons.mp hk
  have hts := hS.2.2.2.2.2.2.2.1
  have hold : ∀ b j : Int, b ≠ K.1.length → am_nw M K.1.length (fun _ => 0) b j = M b j := fun b j h => am_nw_old h
  have hm : am_mok (K.1 ++ [(tag, n.toNat, List.replicate n.toNat (-1))], K.2.1 + 1, K.2.2 + n.toNat) (am_nw M K.1.length (fun _ => 0)) := by
    refine am_mok_push hY.1.2.2.2.2 hold (fun r hr => List.eq_of_mem_replicate hr) (fun j => ?_)
    rw [am_nw_hit]
    exact Or.inl rfl
  have hlen : K.1.length ≤ (K.1 ++ [((tag, n.toNat, List.replicate n.toNat (-1)) : am_C)]).length := by simp
  have hneg : ¬ Int32.ofInt n < 0 := by
    rw [show (0 : Int32) = Int32.ofInt 0 from rfl, am_lt hn am_i32_0]
    omega
  refine va_newq hS.1 hS.2.1 hS.2.2.2.2.2.2.1 (hts _ hw) (hS.2.2.2.2.2.2.2.2.2.1 C hC) hY.1.1 hY.1.2.1 hY.1.2.2.1 hY.1.2.2.2.1 hS.2.2.2.2.2.2.2.2.2.2 hneg (am_clamp hn) (by omega) hb.1 hb.2 hd (fun q cA H1 g1 g2 g3 g4 => ?_)
  have hel : ∀ G' : am_G, (fun j : Nat => am_rf G' ((List.replicate n.toNat (-1 : Int)).getD j (-1))) = fun _ => none := by
    intro G'
    funext j
    rw [show (List.replicate n.toNat (-1 : Int)).getD j (-1) = -1 from by
      rcases am_getD_mem (l := List.replicate n.toNat (-1 : Int)) (k := j) with h | h
      · exact h
      · exact List.eq_of_mem_replicate h]
    rfl
  have hY' := am_Y_push (q := q) (cA := cA) (e := (tag, n.toNat, List.replicate n.toNat (-1))) (c1 := K.2.1 + 1) (s1 := K.2.2 + n.toNat) hY hmc hm hold (by
    rcases htag with ⟨rfl, rfl⟩ | ⟨rfl, rfl⟩
    · show Sum.inl (_, n.toNat, Sum.inr (Sum.inr (Sum.inr (Sum.inr (fun j : Nat => am_rf _ ((List.replicate n.toNat (-1 : Int)).getD j (-1))))))) = _
      rw [hel]
      simp only [if_pos]
    · show Sum.inl (_, n.toNat, Sum.inr (Sum.inr (Sum.inr (Sum.inr (fun j : Nat => am_rf _ ((List.replicate n.toNat (-1 : Int)).getD j (-1))))))) = _
      rw [hel]
      simp only [if_pos]) g2 g3 g4 (by
    rcases htag with ⟨rfl, rfl⟩ | ⟨rfl, rfl⟩
    · exact g1
    · exact g1) hb
  have h := k p l e s m args below meth c Z A D G0 K0 M0 _ H1 locs rl hS hY' (am_lr_ext (K := K) hlen am_ext1 rfl hL) (List.forall_mem_cons.mpr ⟨⟨by omega, by simp; omega⟩, fun v hv => am_ok_ext (K := K) hlen (hk v hv)⟩) hR
  rw [List.map_cons, am_cv_ref (by omega), am_stk_ext (q := q) (cA := cA) hk] at h
  simp only [Int.toNat_natCast, if_pos] at h
  exact h
/-- one cell's fixed references anew -/
theorem am_Y_ref {s : State} {A : Nat → Prop} {D : va_G} {G0 : am_G} {K0 : am_K} {M0 : am_M} {G : am_G} {H : Heap} {locs : List Loc} {a : Int} {tag n : Nat} {rs : List Int} {i : Nat} {v : Int} {H1 : Heap} {locs1 : List Loc} {x : va_E}
    (hY : am_Y mi s A D G0 K0 M0 G K M H locs) (hmc : am_mc mi ≠ 0) (hk : am_kd K a = some (tag, n, rs)) (hv : -1 ≤ v ∧ v < (K.1.length : Int)) (hx : am_en G M a.toNat (tag, n, rs.set i v) = x)
    (hP : va_P D vwCl ((am_wo G K M).set a.toNat (G.1 a.toNat, x)) H1) (hD : va_D A ((am_wo G K M).set a.toNat (G.1 a.toNat, x))) (hS : va_S A s.heap H1 locs1) : am_Y mi s A D G0 K0 M0 G (K.1.set a.toNat (tag, n, rs.set i v), K.2) M H1 locs1 := by
  obtain ⟨ha0, ha1, ha2, ha3⟩ := am_kd_at hk
  obtain ⟨⟨y1, y2, y3, y4, y5⟩, ⟨y6, y7, y8, y9, y10⟩, y11, y12, y13⟩ := hY
  have hw : am_wo G (K.1.set a.toNat (tag, n, rs.set i v), K.2) M = (am_wo G K M).set a.toNat (G.1 a.toNat, x) := by
    rw [am_wo_set (K := K) (M := M) (i := a.toNat) (e' := (tag, n, rs.set i v)) (by simp) (fun j hj => by rw [List.getElem?_set_ne (fun q => hj q.symm)]) (by rw [List.getElem?_set_self ha2]) (fun j hj => rfl), hx]
  have ht : am_tys G (K.1.set a.toNat (tag, n, rs.set i v), K.2) = am_tys G K := by
    refine am_tys_set (by simp) (fun j => ?_)
    by_cases hj : j = a.toNat
    · subst hj
      rw [am_getD (e := (tag, n, rs.set i v)) (by rw [List.getElem?_set_self ha2]), am_getD ha1]
    · simp only [List.getD, List.getElem?_set_ne (fun q => hj q.symm)]
  have hm : am_mok (K.1.set a.toNat (tag, n, rs.set i v), K.2) M := by
    intro j e he
    show (∀ r ∈ e.2.2, -1 ≤ r ∧ r < (((K.1.set a.toNat (tag, n, rs.set i v)).length : Nat) : Int)) ∧ _ ∧ ∀ k : Nat, e.1 < 10 → am_fk e.1 k = 2 → -1 ≤ M j k ∧ M j k < (((K.1.set a.toNat (tag, n, rs.set i v)).length : Nat) : Int)
    rw [List.length_set]
    by_cases hj : j = a.toNat
    · subst hj
      obtain ⟨h1, h2, h3⟩ := y5 _ _ ha1
      have he2 : e = (tag, n, rs.set i v) := by
        rw [List.getElem?_set_self ha2] at he
        exact (Option.some.inj he).symm
      subst he2
      refine ⟨fun r hr => ?_, h2, h3⟩
      rcases List.mem_or_eq_of_mem_set hr with h | h
      · exact h1 r h
      · subst h
        exact hv
    · have he' : K.1[j]? = some e := by
        rw [← he]
        exact (List.getElem?_set_ne (fun q => hj q.symm)).symm
      exact y5 j e he'
  refine ⟨⟨by rw [ht]; exact y1, by rw [hw]; exact hP, by rw [hw]; exact hD, hS, hm⟩, ⟨by simpa using y6, y7, y8, fun h => absurd h hmc, y10⟩, y11, y12, y13⟩
theorem am_lr_ref {G : am_G} {nL : Nat} {rl : Array Slot} {i : Nat} {e : am_C} (h : am_lr G K nL ls rl) : am_lr G (K.1.set i e, K.2) nL ls rl := am_lr_ext (K := K) (by simp) (fun _ _ => ⟨rfl, rfl⟩) rfl h
/-- into a fixed reference, in a constructor -/
theorem s_putF {a : Int} {ci N k : Nat} {rs : List Int} {C : String} {T : u_T} {ty0 : Nat → FieldType} {x : Int} (hmc : am_mc mi ≠ 0) (hd : decode (am_cc mi) pc = .ok (.putfield idx, 3)) (hc : am_kd K a = some (ci, N, rs)) (hci : ci < 10) (hcl : vwCl[ci]? = some (C, T, N)) (hin : ∀ w ∈ u_ws C T N, w ∈ am_tb)
    (hty : ∀ k, k < N → parseFieldDescriptor (T k).2.2.1 = some (ty0 k)) (hnm : ∀ a, a < N → ∀ b, b < N → a ≠ b → (T a).2.1 ≠ (T b).2.1)
    (hk0 : k < N) (hrs : k < rs.length) (hw : Cond.fieldLink (am_own mi) idx (T k).1 (T k).2.1 (T k).2.2.1 ∈ am_tb) (hfin : (T k).2.2.2 = true) (hini : (am_y mi).name = "<init>") (hown : (T k).1 = am_own mi)
    (hf : am_fk ci k = 3) (ht : (∃ n, ty0 k = .object n) ∨ ∃ t, ty0 k = .array t) (hx1 : -1 ≤ x)
    (k1 : am_At mi (pc + 3) ls stk (K.1.set a.toNat (ci, N, rs.set k x), K.2) M Q) : am_At mi pc ls (vr x :: vr a :: stk) K M Q := by
  intro p l e s m args below meth c Z A D G0 K0 M0 G H locs rl hS hY hL hk hR
  obtain ⟨hx, hk⟩ := List.forall_mem_cons.mp hk
  obtain ⟨ha, hk⟩ := List.forall_mem_cons.mp hk
  obtain ⟨ha0, ha1, ha2, ha3⟩ := am_kd_at hc
  have he := am_wo_at (G := G) (M := M) ha1
  rw [am_en_obj (show (ci, N, rs).1 < 10 from hci)] at he
  rw [List.map_cons, List.map_cons, am_cv_ref ha0, am_cv_rf hx1]
  have hnar : narrow (ty0 k) (va_rf (am_rf G x)) = va_rf (am_rf G x) ∧ fits (ty0 k) (va_rf (am_rf G x)) = true := by
    rcases ht with ⟨n, t⟩ | ⟨n, t⟩ <;> rw [t] <;> cases am_rf G x <;> exact ⟨rfl, rfl⟩
  refine va_putF hS.1 hS.2.1 hS.2.2.2.2.2.2.2.1 hin ty0 hty hnm hS.2.2.2.2.2.2.1 hY.1.1 hY.1.2.1 hY.1.2.2.1 hY.1.2.2.2.1 a.toNat he hcl k hk0 (hS.2.2.2.2.2.2.2.1 _ hw) (fun x h => h) hfin (by rw [hS.2.2.2.2.2.1]; exact hini) hown (hty k hk0) hnar.1 hnar.2 (by simpa using hk0) hd (fun H1 locs1 q1 q2 q3 => ?_)
  refine k1 _ _ _ _ _ _ _ _ _ _ _ _ _ _ _ _ _ _ _ hS (am_Y_ref hY hmc hc ⟨hx1, hx.2⟩ ?_ q1 q2 q3) (am_lr_ref hL) (fun v hv => am_ok_ext (K := K) (by simp) (hk v hv)) hR
  rw [am_en_obj (show (ci, N, rs.set k x).1 < 10 from hci)]
  congr 2
  apply List.ext_getElem?
  intro j
  by_cases hj : j < N
  · rw [am_fields_at (e := (ci, N, rs.set k x)) hj]
    by_cases hjk : j = k
    · subst hjk
      rw [List.getElem?_set_self (by simpa using hj)]
      congr 1
      show (if am_fk ci j = 2 then _ else if am_fk ci j = 3 then va_rf (am_rf G ((rs.set j x).getD j (-1))) else _) = _
      rw [if_neg (by rw [hf]; decide), if_pos hf, List.getD, List.getElem?_set_self hrs]
      rfl
    · rw [List.getElem?_set_ne (fun q => hjk q.symm), am_fields_at (e := (ci, N, rs)) hj]
      unfold am_fv
      show some (if am_fk ci j = 2 then _ else if am_fk ci j = 3 then va_rf (am_rf G ((rs.set k x).getD j (-1))) else _) = _
      rw [List.getD, List.getElem?_set_ne (fun q => hjk q.symm)]
      rfl
  · rw [List.getElem?_eq_none (by simp; omega), List.getElem?_eq_none (by simp; omega)]
theorem s_aastore {a i x : Int} {tag n cx Nx : Nat} {rs rx : List Int} {Cx : String} {Tx : u_T} (hmc : am_mc mi ≠ 0) (hd : decode (am_cc mi) pc = .ok (.aastore, 1)) (hc : am_kd K a = some (tag, n, rs)) (htag : (tag = 14 ∧ Cx = "AnyLength$Sentence") ∨ (tag = 15 ∧ Cx = "AnyLength$Program")) (hcx : am_kd K x = some (cx, Nx, rx)) (hcx1 : cx < 10) (hclx : vwCl[cx]? = some (Cx, Tx, Nx)) (h0 : 0 ≤ i) (h1 : i < (n : Int)) (hrs : rs.length = n)
    (k : am_At mi (pc + 1) ls stk (K.1.set a.toNat (tag, n, rs.set i.toNat x), K.2) M Q) : am_At mi pc ls (vr x :: vi i :: vr a :: stk) K M Q := by
  intro p l e s m args below meth c Z A D G0 K0 M0 G H locs rl hS hY hL hk hR
  obtain ⟨hx, hk⟩ := List.forall_mem_cons.mp hk
  obtain ⟨hi, hk⟩ := List.forall_mem_cons.mp hk
  obtain ⟨ha, hk⟩ := List.forall_mem_cons.mp hk
  obtain ⟨ha0, ha1, ha2, ha3⟩ := am_kd_at hc
  obtain ⟨hx0, hx1, hx2, hx3⟩ := am_kd_at hcx
  have hex := am_wo_at (G := G) (M := M) hx1
  rw [am_en_obj (show (cx, Nx, rx).1 < 10 from hcx1)] at hex
  rw [List.map_cons, List.map_cons, List.map_cons, am_cv_ref ha0, am_cv_ref hx0]
  have hel : (fun j : Nat => am_rf G ((rs.set i.toNat x).getD j (-1))) = va_up (fun j : Nat => am_rf G (rs.getD j (-1))) i.toNat (some (G.1 x.toNat)) := by
    funext j
    unfold va_up
    by_cases hj : j = i.toNat
    · subst hj
      rw [if_pos rfl, List.getD, List.getElem?_set_self (by omega)]
      show am_rf G x = _
      unfold am_rf
      rw [if_neg (by omega)]
    · rw [if_neg hj, List.getD, List.getElem?_set_ne (fun q => hj q.symm)]
      rfl
  rcases htag with ⟨rfl, rfl⟩ | ⟨rfl, rfl⟩
  · obtain ⟨t0, ht0⟩ := am_tys_at (G := G) ha1 (t := .object "AnyLength$Sentence") rfl
    refine va_astq hS.1 hS.2.1 hY.1.1 hY.1.2.1 hY.1.2.2.1 hY.1.2.2.2.1 a.toNat t0 x.toNat cx (am_wo_at ha1) ht0 hex hclx (am_in hi h0 h1) hd (fun H1 locs1 q1 q2 q3 => ?_)
    refine k _ _ _ _ _ _ _ _ _ _ _ _ _ _ _ _ _ _ _ hS (am_Y_ref hY hmc hc ⟨by omega, by omega⟩ ?_ q1 q2 q3) (am_lr_ref hL) (fun v hv => am_ok_ext (K := K) (by simp) (hk v hv)) hR
    show Sum.inl (G.2.1 a.toNat, n, Sum.inr (Sum.inr (Sum.inr (Sum.inr (fun j : Nat => am_rf G ((rs.set i.toNat x).getD j (-1))))))) = _
    rw [hel, am_clamp hi]
  · obtain ⟨t0, ht0⟩ := am_tys_at (G := G) ha1 (t := .object "AnyLength$Program") rfl
    refine va_astq hS.1 hS.2.1 hY.1.1 hY.1.2.1 hY.1.2.2.1 hY.1.2.2.2.1 a.toNat t0 x.toNat cx (am_wo_at ha1) ht0 hex hclx (am_in hi h0 h1) hd (fun H1 locs1 q1 q2 q3 => ?_)
    refine k _ _ _ _ _ _ _ _ _ _ _ _ _ _ _ _ _ _ _ hS (am_Y_ref hY hmc hc ⟨by omega, by omega⟩ ?_ q1 q2 q3) (am_lr_ref hL) (fun v hv => am_ok_ext (K := K) (by simp) (hk v hv)) hR
    show Sum.inl (G.2.1 a.toNat, n, Sum.inr (Sum.inr (Sum.inr (Sum.inr (fun j : Nat => am_rf G ((rs.set i.toNat x).getD j (-1))))))) = _
    rw [hel, am_clamp hi]
theorem s_objInit {a : Int} (hd : decode (am_cc mi) pc = .ok (.invokespecial idx, 3)) (hw1 : Cond.methodLink (am_own mi) idx objectInit ∈ am_tb) (hw2 : Cond.instanceMethod objectInit ∈ am_tb) (hw3 : Cond.code objectInit ⟨#[0xb1]⟩ 1 none ∈ am_tb) (ha0 : 0 ≤ a) (hfr : 1 ≤ am_fr mi) (hlo : am_ct stk + 12 ≤ am_lo mi)
    (k : am_At mi (pc + 3) ls stk K M Q) : am_At mi pc ls (vr a :: stk) K M Q := by
  intro p l e s m args below meth c Z A D G0 K0 M0 G H locs rl hS hY hL hk hR
  obtain ⟨ha, hk⟩ := List.forall_mem_cons.mp hk
  have hts := hS.2.2.2.2.2.2.2.1
  rw [List.map_cons, am_cv_ref ha0]
  refine W.objInit hS.1 hS.2.1 hS.2.2.2.2.2.2.1 (hts _ hw1) (hts _ hw2) (hts _ hw3) rfl (by rw [hS.2.2.1]; exact hL.2.1) rfl hd hfr ?_ (k p l e s m args below meth c Z A D G0 K0 M0 G H locs rl hS hY hL hk hR)
  show 2 * 0 + _ + 12 ≤ am_lo mi
  rw [am_ct_eq]
  omega
end AM
