/-! ===== a method's contract out of its body; calls ===== -/
theorem am_tb_good : ∀ w ∈ am_tb, goodWord w = true := fun w h => (List.mem_filter.mp h).2
theorem am_tb_of {w : Cond} (h : w ∈ lw_tbl) (g : goodWord w = true) : w ∈ am_tb := List.mem_filter.mpr ⟨h, g⟩
theorem am_good {mi : am_I} (h : Cond.code (am_y mi) (am_cc mi) (am_ml mi) (am_rt mi) ∈ am_tb) : GoodIn am_tb (am_ws mi) := by
  intro w hw
  have hm : w ∈ am_tb := by
    rcases List.mem_cons.mp hw with rfl | q
    · exact h
    · exact q
  exact ⟨hm, good_of_word (am_tb_good w hm)⟩
def am_ex : List am_V → am_L
  | [] => []
  | .inr (.inl x) :: r => some (.inr (.inl x)) :: none :: am_ex r
  | .inl x :: r => some (.inl x) :: am_ex r
  | .inr (.inr x) :: r => some (.inr (.inr x)) :: am_ex r
def am_ent (nL : Nat) (as : List am_V) : am_L := am_ex as ++ List.replicate (nL - (am_ex as).length) none
theorem am_sl_cons {G : am_G} (v : am_V) (r : List am_V) : lg_sl ((v :: r).map (am_cv G)) = (if (am_cv G v).category = 2 then [Slot.val (am_cv G v), Slot.second] else [Slot.val (am_cv G v)]) ++ lg_sl (r.map (am_cv G)) := by
  simp [lg_sl]
theorem am_ex_sl {G : am_G} : ∀ (as : List am_V), (lg_sl (as.map (am_cv G))).length = (am_ex as).length ∧ ∀ (i : Nat) (v : am_V), (am_ex as)[i]? = some (some v) → (lg_sl (as.map (am_cv G)))[i]? = some (.val (am_cv G v)) ∧ v ∈ as
  | [] => ⟨rfl, fun i v h => by simp [am_ex] at h⟩
  | .inr (.inl x) :: r => by
    obtain ⟨h1, h2⟩ := am_ex_sl (G := G) r
    have e1 : lg_sl ((Sum.inr (Sum.inl x) :: r).map (am_cv G)) = Slot.val (am_cv G (vl x)) :: Slot.second :: lg_sl (r.map (am_cv G)) := by
      rw [am_sl_cons]
      rfl
    rw [e1]
    refine ⟨by simp [am_ex, h1], fun i v h => ?_⟩
    match i, h with
    | 0, h =>
      cases h
      exact ⟨rfl, List.mem_cons_self⟩
    | 1, h => cases h
    | i + 2, h =>
      obtain ⟨a, b⟩ := h2 i v h
      exact ⟨a, List.mem_cons_of_mem _ b⟩
  | .inl x :: r => by
    obtain ⟨h1, h2⟩ := am_ex_sl (G := G) r
    have e1 : lg_sl ((Sum.inl x :: r).map (am_cv G)) = Slot.val (am_cv G (vi x)) :: lg_sl (r.map (am_cv G)) := by
      rw [am_sl_cons]
      rfl
    rw [e1]
    refine ⟨by simp [am_ex, h1], fun i v h => ?_⟩
    match i, h with
    | 0, h =>
      cases h
      exact ⟨rfl, List.mem_cons_self⟩
    | i + 1, h =>
      obtain ⟨a, b⟩ := h2 i v h
      exact ⟨a, List.mem_cons_of_mem _ b⟩
  | .inr (.inr x) :: r => by
    obtain ⟨h1, h2⟩ := am_ex_sl (G := G) r
    have e1 : lg_sl ((Sum.inr (Sum.inr x) :: r).map (am_cv G)) = Slot.val (am_cv G (vr x)) :: lg_sl (r.map (am_cv G)) := by
      rw [am_sl_cons, if_neg (by rw [am_cat]; simp)]
      rfl
    rw [e1]
    refine ⟨by simp [am_ex, h1], fun i v h => ?_⟩
    match i, h with
    | 0, h =>
      cases h
      exact ⟨rfl, List.mem_cons_self⟩
    | i + 1, h =>
      obtain ⟨a, b⟩ := h2 i v h
      exact ⟨a, List.mem_cons_of_mem _ b⟩
theorem am_ent_lr {G : am_G} {K : am_K} {nL : Nat} {as : List am_V} (hn : (am_ex as).length ≤ nL) (hok : ∀ v ∈ as, am_ok K v) :
    am_lr G K nL (am_ent nL as) ((lg_sl (as.map (am_cv G)) ++ List.replicate (nL - (lg_sl (as.map (am_cv G))).length) Slot.unset).toArray) := by
  obtain ⟨h1, h2⟩ := am_ex_sl (G := G) as
  have hl := lv_entry (as.map (am_cv G)) (n := nL) (by rw [h1]; exact hn)
  refine ⟨by simp [am_ent]; omega, hl.1, hl.2.1, fun i v hi => ?_⟩
  have hi' : (am_ex as)[i]? = some (some v) := by
    unfold am_ent at hi
    by_cases hlt : i < (am_ex as).length
    · rwa [List.getElem?_append_left hlt] at hi
    · rw [List.getElem?_append_right (by omega), List.getElem?_replicate] at hi
      split at hi <;> cases hi
  obtain ⟨a, b⟩ := h2 i v hi'
  refine ⟨?_, hok v b⟩
  rw [List.getElem?_toArray, List.getElem?_append_left (List.getElem?_eq_some_iff.mp a).1]
  exact a
theorem am_free {A : Nat → Prop} {ws : va_W} {H0 H : Heap} {locs : List Loc} (hD : va_D A ws) (hS : va_S A H0 H locs) (hA : ∀ q, H0.size ≤ q → A q) : ∀ q, va_A ws H.size q → A q := by
  intro q h
  rcases h with ⟨k, e, h⟩ | h
  · exact hD.2 k (q, e) h
  · exact hA q (Nat.le_trans hS.1 h)
theorem am_nest_warm {s U : State} (hW : s.WarmedH U.vm) (h : ∀ w ∈ am_nests, va_Nw w s) : ∀ w ∈ am_nests, va_Nw w U := by
  intro w hw
  have h1 := h w hw
  have h2 := (List.mem_filter.mp hw).2
  cases w with
  | methodLinkNest a i x b => exact va_Nw.warmM hW h1
  | _ => simp at h2
theorem am_nest_same {s U : State} (hW : s.vm = U.vm) (h : ∀ w ∈ am_nests, va_Nw w s) : ∀ w ∈ am_nests, va_Nw w U := by
  intro w hw
  have h1 := h w hw
  have h2 := (List.mem_filter.mp hw).2
  cases w with
  | methodLinkNest a i x b => exact va_Nw.same rfl hW h1
  | _ => simp at h2
theorem am_blind {D : va_G} {G : am_G} {K : am_K} {M : am_M} {sz : Nat} {av : List Value} : FrameBlind (va_Pc av (am_Pc D G K M sz)) := by
  intro a U g mk h
  obtain ⟨h0, h1, h2, h3, h4, h5, h6⟩ := h
  exact ⟨h0, h1, h2, va_K.moved (u := U) (U := U.calling g mk a) (Vm.Alike.refl U.vm) h3, h4, am_nest_same (s := U) (U := U.calling g mk a) rfl h5, fun C hC => va_AO.moved (u := U) (U := U.calling g mk a) (Vm.Alike.refl U.vm) (h6 C hC)⟩
theorem am_call_of {mi : am_I} {as : List am_V} {K : am_K} {M : am_M} {Q : am_Q} (hy : plainName (am_y mi).cls = true) (hown : (am_y mi).cls = am_own mi) (hsc : am_sc mi = false) (hn : (am_ex as).length ≤ am_ml mi)
    (h : am_At mi 0 (am_ent (am_ml mi) as) [] (K.1, 0, 0) M Q) : am_Call mi as (K.1, 0, 0) M Q := by
  intro l D G sz hok hmok
  refine Met.ofW (cc := am_cc mi) (maxL := am_ml mi) (ret := am_rt mi) hy rfl ?_
  intro p e s m args below meth c s₁ B hml hv
  obtain ⟨rfl, hsz, hP, hK, hD, hN, hAO⟩ := hv
  subst hsz
  have hts := atoms_spec (ws := am_ws mi) B.pre
  have hfc : s.vm.findClass (am_own mi) = some m.cls := by
    rw [← hown]
    exact findClass_of_methodNamed B.named
  rw [lg_entry_eq]
  refine h p l e s m _ below meth c _ (va_A (am_wo G (K.1, 0, 0) M) s.heap.size) D G (K.1, 0, 0) M G s.heap [] _ ⟨B.exec, B.bytes, hml, B.returns, B.notSynchronized, (name_of_methodNamed B.named B.method).1, hfc, fun w hw => hts w (List.mem_cons_of_mem _ hw), hN, hAO, fun q hq => Or.inr hq⟩ ⟨⟨hK, hP, hD.self, va_S.rf, hmok⟩, ⟨Nat.le_refl _, fun _ _ => ⟨rfl, rfl⟩, rfl, fun _ => rfl, fun _ _ _ => rfl⟩, Nat.zero_le _, Nat.zero_le _, fun q => by rw [hsc] at q; cases q⟩ (am_ent_lr hn hok) (fun v hv => by cases hv) ?_
  intro r K' M' G' H' locs' pc' rl' hQ hY hrok hrd
  refine W.widen (k := am_mc mi) (n := am_ms mi) hY.2.2.1 hY.2.2.2.1 ?_
  have hq : ∀ t : State, t.heap = H' → s.WarmedH t.vm → am_Qc mi D G (K.1, 0, 0) M s.heap.size Q (as.map (am_cv G)).toArray s (.returned (r.map (am_cv G'))) t := by
    intro t ht hW
    exact ⟨⟨r, K', M', G', hQ, rfl, hrok, hY.1.2.2.2.2, hY.2.1, by rw [ht]; exact hY.1.2.1, va_K.moved hW.alike hY.1.1, hY.1.2.2.1⟩, hY.1.2.2.2.1.F ht⟩
  have hlk := B.notSynchronized
  have hrt := B.returns
  match r, hrd, hq with
  | none, hrd, hq =>
    rw [hrd.1] at hrt
    exact W.vret B.exec B.bytes hrt hq hY.1.2.2.2.1.2.2 hrd.2
  | some (.inl x), hrd, hq =>
    rcases hrd.2 with h2 | ⟨h2, h3⟩
    · rw [h2] at hrt
      exact W.iret B.exec B.bytes hrt hq hY.1.2.2.2.1.2.2 hrd.1
    · rw [h2] at hrt
      exact W.zret B.exec B.bytes hrt (by rcases h3 with rfl | rfl <;> rfl) hq hY.1.2.2.2.1.2.2 hrd.1
  | some (.inr (.inl x)), hrd, hq =>
    rw [hrd.2] at hrt
    exact W.lret B.exec B.bytes hrt hq hY.1.2.2.2.1.2.2 hrd.1
  | some (.inr (.inr x)), hrd, hq =>
    obtain ⟨h1, ⟨n, h2⟩, h3⟩ := hrd
    rw [h2] at hrt
    refine W.aret B.exec B.bytes hrt (Or.inl ⟨n, rfl⟩) ?_ hq hY.1.2.2.2.1.2.2 h1
    rcases am_cvr G' x with ⟨a, ha⟩ | ha
    · exact Or.inr ⟨a, ha⟩
    · exact Or.inl ha
/-- behind a call -/
theorem am_after {mi mi' : am_I} {pc : Nat} {ls : am_L} {stk : List am_V} {K : am_K} {M : am_M} {Q Q' : am_Q} {p : Program} {l : Launch} {e : Env} {s : State} {m : MethodId} {args : Array Value} {below : List Frame} {meth : Method} {c : Code} {Z : State → Prop} {A : Nat → Prop} {D : va_G} {G0 : am_G} {K0 : am_K} {M0 : am_M} {G : am_G} {H : Heap} {locs : List Loc} {rl : Array Slot} {st0 : List Value} {a : Array Value}
    (hrun : va_Run p l e (am_rm mi) s m args below meth c H locs K.2.1 K.2.2 (am_mc mi') (am_ms mi') (F0 m pc rl st0) (stk.map (am_cv G)) (am_Qc mi' D G (K.1, 0, 0) M H.size Q' a) (va_A (am_wo G (K.1, 0, 0) M) H.size))
    (hb : K.2.1 + am_mc mi' ≤ am_mc mi ∧ K.2.2 + am_ms mi' ≤ am_ms mi)
    (hS : am_S mi p s m args meth c A) (hY : am_Y mi s A D G0 K0 M0 G K M H locs) (hL : am_lr G K (am_ml mi) ls rl) (hk : ∀ v ∈ stk, am_ok K v)
    (hR : ∀ (r : Option am_V) (K' : am_K) (M' : am_M) (G' : am_G) (H' : Heap) (locs' : List Loc) (pc' : Nat) (rl' : Array Slot), Q r K' M' → am_Y mi s A D G0 K0 M0 G' K' M' H' locs' → (∀ v ∈ r.toList, am_ok K' v) → am_rd mi pc' r →
      W p l e (am_rm mi) s m args below meth c H' locs' K'.2.1 K'.2.2 Z (F0 m pc' rl' (r.toList.map (am_cv G'))))
    (k : ∀ (r : Option am_V) (K' : am_K) (M' : am_M), Q' r K' M' → (am_mc mi' = 0 → K'.1 = K.1) → am_At mi (pc + 3) ls (r.toList ++ stk) (K'.1, K.2.1 + am_mc mi', K.2.2 + am_ms mi') M' Q) :
    W p l e (am_rm mi) s m args below meth c H locs K.2.1 K.2.2 Z (F0 m pc rl st0) := by
  intro T hT X
  obtain ⟨v, st₀, t, T', L, h0, X', hLs, e1, e2, ⟨⟨r, K', M', G', hq, hv, hrok, hmok, ⟨x1, x2, x3, x4, x5⟩, hP, hKK, hD⟩, hz, hkk⟩, st⟩ := hrun T hT X
  cases hv
  rw [h0] at hz hkk
  obtain ⟨⟨y1, y2, y3, y4, y5⟩, ⟨y6, y7, y8, y9, y10⟩, y11, y12, y13⟩ := hY
  have hfree := am_free y3 y4 hS.2.2.2.2.2.2.2.2.2.2
  have halike : s.vm.Alike t.vm := by rw [← e2]; exact X'.warmed.alike
  have hS' : va_S A s.heap T'.heap (locs ++ L) :=
    ⟨Nat.le_trans y4.1 (by rw [e1]; exact hz), fun q h1 h2 => by rw [e1, hkk q (Nat.lt_of_lt_of_le h1 y4.1) (fun z => h2 (hfree q z))]; exact y4.2.1 q h1 h2, fun q hq => by
      rcases List.mem_append.mp hq with h | h
      · exact y4.2.2 q h
      · exact hfree _ (hLs q h)⟩
  have hmc0 : am_mc mi = 0 → K'.1 = K0.1 := fun h => (x4 (by omega)).trans (y9 h)
  have hlen0 : K0.1.length ≤ K'.1.length := Nat.le_trans y6 x1
  have hG0 : ∀ i, i < K0.1.length → G'.1 i = G0.1 i ∧ G'.2.1 i = G0.2.1 i := fun i hi => ⟨(x2 i (Nat.lt_of_lt_of_le hi y6)).1.trans (y7 i hi).1, (x2 i (Nat.lt_of_lt_of_le hi y6)).2.trans (y7 i hi).2⟩
  have hY' : am_Y mi s A D G0 K0 M0 G' (K'.1, K.2.1 + am_mc mi', K.2.2 + am_ms mi') M' T'.heap (locs ++ L) :=
    ⟨⟨va_K.moved halike.symm hKK, by rw [e1]; exact hP, hD.weaken (fun _ q _ h => hfree q.1 h), hS', hmok⟩, ⟨hlen0, hG0, x3.trans y8, hmc0, fun b j hb => (x5 b j hb).trans (y10 b j hb)⟩, hb.1, hb.2, y13⟩
  have hstk : (r.map (am_cv G')).toList ++ stk.map (am_cv G) = (r.toList ++ stk).map (am_cv G') := by
    rw [List.map_append]
    congr 1
    · cases r <;> rfl
    · exact List.map_congr_left (fun v hv => (am_cv_ext x2 x3 (hk v hv)).symm)
  have hk' : ∀ v ∈ r.toList ++ stk, am_ok (K'.1, K.2.1 + am_mc mi', K.2.2 + am_ms mi') v := by
    intro v hv
    rcases List.mem_append.mp hv with h | h
    · exact hrok v h
    · exact am_ok_ext (K := K) x1 (hk v h)
  have hk2 := k r K' M' hq x4 p l e s m args below meth c Z A D G0 K0 M0 G' T'.heap (locs ++ L) rl hS hY' (am_lr_ext (K := K) x1 x2 x3 hL) hk' hR
  obtain ⟨t2, a1, b1⟩ := hk2 T' rfl X'
  refine ⟨t2, st t2 ?_, b1⟩
  rw [hstk]
  exact a1
def am_ct : List am_V → Nat
  | [] => 0
  | .inr (.inl _) :: r => 2 + am_ct r
  | .inl _ :: r => 1 + am_ct r
  | .inr (.inr _) :: r => 1 + am_ct r
theorem am_ct_eq {G : am_G} : ∀ (stk : List am_V), ((stk.map (am_cv G)).map fun v => v.category).sum = am_ct stk
  | [] => rfl
  | .inr (.inl x) :: r => by
    rw [List.map_cons, List.map_cons, List.sum_cons, am_ct_eq r]
    rfl
  | .inl x :: r => by
    rw [List.map_cons, List.map_cons, List.sum_cons, am_ct_eq r]
    rfl
  | .inr (.inr x) :: r => by
    rw [List.map_cons, List.map_cons, List.sum_cons, am_ct_eq r, am_cat]
    rfl
/-- what a call's link says: static, virtual, of a constructor, static by a nest mate -/
def am_lk0 (mi' : am_I) (n : Nat) : Prop := Cond.code (am_y mi') (am_cc mi') (am_ml mi') (am_rt mi') ∈ am_tb ∧ Cond.initialized (am_y mi').cls ∈ am_tb ∧ ((am_y mi').cls ≠ "java/lang/invoke/MethodHandle" ∧ (am_y mi').cls ≠ "java/lang/invoke/VarHandle" ∧ (parseMethodDescriptor (am_y mi').desc).map (fun d => d.parameters.length) = some n)
def am_lkS (own : String) (idx : Nat) (mi' : am_I) (n : Nat) : Prop := am_lk0 mi' n ∧ Cond.methodLink own idx (am_y mi') ∈ am_tb ∧ Cond.static (am_y mi') ∈ am_tb
def am_lkN (own : String) (idx : Nat) (mi' : am_I) (n : Nat) : Prop := am_lk0 mi' n ∧ (∃ host, Cond.methodLinkNest own idx (am_y mi') host ∈ am_nests) ∧ Cond.static (am_y mi') ∈ am_tb
def am_lkV (own : String) (idx : Nat) (mi' : am_I) (n : Nat) : Prop := am_lk0 mi' n ∧ Cond.methodLink own idx (am_y mi') ∈ am_tb ∧ Cond.instanceMethod (am_y mi') ∈ am_tb ∧ Cond.selects (am_y mi').cls (am_y mi') (am_y mi') ∈ am_tb
def am_lkI (own : String) (idx : Nat) (mi' : am_I) (n : Nat) : Prop := am_lk0 mi' n ∧ Cond.methodLink own idx (am_y mi') ∈ am_tb ∧ Cond.instanceMethod (am_y mi') ∈ am_tb ∧ (am_y mi').name = "<init>" ∧ am_rt mi' = none
section AM
variable {mi mi' : am_I} {pc idx : Nat} {ls : am_L} {stk : List am_V} {K : am_K} {M : am_M} {Q : am_Q}
theorem am_pre {D : va_G} {G : am_G} {H : Heap} {s : State} {p : Program} {m : MethodId} {args : Array Value} {meth : Method} {c : Code} {A : Nat → Prop} {G0 : am_G} {K0 : am_K} {M0 : am_M} {locs : List Loc} {as : List am_V} (hS : am_S mi p s m args meth c A) (hY : am_Y mi s A D G0 K0 M0 G K M H locs) :
    ∀ U : State, U.heap = H → s.WarmedH U.vm → va_Pc (as.map (am_cv G)) (am_Pc D G (K.1, 0, 0) M H.size) (as.map (am_cv G)).toArray U := by
  intro U hU hW
  exact ⟨rfl, by rw [hU], by rw [hU]; exact hY.1.2.1, va_K.moved hW.alike hY.1.1, hY.1.2.2.1.weaken (fun _ _ _ _ => trivial), am_nest_warm hW hS.2.2.2.2.2.2.2.2.1, fun C hC => va_AO.moved hW.alike (hS.2.2.2.2.2.2.2.2.2.1 C hC)⟩
theorem s_callS {as : List am_V} (hd : decode (am_cc mi) pc = .ok (.invokestatic idx, 3)) (hl : am_lkS (am_own mi) idx mi' as.length) (hroom : am_fr mi' + 1 ≤ am_fr mi ∧ 8 + (am_ml mi' + 11) + am_lo mi' ≤ am_lo mi) (hcat : am_ct stk ≤ 8) (hb : K.2.1 + am_mc mi' ≤ am_mc mi ∧ K.2.2 + am_ms mi' ≤ am_ms mi)
    (k : am_Call mi' as (K.1, 0, 0) M (fun r K' M' => (am_mc mi' = 0 → K'.1 = K.1) → am_At mi (pc + 3) ls (r.toList ++ stk) (K'.1, K.2.1 + am_mc mi', K.2.2 + am_ms mi') M' Q)) : am_At mi pc ls (as.reverse ++ stk) K M Q := by
  intro p l e s m args below meth c Z A D G0 K0 M0 G H locs rl hS hY hL hk hR
  obtain ⟨⟨l1, l2, l3⟩, l4, l5⟩ := hl
  have hts := hS.2.2.2.2.2.2.2.1
  have hka : ∀ v ∈ as, am_ok (K.1, 0, 0) v := fun v hv => hk v (List.mem_append.mpr (Or.inl (List.mem_reverse.mpr hv)))
  have hks : ∀ v ∈ stk, am_ok K v := fun v hv => hk v (List.mem_append.mpr (Or.inr hv))
  have hM := k l D G H.size hka hY.1.2.2.2.2
  have hw : am_ws mi' = Cond.code (am_y mi') (am_cc mi') (am_ml mi') (am_rt mi') :: am_tb := rfl
  have cb := callB_of (own := am_own mi) (index := idx) (args := args) (R := am_rm mi) (rm := am_rm mi') (mc := am_mc mi') (ms := am_ms mi') as.length hts (am_good l1) hw rfl rfl (hts _ l2) (hts _ l4) l3 hroom
  have hrun := va_runS (As := as.map (am_cv G)) (rest := stk.map (am_cv G)) (g := F0 m pc rl ((as.reverse ++ stk).map (am_cv G))) (H := H) (locs := locs) (cells := K.2.1) (slots := K.2.2) (p := p) (e := e) (below := below) (meth := meth) (c := c) ⟨hS.1, hS.2.1, hS.2.2.1, hS.2.2.2.2.2.2.1, hts⟩ hM ⟨cb, hts _ l5⟩ ⟨am_blind, am_pre hS hY⟩ rfl (List.length_map ..) hL.2.1 (by rw [List.map_append, List.map_reverse]) (lv_room (by rw [am_ct_eq]; exact hcat)) hd hb
  exact am_after hrun hb hS hY hL hks hR (fun r K' M' h1 h2 => h1 h2)
theorem s_callN {as : List am_V} (hd : decode (am_cc mi) pc = .ok (.invokestatic idx, 3)) (hl : am_lkN (am_own mi) idx mi' as.length) (hroom : am_fr mi' + 1 ≤ am_fr mi ∧ 8 + (am_ml mi' + 11) + am_lo mi' ≤ am_lo mi) (hcat : am_ct stk ≤ 8) (hb : K.2.1 + am_mc mi' ≤ am_mc mi ∧ K.2.2 + am_ms mi' ≤ am_ms mi)
    (k : am_Call mi' as (K.1, 0, 0) M (fun r K' M' => (am_mc mi' = 0 → K'.1 = K.1) → am_At mi (pc + 3) ls (r.toList ++ stk) (K'.1, K.2.1 + am_mc mi', K.2.2 + am_ms mi') M' Q)) : am_At mi pc ls (as.reverse ++ stk) K M Q := by
  intro p l e s m args below meth c Z A D G0 K0 M0 G H locs rl hS hY hL hk hR
  obtain ⟨⟨l1, l2, l3⟩, ⟨host, l4⟩, l5⟩ := hl
  have hts := hS.2.2.2.2.2.2.2.1
  have hka : ∀ v ∈ as, am_ok (K.1, 0, 0) v := fun v hv => hk v (List.mem_append.mpr (Or.inl (List.mem_reverse.mpr hv)))
  have hks : ∀ v ∈ stk, am_ok K v := fun v hv => hk v (List.mem_append.mpr (Or.inr hv))
  have hM := k l D G H.size hka hY.1.2.2.2.2
  have hw : am_ws mi' = Cond.code (am_y mi') (am_cc mi') (am_ml mi') (am_rt mi') :: am_tb := rfl
  have cb := va_cnB (own := am_own mi) (index := idx) (args := args) (R := am_rm mi) (rm := am_rm mi') (mc := am_mc mi') (ms := am_ms mi') as.length hts (am_good l1) hw rfl rfl (hS.2.2.2.2.2.2.2.2.1 _ l4) (hts _ l2) l3 hroom
  have hrun := va_runSN (As := as.map (am_cv G)) (rest := stk.map (am_cv G)) (g := F0 m pc rl ((as.reverse ++ stk).map (am_cv G))) (H := H) (locs := locs) (cells := K.2.1) (slots := K.2.2) (p := p) (e := e) (below := below) (meth := meth) (c := c) ⟨hS.1, hS.2.1, hS.2.2.1, hS.2.2.2.2.2.2.1, hts⟩ hM ⟨cb, hts _ l5, trivial⟩ ⟨am_blind, am_pre hS hY⟩ rfl (List.length_map ..) hL.2.1 (by rw [List.map_append, List.map_reverse]) (lv_room (by rw [am_ct_eq]; exact hcat)) hd hb
  exact am_after hrun hb hS hY hL hks hR (fun r K' M' h1 h2 => h1 h2)
theorem s_callV {as : List am_V} {a : Int} {ci N : Nat} {rs : List Int} {C : String} {T : u_T} (hd : decode (am_cc mi) pc = .ok (.invokevirtual idx, 3)) (hl : am_lkV (am_own mi) idx mi' as.length) (hc : am_kd K a = some (ci, N, rs)) (hci : ci < 10) (hcl : vwCl[ci]? = some (C, T, N)) (hC : (am_y mi').cls = C) (hroom : am_fr mi' + 1 ≤ am_fr mi ∧ 8 + (am_ml mi' + 11) + am_lo mi' ≤ am_lo mi) (hcat : am_ct stk ≤ 8) (hb : K.2.1 + am_mc mi' ≤ am_mc mi ∧ K.2.2 + am_ms mi' ≤ am_ms mi)
    (k : am_Call mi' (vr a :: as) (K.1, 0, 0) M (fun r K' M' => (am_mc mi' = 0 → K'.1 = K.1) → am_At mi (pc + 3) ls (r.toList ++ stk) (K'.1, K.2.1 + am_mc mi', K.2.2 + am_ms mi') M' Q)) : am_At mi pc ls (as.reverse ++ vr a :: stk) K M Q := by
  intro p l e s m args below meth c Z A D G0 K0 M0 G H locs rl hS hY hL hk hR
  obtain ⟨⟨l1, l2, l3⟩, l4, l5, l6⟩ := hl
  obtain ⟨ha0, ha1, ha2, ha3⟩ := am_kd_at hc
  have hts := hS.2.2.2.2.2.2.2.1
  have hka : ∀ v ∈ vr a :: as, am_ok (K.1, 0, 0) v := fun v hv => by
    rcases List.mem_cons.mp hv with rfl | h
    · exact hk _ (List.mem_append.mpr (Or.inr List.mem_cons_self))
    · exact hk v (List.mem_append.mpr (Or.inl (List.mem_reverse.mpr h)))
  have hks : ∀ v ∈ stk, am_ok K v := fun v hv => hk v (List.mem_append.mpr (Or.inr (List.mem_cons_of_mem _ hv)))
  have hM := k l D G H.size hka hY.1.2.2.2.2
  have hw : am_ws mi' = Cond.code (am_y mi') (am_cc mi') (am_ml mi') (am_rt mi') :: am_tb := rfl
  have cb := callB_of (own := am_own mi) (index := idx) (args := args) (R := am_rm mi) (rm := am_rm mi') (mc := am_mc mi') (ms := am_ms mi') as.length hts (am_good l1) hw rfl rfl (hts _ l2) (hts _ l4) l3 hroom
  have he := am_wo_at (G := G) (M := M) ha1
  rw [am_en_obj (show (ci, N, rs).1 < 10 from hci)] at he
  have hrec := va_recv hY.1.1 hY.1.2.1 hcl he
  have hpre := am_pre (as := vr a :: as) hS hY
  rw [List.map_cons, am_cv_ref ha0] at hpre hM
  subst hC
  have hrun := va_runV (As := as.map (am_cv G)) (rest := stk.map (am_cv G)) (b := G.1 a.toNat) (C := (am_y mi').cls) (g := F0 m pc rl ((as.reverse ++ vr a :: stk).map (am_cv G))) (H := H) (locs := locs) (cells := K.2.1) (slots := K.2.2) (p := p) (e := e) (below := below) (meth := meth) (c := c) ⟨hS.1, hS.2.1, hS.2.2.1, hS.2.2.2.2.2.2.1, hts⟩ hM ⟨cb, hts _ l5, hts _ l6⟩ ⟨am_blind, hrec, hpre⟩ rfl (List.length_map ..) hL.2.1 (by rw [List.map_append, List.map_reverse, List.map_cons, am_cv_ref ha0]) (lv_room (by rw [am_ct_eq]; exact hcat)) hd hb
  exact am_after hrun hb hS hY hL hks hR (fun r K' M' h1 h2 => h1 h2)
theorem s_callI {as : List am_V} {a : Int} (hd : decode (am_cc mi) pc = .ok (.invokespecial idx, 3)) (hl : am_lkI (am_own mi) idx mi' as.length) (ha0 : 0 ≤ a) (hroom : am_fr mi' + 1 ≤ am_fr mi ∧ 8 + (am_ml mi' + 11) + am_lo mi' ≤ am_lo mi) (hcat : am_ct stk ≤ 8) (hb : K.2.1 + am_mc mi' ≤ am_mc mi ∧ K.2.2 + am_ms mi' ≤ am_ms mi)
    (k : am_Call mi' (vr a :: as) (K.1, 0, 0) M (fun r K' M' => (am_mc mi' = 0 → K'.1 = K.1) → am_At mi (pc + 3) ls (r.toList ++ stk) (K'.1, K.2.1 + am_mc mi', K.2.2 + am_ms mi') M' Q)) : am_At mi pc ls (as.reverse ++ vr a :: stk) K M Q := by
  intro p l e s m args below meth c Z A D G0 K0 M0 G H locs rl hS hY hL hk hR
  obtain ⟨⟨l1, l2, l3⟩, l4, l5, l6, l7⟩ := hl
  have hts := hS.2.2.2.2.2.2.2.1
  have hka : ∀ v ∈ vr a :: as, am_ok (K.1, 0, 0) v := fun v hv => by
    rcases List.mem_cons.mp hv with rfl | h
    · exact hk _ (List.mem_append.mpr (Or.inr List.mem_cons_self))
    · exact hk v (List.mem_append.mpr (Or.inl (List.mem_reverse.mpr h)))
  have hks : ∀ v ∈ stk, am_ok K v := fun v hv => hk v (List.mem_append.mpr (Or.inr (List.mem_cons_of_mem _ hv)))
  have hM := k l D G H.size hka hY.1.2.2.2.2
  have hw : am_ws mi' = Cond.code (am_y mi') (am_cc mi') (am_ml mi') none :: am_tb := by rw [← l7]; rfl
  have cb := callB_of (own := am_own mi) (index := idx) (args := args) (R := am_rm mi) (rm := am_rm mi') (mc := am_mc mi') (ms := am_ms mi') as.length hts (am_good l1) hw rfl rfl (hts _ l2) (hts _ l4) l3 hroom
  have hpre := am_pre (as := vr a :: as) hS hY
  rw [List.map_cons, am_cv_ref ha0] at hpre hM
  have hrun := va_runI (As := as.map (am_cv G)) (rest := stk.map (am_cv G)) (b := G.1 a.toNat) (g := F0 m pc rl ((as.reverse ++ vr a :: stk).map (am_cv G))) (H := H) (locs := locs) (cells := K.2.1) (slots := K.2.2) (p := p) (e := e) (below := below) (meth := meth) (c := c) ⟨hS.1, hS.2.1, hS.2.2.1, hS.2.2.2.2.2.2.1, hts⟩ hM ⟨cb, l6, hts _ l5⟩ ⟨am_blind, hpre⟩ rfl (List.length_map ..) hL.2.1 (by rw [List.map_append, List.map_reverse, List.map_cons, am_cv_ref ha0]) (lv_room (by rw [am_ct_eq]; exact hcat)) hd hb
  exact am_after hrun hb hS hY hL hks hR (fun r K' M' h1 h2 => h1 h2)
end AM
