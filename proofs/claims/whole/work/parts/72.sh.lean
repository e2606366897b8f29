/-! ===== what a method returns has its shape ===== -/
def am_sh (mi : am_I) (r : Option am_V) : Prop := (am_rt mi = some .int → ∃ x, r = some (vi x)) ∧ (am_rt mi = some .long → ∃ x, r = some (vl x))
theorem am_sh_of {mi : am_I} {pc : Nat} {r : Option am_V} (h : am_rd mi pc r) : am_sh mi r := by
  refine ⟨fun e => ?_, fun e => ?_⟩
  · rcases r with _ | x | x | x
    · have := h.1
      rw [e] at this
      cases this
    · exact ⟨x, rfl⟩
    · have := h.2
      rw [e] at this
      cases this
    · obtain ⟨n, hn⟩ := h.2.1
      rw [e] at hn
      cases hn
  · rcases r with _ | x | x | x
    · have := h.1
      rw [e] at this
      cases this
    · rcases h.2 with h | h
      · rw [e] at h
        cases h
      · have := h.1
        rw [e] at this
        cases this
    · exact ⟨x, rfl⟩
    · obtain ⟨n, hn⟩ := h.2.1
      rw [e] at hn
      cases hn
theorem am_At_sh {mi : am_I} {pc : Nat} {ls : am_L} {stk : List am_V} {K : am_K} {M : am_M} {Q : am_Q} (h : am_At mi pc ls stk K M Q) : am_At mi pc ls stk K M (fun r K' M' => Q r K' M' ∧ am_sh mi r) := by
  intro p l e s m args below meth c Z A D G0 K0 M0 G H locs rl hS hY hL hk hR
  exact h p l e s m args below meth c Z A D G0 K0 M0 G H locs rl hS hY hL hk (fun r K' M' G' H' locs' pc' rl' q y o d => hR r K' M' G' H' locs' pc' rl' ⟨q, am_sh_of d⟩ y o d)
theorem am_callN_sh {mi : am_I} {as : List am_V} {K : am_K} {M : am_M} {Q : Option am_V → am_M → Prop} (hy : plainName (am_y mi).cls = true) (hown : (am_y mi).cls = am_own mi) (hsc : am_sc mi = false) (hn : (am_ex as).length ≤ am_ml mi)
    (h : am_AtN mi 0 (am_ent (am_ml mi) as) [] (K.1, 0, 0) M Q) : am_CallN mi as K M (fun r M' => Q r M' ∧ am_sh mi r) := am_callN_of hy hown hsc hn (am_At_sh h)
theorem am_Call_neg {mi : am_I} {as : List am_V} {K : am_K} {M : am_M} {Q : am_Q} (h : am_Call mi as K M Q) : am_Call mi as K M (fun r K' M' => Q r K' M' ∧ ∀ a j : Int, a < 0 → M' a j = M a j) := by
  intro l D G sz hok hmok p e ha hc hk s m args below hf happ hP hK
  obtain ⟨n, o, h1, h2, h3, ⟨⟨⟨r, K', M', G', q, q2⟩, hF⟩, h5⟩⟩ := h l D G sz hok hmok p e ha hc hk s m args below hf happ hP hK
  exact ⟨n, o, h1, h2, h3, ⟨⟨⟨r, K', M', G', ⟨q, q2.2.2.2.1.2.2.2.2⟩, q2⟩, hF⟩, h5⟩⟩
theorem am_CallN_neg {mi : am_I} {as : List am_V} {K : am_K} {M : am_M} {Q : Option am_V → am_M → Prop} (h : am_CallN mi as K M Q) : am_CallN mi as K M (fun r M' => Q r M' ∧ ∀ a j : Int, a < 0 → M' a j = M a j) := am_Call_neg h
