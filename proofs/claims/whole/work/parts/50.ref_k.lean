/-! ===== the reference: counts ===== -/
theorem c9_count {M : am_M} {Q : Option am_V → am_M → Prop} {w : Int} (hS : ∀ x : Int, 0 ≤ x ∧ x < 1296 → M 99 x = 0 ∨ M 99 x = 1) (k : ∀ M', fr9 M M' → Q (some (vi (if w = 0 then M 86 1 else if w = 1 then am_sm (M 99) 1296 else if w = 2 then M 86 31 else -2))) M') : am_CallN m9_count [vr 86, vi w] KS M Q := by
  have hf0 : fr9 M (am_up M 86 0 0) := fr9.up (by unfold kp; omega)
  have k := k _ hf0
  have e1 : am_up M 86 0 0 86 1 = M 86 1 := am_upn (Or.inr (by omega))
  have e31 : am_up M 86 0 0 86 31 = M 86 31 := am_upn (Or.inr (by omega))
  have e99 : ∀ x : Int, am_up M 86 0 0 99 x = M 99 x := fun x => am_upn (Or.inl (by omega))
  refine am_callN_of (by decide +kernel) rfl rfl (Nat.le_of_ble_eq_true rfl) ?_
  refine g9_count_0 ?_
  refine am_for (fun i => [some (vr 86), some (vi w), some (vi (am_sm (M 99) i.toNat)), some (vi i)]) (fun _ => am_up M 86 0 0) 0 1296 (by omega) rfl rfl ?_ (fun i h0 h1 ih => ?_)
  · refine g9_count_9 (fun _ => ?_) (fun c => by exfalso; omega)
    refine g9_count_39 (fun c0 => ?_) (fun c0 => ?_)
    · rw [if_neg c0] at k
      refine g9_count_50 (fun c1 => ?_) (fun c1 => ?_)
      · rw [if_neg c1] at k
        refine g9_count_59 (fun c2 => ?_) (fun c2 => ?_)
        · rw [if_neg c2] at k
          refine g9_count_71 ?_
          exact g9_count_73 k
        · rw [if_pos c2] at k
          refine g9_count_64 ?_
          rw [e31]
          exact g9_count_73 k
      · rw [if_pos c1] at k
        refine g9_count_55 ?_
        exact g9_count_73 k
    · rw [if_pos c0] at k
      refine g9_count_43 ?_
      rw [e1]
      exact g9_count_73 k
  · have hsm := am_sm_bnd (f := M 99) (c := 1) i.toNat (fun j h2 h3 => by have := hS j (by omega); omega)
    have h01 := hS i (by omega)
    have es := am_sm_s (f := M 99) h0
    have fin : ∀ u : Int, u = M 99 i → am_AtN m9_count 31 [some (vr 86), some (vi w), some (vi (am_sm (M 99) i.toNat)), some (vi i)] [vi u, vi (am_sm (M 99) i.toNat)] KS (am_up M 86 0 0) Q := by
      intro u hu
      refine g9_count_31 (by omega) (by omega) ?_
      rw [hu, es]
      exact ih
    refine g9_count_9 (fun c => by exfalso; omega) (fun _ => ?_)
    refine g9_count_16 h0 (by omega) (fun c => ?_) (fun c => ?_)
    · rw [e99] at c
      exact g9_count_30 (fin 0 (by omega))
    · rw [e99] at c
      exact g9_count_26 (fin 1 (by omega))
