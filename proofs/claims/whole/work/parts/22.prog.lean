/-! ===== kinds; programs ===== -/
theorem am_forR {mi : am_I} {hd : Nat} {ls0 : am_L} {stk : List am_V} {K : am_K} {M0 : am_M} {Q : Option am_V → am_M → Prop} (P : Int → am_L → am_M → Prop) (lo n : Int) (hln : lo ≤ n) (hP : P lo ls0 M0)
    (fin : ∀ ls M, P n ls M → am_AtN mi hd ls stk K M Q) (step : ∀ i ls M, lo ≤ i → i < n → P i ls M → (∀ ls' M', P (i + 1) ls' M' → am_AtN mi hd ls' stk K M' Q) → am_AtN mi hd ls stk K M Q) : am_AtN mi hd ls0 stk K M0 Q := by
  have key : ∀ (d : Nat) (i : Int) (ls : am_L) (M : am_M), lo ≤ i → i + d = n → P i ls M → am_AtN mi hd ls stk K M Q := by
    intro d
    induction d with
    | zero =>
      intro i ls M _ h2 h3
      have : i = n := by omega
      subst this
      exact fin ls M h3
    | succ d ih =>
      intro i ls M h1 h2 h3
      exact step i ls M h1 (by omega) h3 (fun ls' M' h => ih (i + 1) ls' M' (by omega) (by omega) h)
  exact key (n - lo).toNat lo ls0 M0 (Int.le_refl _) (by omega) hP
def kh (kind p k : Int) : Int := if kind = 1 then (if p < k then 1 else 0) else if kind = 2 ∨ kind = 5 ∨ kind = 6 then (if p = 1 then 1 else 0) else if kind = 3 ∨ kind = 4 then (if p = 0 then 1 else 0) else if kind = 7 then (if p ≤ k then 1 else 0) else 1
def kn (kind a p x k : Int) : Int := if kind = 1 then (if x < p then k else x) else if kind = 2 ∨ kind = 4 then (if p = 1 ∨ x = a then 1 else 0) else if kind = 3 then (if p + 1 < a then p + 1 else 0) else if kind = 5 then (if p ≠ 0 then p else if x = a then 1 else 2) else if kind = 6 then (if x = a then 1 else 0) else if kind = 7 then (if p = x + 1 ∨ k < p then k + 1 else x + 1) else 0
theorem kh01 (kind p k : Int) : kh kind p k = 0 ∨ kh kind p k = 1 := by
  unfold kh
  (repeat' split) <;> omega

theorem c6_kindHolds {K : am_K} {M : am_M} {Q : Option am_V → am_M → Prop} {kind p k0 : Int} (k : Q (some (vi (kh kind p k0))) M) : am_CallN m6_kindHolds [vi kind, vi p, vi k0] K M Q := by
  refine am_callN_of (by decide +kernel) rfl rfl (Nat.le_of_ble_eq_true rfl) ?_
  refine g6_kindHolds_0 (fun c1 => ?_) (fun c2 => ?_) (fun c3 => ?_) (fun c4 => ?_) (fun c5 => ?_) (fun c6 => ?_) (fun c7 => ?_) (fun c8 => ?_)
  · first
    | (exfalso; omega)
    | (refine g6_kindHolds_87 ?_
       exact am_qv (by unfold kh; (repeat' split) <;> omega) k)
  · first
    | (exfalso; omega)
    | (refine g6_kindHolds_44 (fun c9 => ?_) (fun c10 => ?_)
       · first
         | (exfalso; omega)
         | (refine g6_kindHolds_53 ?_
            refine g6_kindHolds_54 (by first | assumption | omega) ?_
            exact am_qv (by unfold kh; (repeat' split) <;> omega) k)
       · first
         | (exfalso; omega)
         | (refine g6_kindHolds_49 ?_
            refine g6_kindHolds_54 (by first | assumption | omega) ?_
            exact am_qv (by unfold kh; (repeat' split) <;> omega) k))
  · first
    | (exfalso; omega)
    | (refine g6_kindHolds_55 (fun c11 => ?_) (fun c12 => ?_)
       · first
         | (exfalso; omega)
         | (refine g6_kindHolds_64 ?_
            refine g6_kindHolds_65 (by first | assumption | omega) ?_
            exact am_qv (by unfold kh; (repeat' split) <;> omega) k)
       · first
         | (exfalso; omega)
         | (refine g6_kindHolds_60 ?_
            refine g6_kindHolds_65 (by first | assumption | omega) ?_
            exact am_qv (by unfold kh; (repeat' split) <;> omega) k))
  · first
    | (exfalso; omega)
    | (refine g6_kindHolds_66 (fun c13 => ?_) (fun c14 => ?_)
       · first
         | (exfalso; omega)
         | (refine g6_kindHolds_74 ?_
            refine g6_kindHolds_75 (by first | assumption | omega) ?_
            exact am_qv (by unfold kh; (repeat' split) <;> omega) k)
       · first
         | (exfalso; omega)
         | (refine g6_kindHolds_70 ?_
            refine g6_kindHolds_75 (by first | assumption | omega) ?_
            exact am_qv (by unfold kh; (repeat' split) <;> omega) k))
  · first
    | (exfalso; omega)
    | (refine g6_kindHolds_66 (fun c15 => ?_) (fun c16 => ?_)
       · first
         | (exfalso; omega)
         | (refine g6_kindHolds_74 ?_
            refine g6_kindHolds_75 (by first | assumption | omega) ?_
            exact am_qv (by unfold kh; (repeat' split) <;> omega) k)
       · first
         | (exfalso; omega)
         | (refine g6_kindHolds_70 ?_
            refine g6_kindHolds_75 (by first | assumption | omega) ?_
            exact am_qv (by unfold kh; (repeat' split) <;> omega) k))
  · first
    | (exfalso; omega)
    | (refine g6_kindHolds_55 (fun c17 => ?_) (fun c18 => ?_)
       · first
         | (exfalso; omega)
         | (refine g6_kindHolds_64 ?_
            refine g6_kindHolds_65 (by first | assumption | omega) ?_
            exact am_qv (by unfold kh; (repeat' split) <;> omega) k)
       · first
         | (exfalso; omega)
         | (refine g6_kindHolds_60 ?_
            refine g6_kindHolds_65 (by first | assumption | omega) ?_
            exact am_qv (by unfold kh; (repeat' split) <;> omega) k))
  · first
    | (exfalso; omega)
    | (refine g6_kindHolds_55 (fun c19 => ?_) (fun c20 => ?_)
       · first
         | (exfalso; omega)
         | (refine g6_kindHolds_64 ?_
            refine g6_kindHolds_65 (by first | assumption | omega) ?_
            exact am_qv (by unfold kh; (repeat' split) <;> omega) k)
       · first
         | (exfalso; omega)
         | (refine g6_kindHolds_60 ?_
            refine g6_kindHolds_65 (by first | assumption | omega) ?_
            exact am_qv (by unfold kh; (repeat' split) <;> omega) k))
  · first
    | (exfalso; omega)
    | (refine g6_kindHolds_76 (fun c21 => ?_) (fun c22 => ?_)
       · first
         | (exfalso; omega)
         | (refine g6_kindHolds_85 ?_
            refine g6_kindHolds_86 (by first | assumption | omega) ?_
            exact am_qv (by unfold kh; (repeat' split) <;> omega) k)
       · first
         | (exfalso; omega)
         | (refine g6_kindHolds_81 ?_
            refine g6_kindHolds_86 (by first | assumption | omega) ?_
            exact am_qv (by unfold kh; (repeat' split) <;> omega) k))

theorem c6_kindNext {K : am_K} {M : am_M} {Q : Option am_V → am_M → Prop} {kind a p x k0 : Int} (hp : 0 ≤ p ∧ p < 6) (hx : 0 ≤ x ∧ x < 4) (hk : 0 ≤ k0 ∧ k0 ≤ 4) (k : Q (some (vi (kn kind a p x k0))) M) : am_CallN m6_kindNext [vi kind, vi a, vi p, vi x, vi k0] K M Q := by
  refine am_callN_of (by decide +kernel) rfl rfl (Nat.le_of_ble_eq_true rfl) ?_
  refine g6_kindNext_0 (fun c1 => ?_) (fun c2 => ?_) (fun c3 => ?_) (fun c4 => ?_) (fun c5 => ?_) (fun c6 => ?_) (fun c7 => ?_) (fun c8 => ?_)
  · first
    | (exfalso; omega)
    | (refine g6_kindNext_141 ?_
       exact am_qv (by unfold kn; (repeat' split) <;> omega) k)
  · first
    | (exfalso; omega)
    | (refine g6_kindNext_44 (fun c9 => ?_) (fun c10 => ?_)
       · first
         | (exfalso; omega)
         | (refine g6_kindNext_54 ?_
            refine g6_kindNext_55 ?_
            exact am_qv (by unfold kn; (repeat' split) <;> omega) k)
       · first
         | (exfalso; omega)
         | (refine g6_kindNext_49 ?_
            refine g6_kindNext_55 ?_
            exact am_qv (by unfold kn; (repeat' split) <;> omega) k))
  · first
    | (exfalso; omega)
    | (refine g6_kindNext_56 (fun c11 => ?_) (fun c12 => ?_)
       · first
         | (exfalso; omega)
         | (refine g6_kindNext_66 ?_
            refine g6_kindNext_71 ?_
            exact am_qv (by unfold kn; (repeat' split) <;> omega) k)
       · first
         | (exfalso; omega)
         | (refine g6_kindNext_61 (fun c13 => ?_) (fun c14 => ?_)
            · first
              | (exfalso; omega)
              | (refine g6_kindNext_70 ?_
                 refine g6_kindNext_71 ?_
                 exact am_qv (by unfold kn; (repeat' split) <;> omega) k)
            · first
              | (exfalso; omega)
              | (refine g6_kindNext_66 ?_
                 refine g6_kindNext_71 ?_
                 exact am_qv (by unfold kn; (repeat' split) <;> omega) k)))
  · first
    | (exfalso; omega)
    | (refine g6_kindNext_72 (by first | assumption | omega) (fun c15 => ?_) (fun c16 => ?_)
       · first
         | (exfalso; omega)
         | (refine g6_kindNext_85 ?_
            refine g6_kindNext_86 ?_
            exact am_qv (by unfold kn; (repeat' split) <;> omega) k)
       · first
         | (exfalso; omega)
         | (refine g6_kindNext_79 (by first | assumption | omega) ?_
            refine g6_kindNext_86 ?_
            exact am_qv (by unfold kn; (repeat' split) <;> omega) k))
  · first
    | (exfalso; omega)
    | (refine g6_kindNext_56 (fun c17 => ?_) (fun c18 => ?_)
       · first
         | (exfalso; omega)
         | (refine g6_kindNext_66 ?_
            refine g6_kindNext_71 ?_
            exact am_qv (by unfold kn; (repeat' split) <;> omega) k)
       · first
         | (exfalso; omega)
         | (refine g6_kindNext_61 (fun c19 => ?_) (fun c20 => ?_)
            · first
              | (exfalso; omega)
              | (refine g6_kindNext_70 ?_
                 refine g6_kindNext_71 ?_
                 exact am_qv (by unfold kn; (repeat' split) <;> omega) k)
            · first
              | (exfalso; omega)
              | (refine g6_kindNext_66 ?_
                 refine g6_kindNext_71 ?_
                 exact am_qv (by unfold kn; (repeat' split) <;> omega) k)))
  · first
    | (exfalso; omega)
    | (refine g6_kindNext_87 (fun c21 => ?_) (fun c22 => ?_)
       · first
         | (exfalso; omega)
         | (refine g6_kindNext_95 (fun c23 => ?_) (fun c24 => ?_)
            · first
              | (exfalso; omega)
              | (refine g6_kindNext_104 ?_
                 refine g6_kindNext_105 ?_
                 exact am_qv (by unfold kn; (repeat' split) <;> omega) k)
            · first
              | (exfalso; omega)
              | (refine g6_kindNext_100 ?_
                 refine g6_kindNext_105 ?_
                 exact am_qv (by unfold kn; (repeat' split) <;> omega) k))
       · first
         | (exfalso; omega)
         | (refine g6_kindNext_91 ?_
            refine g6_kindNext_105 ?_
            exact am_qv (by unfold kn; (repeat' split) <;> omega) k))
  · first
    | (exfalso; omega)
    | (refine g6_kindNext_106 (fun c25 => ?_) (fun c26 => ?_)
       · first
         | (exfalso; omega)
         | (refine g6_kindNext_115 ?_
            refine g6_kindNext_116 ?_
            exact am_qv (by unfold kn; (repeat' split) <;> omega) k)
       · first
         | (exfalso; omega)
         | (refine g6_kindNext_111 ?_
            refine g6_kindNext_116 ?_
            exact am_qv (by unfold kn; (repeat' split) <;> omega) k))
  · first
    | (exfalso; omega)
    | (refine g6_kindNext_117 (by first | assumption | omega) (fun c27 => ?_) (fun c28 => ?_)
       · first
         | (exfalso; omega)
         | (refine g6_kindNext_130 (by first | assumption | omega) ?_
            refine g6_kindNext_140 ?_
            exact am_qv (by unfold kn; (repeat' split) <;> omega) k)
       · first
         | (exfalso; omega)
         | (refine g6_kindNext_124 (fun c29 => ?_) (fun c30 => ?_)
            · first
              | (exfalso; omega)
              | (refine g6_kindNext_137 (by first | assumption | omega) ?_
                 refine g6_kindNext_140 ?_
                 exact am_qv (by unfold kn; (repeat' split) <;> omega) k)
            · first
              | (exfalso; omega)
              | (refine g6_kindNext_130 (by first | assumption | omega) ?_
                 refine g6_kindNext_140 ?_
                 exact am_qv (by unfold kn; (repeat' split) <;> omega) k)))

def am_dr (M : am_M) (nx hd kind a k0 p x : Int) : am_M := fun b j => if b = hd ∧ 0 ≤ j ∧ (j < p ∨ j = p ∧ 0 ≤ x) then kh kind j k0 else if b = nx ∧ 0 ≤ j ∧ (j / 4 < p ∧ j % 4 < k0 ∨ j / 4 = p ∧ j % 4 < x) then kn kind a (j / 4) (j % 4) k0 else M b j
theorem c6_draw {K : am_K} {M : am_M} {Q : Option am_V → am_M → Prop} {o nx hd : Int} (ho : am_kd K o = some (6, 2, [nx, hd])) (hn : am_kd K nx = some (11, 24, [])) (hh : am_kd K hd = some (11, 6, [])) {kind a k0 : Int} (hk : 0 ≤ k0 ∧ k0 ≤ 4) (k : Q none (am_dr M nx hd kind a k0 6 (-1))) : am_CallN m6_draw [vr o, vi kind, vi a, vi k0] K M Q := by
  have hne : nx ≠ hd := by
    intro h
    rw [h, hh] at hn
    cases hn
  refine am_callN_of (by decide +kernel) rfl rfl (Nat.le_of_ble_eq_true rfl) ?_
  refine g6_draw_0 ?_
  refine am_for (fun i => [some (vr o), some (vi kind), some (vi a), some (vi k0), some (vi i), none]) (fun i => am_dr M nx hd kind a k0 i (-1)) 0 6 (by omega) rfl ?_ ?_ (fun i h0 h1 ih => ?_)
  · funext b j
    unfold am_dr
    (repeat' split) <;> first | rfl | (exfalso; omega) | (congr 1 <;> omega) | omega
  · refine g6_draw_3 (fun _ => ?_) (fun c => by exfalso; omega)
    exact g6_draw_62 k
  · refine g6_draw_3 (fun c => by exfalso; omega) (fun _ => ?_)
    refine g6_draw_10 ?_
    refine c6_kindHolds ?_
    refine g6_draw_20 ho ?_
    refine c6_hold ho hn hh ⟨h0, h1⟩ (kh01 _ _ _) ?_
    refine g6_draw_23 ?_
    refine am_for (fun x => [some (vr o), some (vi kind), some (vi a), some (vi k0), some (vi i), some (vi x)]) (fun x => am_dr M nx hd kind a k0 i x) 0 k0 (by omega) rfl ?_ ?_ (fun x x0 x1 ihx => ?_)
    · funext b j
      unfold am_up am_dr
      (repeat' split) <;> first | rfl | (exfalso; omega) | (congr 1 <;> omega) | omega
    · refine g6_draw_26 (fun _ => ?_) (fun c => by exfalso; omega)
      refine g6_draw_56 (by omega) ?_
      refine am_mem ?_ ih
      funext b j
      unfold am_dr
      (repeat' split) <;> first | rfl | (exfalso; omega) | (congr 1 <;> omega) | omega
    · refine g6_draw_26 (fun c => by exfalso; omega) (fun _ => ?_)
      refine g6_draw_32 ?_
      refine c6_kindNext ⟨h0, h1⟩ (by omega) hk ?_
      refine g6_draw_47 ho ?_
      refine c6_lead ho hn hh ⟨h0, h1⟩ (by omega) ?_
      refine g6_draw_50 (by omega) ?_
      refine am_mem ?_ ihx
      funext b j
      unfold am_up am_dr
      (repeat' split) <;> first | rfl | (exfalso; omega) | (congr 1 <;> omega) | omega

theorem c4_nextOf {K : am_K} {M : am_M} {Q : Option am_V → am_M → Prop} {o nx wd en : Int} (ho : am_kd K o = some (4, 3, [nx, wd, en])) (hn : am_kd K nx = some (11, 24, [])) (hw : am_kd K wd = some (11, 24, [])) (he : am_kd K en = some (11, 6, [])) {p x : Int} (hp : 0 ≤ p ∧ p < 6) (hx : 0 ≤ x ∧ x < 4) (k : Q (some (vi (M nx (p * 4 + x)))) M) : am_CallN m4_nextOf [vr o, vi p, vi x] K M Q := by
  refine am_callN_of (by decide +kernel) rfl rfl (Nat.le_of_ble_eq_true rfl) ?_
  refine g4_nextOf_0 ?_
  refine c8_in (by first | assumption | omega) ?_
  refine g4_nextOf_6 (fun c1 => by exfalso; omega) (fun c2 => ?_)
  refine g4_nextOf_9 ?_
  refine c8_in (by first | assumption | omega) ?_
  refine g4_nextOf_14 (fun c3 => ?_) (fun c4 => by exfalso; omega)
  refine g4_nextOf_19 (by first | assumption | omega) (by first | assumption | omega) (by first | assumption | omega) (by first | assumption | omega) (by first | assumption | omega) (by first | assumption | omega) ?_
  exact k

theorem c4_wordOf {K : am_K} {M : am_M} {Q : Option am_V → am_M → Prop} {o nx wd en : Int} (ho : am_kd K o = some (4, 3, [nx, wd, en])) (hn : am_kd K nx = some (11, 24, [])) (hw : am_kd K wd = some (11, 24, [])) (he : am_kd K en = some (11, 6, [])) {p x : Int} (hp : 0 ≤ p ∧ p < 6) (hx : 0 ≤ x ∧ x < 4) (k : Q (some (vi (M wd (p * 4 + x)))) M) : am_CallN m4_wordOf [vr o, vi p, vi x] K M Q := by
  refine am_callN_of (by decide +kernel) rfl rfl (Nat.le_of_ble_eq_true rfl) ?_
  refine g4_wordOf_0 ?_
  refine c8_in (by first | assumption | omega) ?_
  refine g4_wordOf_6 (fun c1 => by exfalso; omega) (fun c2 => ?_)
  refine g4_wordOf_9 ?_
  refine c8_in (by first | assumption | omega) ?_
  refine g4_wordOf_14 (fun c3 => ?_) (fun c4 => by exfalso; omega)
  refine g4_wordOf_19 (by first | assumption | omega) (by first | assumption | omega) (by first | assumption | omega) (by first | assumption | omega) (by first | assumption | omega) (by first | assumption | omega) ?_
  exact k

theorem c4_endOf {K : am_K} {M : am_M} {Q : Option am_V → am_M → Prop} {o nx wd en : Int} (ho : am_kd K o = some (4, 3, [nx, wd, en])) (hn : am_kd K nx = some (11, 24, [])) (hw : am_kd K wd = some (11, 24, [])) (he : am_kd K en = some (11, 6, [])) {p : Int} (hp : 0 ≤ p ∧ p < 6) (k : Q (some (vi (M en p))) M) : am_CallN m4_endOf [vr o, vi p] K M Q := by
  refine am_callN_of (by decide +kernel) rfl rfl (Nat.le_of_ble_eq_true rfl) ?_
  refine g4_endOf_0 ?_
  refine c8_in (by first | assumption | omega) ?_
  refine g4_endOf_6 (fun c1 => by exfalso; omega) (fun c2 => ?_)
  refine g4_endOf_9 (by first | assumption | omega) (by first | assumption | omega) (by first | assumption | omega) (by first | assumption | omega) ?_
  refine g4_endOf_19 ?_
  exact k

theorem c4_lead {K : am_K} {M : am_M} {Q : Option am_V → am_M → Prop} {o nx wd en : Int} (ho : am_kd K o = some (4, 3, [nx, wd, en])) (hn : am_kd K nx = some (11, 24, [])) (hw : am_kd K wd = some (11, 24, [])) (he : am_kd K en = some (11, 6, [])) {p x t w : Int} (hp : 0 ≤ p ∧ p < 6) (hx : 0 ≤ x ∧ x < 4) (k : Q none (am_up (am_up M nx (p * 4 + x) t) wd (p * 4 + x) w)) : am_CallN m4_lead [vr o, vi p, vi x, vi t, vi w] K M Q := by
  refine am_callN_of (by decide +kernel) rfl rfl (Nat.le_of_ble_eq_true rfl) ?_
  refine g4_lead_0 ?_
  refine c8_in (by first | assumption | omega) ?_
  refine g4_lead_6 (fun c1 => by exfalso; omega) (fun c2 => ?_)
  refine g4_lead_9 ?_
  refine c8_in (by first | assumption | omega) ?_
  refine g4_lead_14 (fun c3 => ?_) (fun c4 => by exfalso; omega)
  refine g4_lead_18 (by first | assumption | omega) (by first | assumption | omega) (by first | assumption | omega) (by first | assumption | omega) (by first | assumption | omega) (by first | assumption | omega) (by first | assumption | omega) (by first | assumption | omega) (by first | assumption | omega) (by first | assumption | omega) (by first | assumption | omega) ?_
  exact k

theorem c4_finish {K : am_K} {M : am_M} {Q : Option am_V → am_M → Prop} {o nx wd en : Int} (ho : am_kd K o = some (4, 3, [nx, wd, en])) (hn : am_kd K nx = some (11, 24, [])) (hw : am_kd K wd = some (11, 24, [])) (he : am_kd K en = some (11, 6, [])) {p w : Int} (hp : 0 ≤ p ∧ p < 6) (k : Q none (am_up M en p w)) : am_CallN m4_finish [vr o, vi p, vi w] K M Q := by
  refine am_callN_of (by decide +kernel) rfl rfl (Nat.le_of_ble_eq_true rfl) ?_
  refine g4_finish_0 ?_
  refine c8_in (by first | assumption | omega) ?_
  refine g4_finish_6 (fun c1 => by exfalso; omega) (fun c2 => ?_)
  refine g4_finish_9 (by first | assumption | omega) (by first | assumption | omega) (by first | assumption | omega) (by first | assumption | omega) ?_
  refine g4_finish_16 ?_
  exact k

/-- a program as at first, up to spot p, letter x -/
def am_pb (M : am_M) (nx wd en p x : Int) : am_M := fun b j => if b = en ∧ 0 ≤ j ∧ (j < p ∨ j = p ∧ 0 ≤ x) then 0 else if b = nx ∧ 0 ≤ j ∧ (j / 4 < p ∨ j / 4 = p ∧ j % 4 < x) then 0 else if b = wd ∧ 0 ≤ j ∧ (j / 4 < p ∨ j / 4 = p ∧ j % 4 < x) then 1 + j % 4 else M b j
theorem c4_startAnew {K : am_K} {M : am_M} {Q : Option am_V → am_M → Prop} {o nx wd en : Int} (ho : am_kd K o = some (4, 3, [nx, wd, en])) (hn : am_kd K nx = some (11, 24, [])) (hw : am_kd K wd = some (11, 24, [])) (he : am_kd K en = some (11, 6, [])) (hnw : nx ≠ wd) (k : Q none (am_pb M nx wd en 6 (-1))) : am_CallN m4_startAnew [vr o] K M Q := by
  have hne : nx ≠ en := by
    intro h
    rw [h, he] at hn
    cases hn
  have hwe : wd ≠ en := by
    intro h
    rw [h, he] at hw
    cases hw
  refine am_callN_of (by decide +kernel) rfl rfl (Nat.le_of_ble_eq_true rfl) ?_
  refine g4_startAnew_0 ?_
  refine am_for (fun i => [some (vr o), some (vi i), none]) (fun i => am_pb M nx wd en i (-1)) 0 6 (by omega) rfl ?_ ?_ (fun i h0 h1 ih => ?_)
  · funext b j
    unfold am_pb
    (repeat' split) <;> first | rfl | (exfalso; omega) | (congr 1 <;> omega) | omega
  · refine g4_startAnew_2 (fun _ => ?_) (fun c => by exfalso; omega)
    exact g4_startAnew_44 k
  · refine g4_startAnew_2 (fun c => by exfalso; omega) (fun _ => ?_)
    refine g4_startAnew_8 ho he h0 h1 ?_
    refine am_for (fun x => [some (vr o), some (vi i), some (vi x)]) (fun x => am_pb M nx wd en i x) 0 4 (by omega) rfl ?_ ?_ (fun x x0 x1 ihx => ?_)
    · funext b j
      unfold am_up am_pb
      (repeat' split) <;> first | rfl | (exfalso; omega) | (congr 1 <;> omega) | omega
    · refine g4_startAnew_17 (fun _ => ?_) (fun c => by exfalso; omega)
      refine g4_startAnew_38 (by omega) ?_
      refine am_mem ?_ ih
      funext b j
      unfold am_pb
      (repeat' split) <;> first | rfl | (exfalso; omega) | (congr 1 <;> omega) | omega
    · refine g4_startAnew_17 (fun c => by exfalso; omega) (fun _ => ?_)
      refine g4_startAnew_22 (by omega) ho ?_
      refine c4_lead ho hn hw he ⟨h0, h1⟩ ⟨x0, x1⟩ ?_
      refine g4_startAnew_32 (by omega) ?_
      refine am_mem ?_ ihx
      funext b j
      unfold am_up am_pb
      (repeat' split) <;> first | rfl | (exfalso; omega) | (congr 1 <;> omega) | omega
