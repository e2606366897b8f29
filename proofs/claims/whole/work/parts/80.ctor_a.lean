/-! ===== the small constructors (by wip/whole/gen_ctor.py) ===== -/
theorem am_KX2 {mi : am_I} {pc : Nat} {ls : am_L} {stk : List am_V} {X X' : List am_C} {c c' s s' : Nat} {M : am_M} {Q : am_Q} (h : X = X') (hc : c = c') (hs : s = s') (k : am_At mi pc ls stk (X', c', s') M Q) : am_At mi pc ls stk (X, c, s) M Q := by
  subst h; subst hc; subst hs; exact k
theorem u_putF {mi : am_I} {pc idx : Nat} {ls : am_L} {stk : List am_V} {ks news : List am_C} {i c s : Nat} {M : am_M} {Q : am_Q} {ci N k : Nat} {rs : List Int} {C : String} {T : u_T} {ty0 : Nat → FieldType} {x a : Int} (ha : a = (i : Int)) (hlt : i < ks.length) (hmc : am_mc mi ≠ 0) (hd : decode (am_cc mi) pc = .ok (.putfield idx, 3)) (hci : ci < 10) (hcl : vwCl[ci]? = some (C, T, N)) (hin : ∀ w ∈ u_ws C T N, w ∈ am_tb)
    (hty : ∀ k, k < N → parseFieldDescriptor (T k).2.2.1 = some (ty0 k)) (hnm : ∀ a, a < N → ∀ b, b < N → a ≠ b → (T a).2.1 ≠ (T b).2.1)
    (hk0 : k < N) (hrs : k < rs.length) (hw : Cond.fieldLink (am_own mi) idx (T k).1 (T k).2.1 (T k).2.2.1 ∈ am_tb) (hfin : (T k).2.2.2 = true) (hini : (am_y mi).name = "<init>") (hown : (T k).1 = am_own mi)
    (hf : am_fk ci k = 3) (ht : (∃ n, ty0 k = .object n) ∨ ∃ t, ty0 k = .array t) (hx1 : -1 ≤ x)
    (k1 : am_At mi (pc + 3) ls stk (KX ks i (ci, N, rs.set k x) news, c, s) M Q) : am_At mi pc ls (vr x :: vr a :: stk) (KX ks i (ci, N, rs) news, c, s) M Q := by
  subst ha
  exact t_putF hlt hmc hd hci hcl hin hty hnm hk0 hrs hw hfin hini hown hf ht hx1 k1
theorem c6_init {ks : List am_C} {i : Nat} {a n0 n1 : Int} {M : am_M} {Q : am_Q} (ha : a = (i : Int)) (hi : ks[i]? = some (6, 2, [-1, -1])) (hn : (ks.length : Int) = n0) (h1 : n0 + 1 = n1)
    (k : ∀ M1 : am_M, (∀ b j : Int, b < n0 → b ≠ a → M1 b j = M b j) → (∀ j : Int, 0 ≤ j ∧ j < 24 → M1 n0 j = 0) → (∀ j : Int, 0 ≤ j ∧ j < 6 → M1 n1 j = 1) →  Q none (KX ks i (6, 2, [n0, n1]) [(11, 24, []), (11, 6, [])], 2, 30) M1) : am_Call m6_init [vr a] (ks, 0, 0) M Q := by
  have hlt : i < ks.length := (List.getElem?_eq_some_iff.mp hi).1
  refine am_call_of (K := (ks, 0, 0)) (by decide +kernel) rfl rfl (Nat.le_of_ble_eq_true rfl) ?_
  refine am_KX2 (X := ks) (KX_0 hi) rfl rfl ?_
  refine s_aload_n (k0 := 0) (x := a) (show decode (am_cc m6_init) 0 = .ok (.aload_n 0, 1) by decide +kernel) rfl ?_
  refine s_objInit (show decode (am_cc m6_init) 1 = .ok (.invokespecial 3, 3) by decide +kernel) lo_RX6 lo_i lo_c (by omega) (by decide) (Nat.le_of_ble_eq_true rfl) ?_
  refine s_aload_n (k0 := 0) (x := a) (show decode (am_cc m6_init) 4 = .ok (.aload_n 0, 1) by decide +kernel) rfl ?_
  refine s_bipush (show decode (am_cc m6_init) 5 = .ok (.bipush 24, 2) by decide +kernel) (by unfold am_i32; omega) (by decide) ?_
  refine t_newa (r := n0) (n := 24) (tag := 11) (by simp only [List.length_cons, List.length_nil]; omega) (by decide) (show decode (am_cc m6_init) 7 = .ok (.newarray .int, 2) by decide +kernel) la_i rfl (Or.inl ⟨rfl, rfl⟩) (by decide) (by decide) ⟨Nat.le_of_ble_eq_true rfl, Nat.le_of_ble_eq_true rfl⟩ ?_
  refine am_KX2 (X' := KX ks i (6, 2, [-1, -1]) [(11, 24, [])]) (c' := 1) (s' := 24) rfl rfl rfl ?_
  refine u_putF (k := 0) (x := n0) (ty0 := tyX6) ha hlt (by decide) (show decode (am_cc m6_init) 9 = .ok (.putfield 9, 3) by decide +kernel) (by decide) rfl jnX6 tyX6_ok nmX6 (by decide) (Nat.le_of_ble_eq_true rfl) lf_RX6_9 rfl rfl rfl rfl (Or.inr ⟨_, rfl⟩) (by omega) ?_
  refine am_KX2 (X' := KX ks i (6, 2, [n0, -1]) [(11, 24, [])]) (c' := 1) (s' := 24) rfl rfl rfl ?_
  refine s_aload_n (k0 := 0) (x := a) (show decode (am_cc m6_init) 12 = .ok (.aload_n 0, 1) by decide +kernel) rfl ?_
  refine s_bipush (show decode (am_cc m6_init) 13 = .ok (.bipush 6, 2) by decide +kernel) (by unfold am_i32; omega) (by decide) ?_
  refine t_newa (r := n1) (n := 6) (tag := 11) (by simp only [List.length_cons, List.length_nil]; omega) (by decide) (show decode (am_cc m6_init) 15 = .ok (.newarray .int, 2) by decide +kernel) la_i rfl (Or.inl ⟨rfl, rfl⟩) (by decide) (by decide) ⟨Nat.le_of_ble_eq_true rfl, Nat.le_of_ble_eq_true rfl⟩ ?_
  refine am_KX2 (X' := KX ks i (6, 2, [n0, -1]) [(11, 24, []), (11, 6, [])]) (c' := 2) (s' := 30) rfl rfl rfl ?_
  refine u_putF (k := 1) (x := n1) (ty0 := tyX6) ha hlt (by decide) (show decode (am_cc m6_init) 17 = .ok (.putfield 15, 3) by decide +kernel) (by decide) rfl jnX6 tyX6_ok nmX6 (by decide) (Nat.le_of_ble_eq_true rfl) lf_RX6_15 rfl rfl rfl rfl (Or.inr ⟨_, rfl⟩) (by omega) ?_
  refine am_KX2 (X' := KX ks i (6, 2, [n0, n1]) [(11, 24, []), (11, 6, [])]) (c' := 2) (s' := 30) rfl rfl rfl ?_
  refine s_aload_n (k0 := 0) (x := a) (show decode (am_cc m6_init) 20 = .ok (.aload_n 0, 1) by decide +kernel) rfl ?_
  refine n_callV (as := []) (a := a) (stk := []) (show decode (am_cc m6_init) 21 = .ok (.invokevirtual 18, 3) by decide +kernel) lk_RX6_18 (kd_at (KX_this hlt _ _) ha) (by decide) rfl rfl (by decide) (Nat.le_of_ble_eq_true rfl) ⟨rfl, rfl⟩ (c6_startAnew (nx := n0) (hd := n1) (kd_at (KX_this hlt _ _) ha) (kd_at (KX_new (j := 0) rfl) (by omega)) (kd_at (KX_new (j := 1) rfl) (by omega)) ?_)
  show am_At m6_init 24 _ [] (_, 2, 30) _ Q
  refine s_return (show decode (am_cc m6_init) 24 = .ok (.return_, 1) by decide +kernel) rfl ?_
  refine k _ (fun b j hb hne => ?_) (fun j hj => ?_) (fun j hj => ?_)
  · rw [am_fl_out (by omega), am_fl_out (by omega), am_nw_old (by omega), am_nw_old (by omega)]
  · rw [am_fl_out (by omega), am_fl_in hj]
  · rw [am_fl_in hj]
theorem c4_init {ks : List am_C} {i : Nat} {a n0 n1 n2 : Int} {M : am_M} {Q : am_Q} (ha : a = (i : Int)) (hi : ks[i]? = some (4, 3, [-1, -1, -1])) (hn : (ks.length : Int) = n0) (h1 : n0 + 1 = n1) (h2 : n0 + 2 = n2)
    (k : ∀ M1 : am_M, (∀ b j : Int, b < n0 → b ≠ a → M1 b j = M b j) → (∀ j : Int, 0 ≤ j ∧ j < 24 → M1 n0 j = 0) → (∀ j : Int, 0 ≤ j ∧ j < 24 → M1 n1 j = 1 + j % 4) → (∀ j : Int, 0 ≤ j ∧ j < 6 → M1 n2 j = 0) →  Q none (KX ks i (4, 3, [n0, n1, n2]) [(11, 24, []), (11, 24, []), (11, 6, [])], 3, 54) M1) : am_Call m4_init [vr a] (ks, 0, 0) M Q := by
  have hlt : i < ks.length := (List.getElem?_eq_some_iff.mp hi).1
  refine am_call_of (K := (ks, 0, 0)) (by decide +kernel) rfl rfl (Nat.le_of_ble_eq_true rfl) ?_
  refine am_KX2 (X := ks) (KX_0 hi) rfl rfl ?_
  refine s_aload_n (k0 := 0) (x := a) (show decode (am_cc m4_init) 0 = .ok (.aload_n 0, 1) by decide +kernel) rfl ?_
  refine s_objInit (show decode (am_cc m4_init) 1 = .ok (.invokespecial 3, 3) by decide +kernel) lo_RX4 lo_i lo_c (by omega) (by decide) (Nat.le_of_ble_eq_true rfl) ?_
  refine s_aload_n (k0 := 0) (x := a) (show decode (am_cc m4_init) 4 = .ok (.aload_n 0, 1) by decide +kernel) rfl ?_
  refine s_bipush (show decode (am_cc m4_init) 5 = .ok (.bipush 24, 2) by decide +kernel) (by unfold am_i32; omega) (by decide) ?_
  refine t_newa (r := n0) (n := 24) (tag := 11) (by simp only [List.length_cons, List.length_nil]; omega) (by decide) (show decode (am_cc m4_init) 7 = .ok (.newarray .int, 2) by decide +kernel) la_i rfl (Or.inl ⟨rfl, rfl⟩) (by decide) (by decide) ⟨Nat.le_of_ble_eq_true rfl, Nat.le_of_ble_eq_true rfl⟩ ?_
  refine am_KX2 (X' := KX ks i (4, 3, [-1, -1, -1]) [(11, 24, [])]) (c' := 1) (s' := 24) rfl rfl rfl ?_
  refine u_putF (k := 0) (x := n0) (ty0 := tyX4) ha hlt (by decide) (show decode (am_cc m4_init) 9 = .ok (.putfield 9, 3) by decide +kernel) (by decide) rfl jnX4 tyX4_ok nmX4 (by decide) (Nat.le_of_ble_eq_true rfl) lf_RX4_9 rfl rfl rfl rfl (Or.inr ⟨_, rfl⟩) (by omega) ?_
  refine am_KX2 (X' := KX ks i (4, 3, [n0, -1, -1]) [(11, 24, [])]) (c' := 1) (s' := 24) rfl rfl rfl ?_
  refine s_aload_n (k0 := 0) (x := a) (show decode (am_cc m4_init) 12 = .ok (.aload_n 0, 1) by decide +kernel) rfl ?_
  refine s_bipush (show decode (am_cc m4_init) 13 = .ok (.bipush 24, 2) by decide +kernel) (by unfold am_i32; omega) (by decide) ?_
  refine t_newa (r := n1) (n := 24) (tag := 11) (by simp only [List.length_cons, List.length_nil]; omega) (by decide) (show decode (am_cc m4_init) 15 = .ok (.newarray .int, 2) by decide +kernel) la_i rfl (Or.inl ⟨rfl, rfl⟩) (by decide) (by decide) ⟨Nat.le_of_ble_eq_true rfl, Nat.le_of_ble_eq_true rfl⟩ ?_
  refine am_KX2 (X' := KX ks i (4, 3, [n0, -1, -1]) [(11, 24, []), (11, 24, [])]) (c' := 2) (s' := 48) rfl rfl rfl ?_
  refine u_putF (k := 1) (x := n1) (ty0 := tyX4) ha hlt (by decide) (show decode (am_cc m4_init) 17 = .ok (.putfield 15, 3) by decide +kernel) (by decide) rfl jnX4 tyX4_ok nmX4 (by decide) (Nat.le_of_ble_eq_true rfl) lf_RX4_15 rfl rfl rfl rfl (Or.inr ⟨_, rfl⟩) (by omega) ?_
  refine am_KX2 (X' := KX ks i (4, 3, [n0, n1, -1]) [(11, 24, []), (11, 24, [])]) (c' := 2) (s' := 48) rfl rfl rfl ?_
  refine s_aload_n (k0 := 0) (x := a) (show decode (am_cc m4_init) 20 = .ok (.aload_n 0, 1) by decide +kernel) rfl ?_
  refine s_bipush (show decode (am_cc m4_init) 21 = .ok (.bipush 6, 2) by decide +kernel) (by unfold am_i32; omega) (by decide) ?_
  refine t_newa (r := n2) (n := 6) (tag := 11) (by simp only [List.length_cons, List.length_nil]; omega) (by decide) (show decode (am_cc m4_init) 23 = .ok (.newarray .int, 2) by decide +kernel) la_i rfl (Or.inl ⟨rfl, rfl⟩) (by decide) (by decide) ⟨Nat.le_of_ble_eq_true rfl, Nat.le_of_ble_eq_true rfl⟩ ?_
  refine am_KX2 (X' := KX ks i (4, 3, [n0, n1, -1]) [(11, 24, []), (11, 24, []), (11, 6, [])]) (c' := 3) (s' := 54) rfl rfl rfl ?_
  refine u_putF (k := 2) (x := n2) (ty0 := tyX4) ha hlt (by decide) (show decode (am_cc m4_init) 25 = .ok (.putfield 18, 3) by decide +kernel) (by decide) rfl jnX4 tyX4_ok nmX4 (by decide) (Nat.le_of_ble_eq_true rfl) lf_RX4_18 rfl rfl rfl rfl (Or.inr ⟨_, rfl⟩) (by omega) ?_
  refine am_KX2 (X' := KX ks i (4, 3, [n0, n1, n2]) [(11, 24, []), (11, 24, []), (11, 6, [])]) (c' := 3) (s' := 54) rfl rfl rfl ?_
  refine s_aload_n (k0 := 0) (x := a) (show decode (am_cc m4_init) 28 = .ok (.aload_n 0, 1) by decide +kernel) rfl ?_
  refine n_callV (as := []) (a := a) (stk := []) (show decode (am_cc m4_init) 29 = .ok (.invokevirtual 21, 3) by decide +kernel) lk_RX4_21 (kd_at (KX_this hlt _ _) ha) (by decide) rfl rfl (by decide) (Nat.le_of_ble_eq_true rfl) ⟨rfl, rfl⟩ (c4_startAnew (nx := n0) (wd := n1) (en := n2) (kd_at (KX_this hlt _ _) ha) (kd_at (KX_new (j := 0) rfl) (by omega)) (kd_at (KX_new (j := 1) rfl) (by omega)) (kd_at (KX_new (j := 2) rfl) (by omega)) (by omega) ?_)
  show am_At m4_init 32 _ [] (_, 3, 54) _ Q
  refine s_return (show decode (am_cc m4_init) 32 = .ok (.return_, 1) by decide +kernel) rfl ?_
  refine k _ (fun b j hb hne => ?_) (fun j hj => ?_) (fun j hj => ?_) (fun j hj => ?_)
  · unfold am_pb
    rw [if_neg (by omega), if_neg (by omega), if_neg (by omega), am_nw_old (by omega), am_nw_old (by omega), am_nw_old (by omega)]
  · unfold am_pb
    rw [if_neg (by omega), if_pos (by omega)]
  · unfold am_pb
    rw [if_neg (by omega), if_neg (by omega), if_pos (by omega)]
  · unfold am_pb
    rw [if_pos (by omega)]
theorem c5_init_50 {ks : List am_C} {i : Nat} {a n0 : Int} {M : am_M} {Q : am_Q} (ha : a = (i : Int)) (hi : ks[i]? = some (5, 2, [-1, -1])) (hn : (ks.length : Int) = n0) 
    (k : ∀ M1 : am_M, (∀ b j : Int, b < n0 → b ≠ a → M1 b j = M b j) → M1 a 1 = 0 →  Q none (KX ks i (5, 2, [n0, -1]) [(11, 50, [])], 1, 50) M1) : am_Call m5_init [vr a, vi 50] (ks, 0, 0) M Q := by
  have hlt : i < ks.length := (List.getElem?_eq_some_iff.mp hi).1
  refine am_call_of (K := (ks, 0, 0)) (by decide +kernel) rfl rfl (Nat.le_of_ble_eq_true rfl) ?_
  refine am_KX2 (X := ks) (KX_0 hi) rfl rfl ?_
  refine s_aload_n (k0 := 0) (x := a) (show decode (am_cc m5_init) 0 = .ok (.aload_n 0, 1) by decide +kernel) rfl ?_
  refine s_objInit (show decode (am_cc m5_init) 1 = .ok (.invokespecial 3, 3) by decide +kernel) lo_RX5 lo_i lo_c (by omega) (by decide) (Nat.le_of_ble_eq_true rfl) ?_
  refine s_aload_n (k0 := 0) (x := a) (show decode (am_cc m5_init) 4 = .ok (.aload_n 0, 1) by decide +kernel) rfl ?_
  refine s_iload_n (k0 := 1) (x := 50) (show decode (am_cc m5_init) 5 = .ok (.iload_n 1, 1) by decide +kernel) rfl ?_
  refine s_iconst (show decode (am_cc m5_init) 6 = .ok (.iconst 0, 1) by decide +kernel) (by unfold am_i32; omega) ?_
  refine s_mmax (show decode (am_cc m5_init) 7 = .ok (.invokestatic 9, 3) by decide +kernel) lk_RX5_9.2.1 (Nat.le_of_ble_eq_true rfl) (by decide) ?_
  show am_At m5_init 10 _ [vi 50, vr a] (_, 0, 0) _ Q
  refine t_newa (r := n0) (n := 50) (tag := 11) (by simp only [List.length_cons, List.length_nil]; omega) (by decide) (show decode (am_cc m5_init) 10 = .ok (.newarray .int, 2) by decide +kernel) la_i rfl (Or.inl ⟨rfl, rfl⟩) (by decide) (by decide) ⟨Nat.le_of_ble_eq_true rfl, Nat.le_of_ble_eq_true rfl⟩ ?_
  refine am_KX2 (X' := KX ks i (5, 2, [-1, -1]) [(11, 50, [])]) (c' := 1) (s' := 50) rfl rfl rfl ?_
  refine u_putF (k := 0) (x := n0) (ty0 := tyX5) ha hlt (by decide) (show decode (am_cc m5_init) 12 = .ok (.putfield 15, 3) by decide +kernel) (by decide) rfl jnX5 tyX5_ok nmX5 (by decide) (Nat.le_of_ble_eq_true rfl) lf_RX5_15 rfl rfl rfl rfl (Or.inr ⟨_, rfl⟩) (by omega) ?_
  refine am_KX2 (X' := KX ks i (5, 2, [n0, -1]) [(11, 50, [])]) (c' := 1) (s' := 50) rfl rfl rfl ?_
  refine s_aload_n (k0 := 0) (x := a) (show decode (am_cc m5_init) 15 = .ok (.aload_n 0, 1) by decide +kernel) rfl ?_
  refine s_iconst (show decode (am_cc m5_init) 16 = .ok (.iconst 0, 1) by decide +kernel) (by unfold am_i32; omega) ?_
  refine s_putf (k := 1) (x := 0) (ty0 := tyX5) (show decode (am_cc m5_init) 17 = .ok (.putfield 21, 3) by decide +kernel) (kd_at (KX_this hlt _ _) ha) (by decide) rfl jnX5 tyX5_ok nmX5 (by decide) lf_RX5_21 rfl (Or.inl ⟨rfl, rfl, rfl⟩) ?_
  refine s_return (show decode (am_cc m5_init) 20 = .ok (.return_, 1) by decide +kernel) rfl ?_
  refine k _ (fun b j hb hne => ?_) am_up_hit
  · rw [am_upn (Or.inl (by omega)), am_nw_old (by omega)]
theorem c5_init_74 {ks : List am_C} {i : Nat} {a n0 : Int} {M : am_M} {Q : am_Q} (ha : a = (i : Int)) (hi : ks[i]? = some (5, 2, [-1, -1])) (hn : (ks.length : Int) = n0) 
    (k : ∀ M1 : am_M, (∀ b j : Int, b < n0 → b ≠ a → M1 b j = M b j) → M1 a 1 = 0 →  Q none (KX ks i (5, 2, [n0, -1]) [(11, 74, [])], 1, 74) M1) : am_Call m5_init [vr a, vi 74] (ks, 0, 0) M Q := by
  have hlt : i < ks.length := (List.getElem?_eq_some_iff.mp hi).1
  refine am_call_of (K := (ks, 0, 0)) (by decide +kernel) rfl rfl (Nat.le_of_ble_eq_true rfl) ?_
  refine am_KX2 (X := ks) (KX_0 hi) rfl rfl ?_
  refine s_aload_n (k0 := 0) (x := a) (show decode (am_cc m5_init) 0 = .ok (.aload_n 0, 1) by decide +kernel) rfl ?_
  refine s_objInit (show decode (am_cc m5_init) 1 = .ok (.invokespecial 3, 3) by decide +kernel) lo_RX5 lo_i lo_c (by omega) (by decide) (Nat.le_of_ble_eq_true rfl) ?_
  refine s_aload_n (k0 := 0) (x := a) (show decode (am_cc m5_init) 4 = .ok (.aload_n 0, 1) by decide +kernel) rfl ?_
  refine s_iload_n (k0 := 1) (x := 74) (show decode (am_cc m5_init) 5 = .ok (.iload_n 1, 1) by decide +kernel) rfl ?_
  refine s_iconst (show decode (am_cc m5_init) 6 = .ok (.iconst 0, 1) by decide +kernel) (by unfold am_i32; omega) ?_
  refine s_mmax (show decode (am_cc m5_init) 7 = .ok (.invokestatic 9, 3) by decide +kernel) lk_RX5_9.2.1 (Nat.le_of_ble_eq_true rfl) (by decide) ?_
  show am_At m5_init 10 _ [vi 74, vr a] (_, 0, 0) _ Q
  refine t_newa (r := n0) (n := 74) (tag := 11) (by simp only [List.length_cons, List.length_nil]; omega) (by decide) (show decode (am_cc m5_init) 10 = .ok (.newarray .int, 2) by decide +kernel) la_i rfl (Or.inl ⟨rfl, rfl⟩) (by decide) (by decide) ⟨Nat.le_of_ble_eq_true rfl, Nat.le_of_ble_eq_true rfl⟩ ?_
  refine am_KX2 (X' := KX ks i (5, 2, [-1, -1]) [(11, 74, [])]) (c' := 1) (s' := 74) rfl rfl rfl ?_
  refine u_putF (k := 0) (x := n0) (ty0 := tyX5) ha hlt (by decide) (show decode (am_cc m5_init) 12 = .ok (.putfield 15, 3) by decide +kernel) (by decide) rfl jnX5 tyX5_ok nmX5 (by decide) (Nat.le_of_ble_eq_true rfl) lf_RX5_15 rfl rfl rfl rfl (Or.inr ⟨_, rfl⟩) (by omega) ?_
  refine am_KX2 (X' := KX ks i (5, 2, [n0, -1]) [(11, 74, [])]) (c' := 1) (s' := 74) rfl rfl rfl ?_
  refine s_aload_n (k0 := 0) (x := a) (show decode (am_cc m5_init) 15 = .ok (.aload_n 0, 1) by decide +kernel) rfl ?_
  refine s_iconst (show decode (am_cc m5_init) 16 = .ok (.iconst 0, 1) by decide +kernel) (by unfold am_i32; omega) ?_
  refine s_putf (k := 1) (x := 0) (ty0 := tyX5) (show decode (am_cc m5_init) 17 = .ok (.putfield 21, 3) by decide +kernel) (kd_at (KX_this hlt _ _) ha) (by decide) rfl jnX5 tyX5_ok nmX5 (by decide) lf_RX5_21 rfl (Or.inl ⟨rfl, rfl, rfl⟩) ?_
  refine s_return (show decode (am_cc m5_init) 20 = .ok (.return_, 1) by decide +kernel) rfl ?_
  refine k _ (fun b j hb hne => ?_) am_up_hit
  · rw [am_upn (Or.inl (by omega)), am_nw_old (by omega)]
theorem c3_init {ks : List am_C} {i : Nat} {a n0 n1 n2 n3 n4 : Int} {M : am_M} {Q : am_Q} (ha : a = (i : Int)) (hi : ks[i]? = some (3, 4, [-1, -1, -1, -1])) (hn : (ks.length : Int) = n0) (h1 : n0 + 1 = n1) (h2 : n0 + 2 = n2) (h3 : n0 + 3 = n3) (h4 : n0 + 4 = n4)
    (k : ∀ M1 : am_M, (∀ b j : Int, b < n0 → b ≠ a → M1 b j = M b j) →  Q none (KX ks i (3, 4, [n0, n1, n2, -1]) [(11, 36, []), (11, 36, []), (6, 2, [n3, n4]), (11, 24, []), (11, 6, [])], 5, 104) M1) : am_Call m3_init [vr a] (ks, 0, 0) M Q := by
  have hlt : i < ks.length := (List.getElem?_eq_some_iff.mp hi).1
  refine am_call_of (K := (ks, 0, 0)) (by decide +kernel) rfl rfl (Nat.le_of_ble_eq_true rfl) ?_
  refine am_KX2 (X := ks) (KX_0 hi) rfl rfl ?_
  refine s_aload_n (k0 := 0) (x := a) (show decode (am_cc m3_init) 0 = .ok (.aload_n 0, 1) by decide +kernel) rfl ?_
  refine s_objInit (show decode (am_cc m3_init) 1 = .ok (.invokespecial 3, 3) by decide +kernel) lo_RX3 lo_i lo_c (by omega) (by decide) (Nat.le_of_ble_eq_true rfl) ?_
  refine s_aload_n (k0 := 0) (x := a) (show decode (am_cc m3_init) 4 = .ok (.aload_n 0, 1) by decide +kernel) rfl ?_
  refine s_bipush (show decode (am_cc m3_init) 5 = .ok (.bipush 36, 2) by decide +kernel) (by unfold am_i32; omega) (by decide) ?_
  refine t_newa (r := n0) (n := 36) (tag := 11) (by simp only [List.length_cons, List.length_nil]; omega) (by decide) (show decode (am_cc m3_init) 7 = .ok (.newarray .int, 2) by decide +kernel) la_i rfl (Or.inl ⟨rfl, rfl⟩) (by decide) (by decide) ⟨Nat.le_of_ble_eq_true rfl, Nat.le_of_ble_eq_true rfl⟩ ?_
  refine am_KX2 (X' := KX ks i (3, 4, [-1, -1, -1, -1]) [(11, 36, [])]) (c' := 1) (s' := 36) rfl rfl rfl ?_
  refine u_putF (k := 0) (x := n0) (ty0 := tyX3) ha hlt (by decide) (show decode (am_cc m3_init) 9 = .ok (.putfield 11, 3) by decide +kernel) (by decide) rfl jnX3 tyX3_ok nmX3 (by decide) (Nat.le_of_ble_eq_true rfl) lf_RX3_11 rfl rfl rfl rfl (Or.inr ⟨_, rfl⟩) (by omega) ?_
  refine am_KX2 (X' := KX ks i (3, 4, [n0, -1, -1, -1]) [(11, 36, [])]) (c' := 1) (s' := 36) rfl rfl rfl ?_
  refine s_aload_n (k0 := 0) (x := a) (show decode (am_cc m3_init) 12 = .ok (.aload_n 0, 1) by decide +kernel) rfl ?_
  refine s_bipush (show decode (am_cc m3_init) 13 = .ok (.bipush 36, 2) by decide +kernel) (by unfold am_i32; omega) (by decide) ?_
  refine t_newa (r := n1) (n := 36) (tag := 11) (by simp only [List.length_cons, List.length_nil]; omega) (by decide) (show decode (am_cc m3_init) 15 = .ok (.newarray .int, 2) by decide +kernel) la_i rfl (Or.inl ⟨rfl, rfl⟩) (by decide) (by decide) ⟨Nat.le_of_ble_eq_true rfl, Nat.le_of_ble_eq_true rfl⟩ ?_
  refine am_KX2 (X' := KX ks i (3, 4, [n0, -1, -1, -1]) [(11, 36, []), (11, 36, [])]) (c' := 2) (s' := 72) rfl rfl rfl ?_
  refine u_putF (k := 1) (x := n1) (ty0 := tyX3) ha hlt (by decide) (show decode (am_cc m3_init) 17 = .ok (.putfield 15, 3) by decide +kernel) (by decide) rfl jnX3 tyX3_ok nmX3 (by decide) (Nat.le_of_ble_eq_true rfl) lf_RX3_15 rfl rfl rfl rfl (Or.inr ⟨_, rfl⟩) (by omega) ?_
  refine am_KX2 (X' := KX ks i (3, 4, [n0, n1, -1, -1]) [(11, 36, []), (11, 36, [])]) (c' := 2) (s' := 72) rfl rfl rfl ?_
  refine s_aload_n (k0 := 0) (x := a) (show decode (am_cc m3_init) 20 = .ok (.aload_n 0, 1) by decide +kernel) rfl ?_
  refine t_new (r := n2) (ci := 6) (N := 2) (ty0 := tyX6) (by simp only [List.length_cons, List.length_nil]; omega) (by decide) (show decode (am_cc m3_init) 21 = .ok (.new 18, 3) by decide +kernel) (by decide) rfl jnX6 tyX6_ok (by decide +kernel) lc_RX3_18 lm_6.1 lm_6.2 ⟨Nat.le_of_ble_eq_true rfl, Nat.le_of_ble_eq_true rfl⟩ ?_
  refine am_KX2 (X' := KX ks i (3, 4, [n0, n1, -1, -1]) [(11, 36, []), (11, 36, []), (6, 2, [-1, -1])]) (c' := 3) (s' := 74) rfl rfl rfl ?_
  refine s_dupr (show decode (am_cc m3_init) 24 = .ok (.dup, 1) by decide +kernel) ?_
  refine s_callI (a := n2) (as := []) (stk := [vr n2, vr a]) (show decode (am_cc m3_init) 25 = .ok (.invokespecial 20, 3) by decide +kernel) lk_RX3_20 (by omega) (by decide) (Nat.le_of_ble_eq_true rfl) ⟨Nat.le_of_ble_eq_true rfl, Nat.le_of_ble_eq_true rfl⟩ (c6_init (ks := KX ks i (3, 4, [n0, n1, -1, -1]) [(11, 36, []), (11, 36, []), (6, 2, [-1, -1])]) (i := (ks.length + 2)) (a := n2) (n0 := n3) (n1 := n4) (by omega) (KX_new (j := 2) rfl) (by rw [KX_len]; simp only [List.length_cons, List.length_nil]; omega) (by omega) (fun M0 f0 v0_0 v0_1 _ => ?_))
  show am_At m3_init 28 _ [vr n2, vr a] (_, 5, 104) M0 Q
  refine am_KX2 (X' := KX ks i (3, 4, [n0, n1, -1, -1]) [(11, 36, []), (11, 36, []), (6, 2, [n3, n4]), (11, 24, []), (11, 6, [])]) (c' := 5) (s' := 104) (KX_nest (news := [(11, 36, []), (11, 36, [])]) (by rfl)) rfl rfl ?_
  refine u_putF (k := 2) (x := n2) (ty0 := tyX3) ha hlt (by decide) (show decode (am_cc m3_init) 28 = .ok (.putfield 21, 3) by decide +kernel) (by decide) rfl jnX3 tyX3_ok nmX3 (by decide) (Nat.le_of_ble_eq_true rfl) lf_RX3_21 rfl rfl rfl rfl (Or.inl ⟨_, rfl⟩) (by omega) ?_
  refine am_KX2 (X' := KX ks i (3, 4, [n0, n1, n2, -1]) [(11, 36, []), (11, 36, []), (6, 2, [n3, n4]), (11, 24, []), (11, 6, [])]) (c' := 5) (s' := 104) rfl rfl rfl ?_
  refine s_aload_n (k0 := 0) (x := a) (show decode (am_cc m3_init) 31 = .ok (.aload_n 0, 1) by decide +kernel) rfl ?_
  refine s_iconst (show decode (am_cc m3_init) 32 = .ok (.iconst 0, 1) by decide +kernel) (by unfold am_i32; omega) ?_
  refine s_putf (k := 3) (x := 0) (ty0 := tyX3) (show decode (am_cc m3_init) 33 = .ok (.putfield 25, 3) by decide +kernel) (kd_at (KX_this hlt _ _) ha) (by decide) rfl jnX3 tyX3_ok nmX3 (by decide) lf_RX3_25 rfl (Or.inl ⟨rfl, rfl, rfl⟩) ?_
  refine s_return (show decode (am_cc m3_init) 36 = .ok (.return_, 1) by decide +kernel) rfl ?_
  refine k _ (fun b j hb hne => ?_)
  rw [am_upn (Or.inl (by omega)), f0 _ _ (by omega) (by omega), am_nw_old (by omega), am_nw_old (by omega), am_nw_old (by omega)]
theorem c2_init {ks : List am_C} {i : Nat} {a n0 n1 : Int} {x y : Int} {M : am_M} {Q : am_Q} (ha : a = (i : Int)) (hi : ks[i]? = some (2, 8, [-1, -1, -1, -1, -1, -1, -1, -1])) (hn : (ks.length : Int) = n0) (h1 : n0 + 1 = n1) (hx : 0 ≤ x ∧ x < 100000) (hy : 0 ≤ y ∧ y < 100000)
    (k : ∀ M1 : am_M, (∀ b j : Int, b < n0 → b ≠ a → M1 b j = M b j) →  Q none (KX ks i (2, 8, [n0, n1, -1, -1, -1, -1, -1, -1]) [(11, 1296, []), (11, 1296, [])], 2, 2592) M1) : am_Call m2_init [vr a, vr x, vr y] (ks, 0, 0) M Q := by
  have hlt : i < ks.length := (List.getElem?_eq_some_iff.mp hi).1
  refine am_call_of (K := (ks, 0, 0)) (by decide +kernel) rfl rfl (Nat.le_of_ble_eq_true rfl) ?_
  refine am_KX2 (X := ks) (KX_0 hi) rfl rfl ?_
  refine s_aload_n (k0 := 0) (x := a) (show decode (am_cc m2_init) 0 = .ok (.aload_n 0, 1) by decide +kernel) rfl ?_
  refine s_objInit (show decode (am_cc m2_init) 1 = .ok (.invokespecial 3, 3) by decide +kernel) lo_RX2 lo_i lo_c (by omega) (by decide) (Nat.le_of_ble_eq_true rfl) ?_
  refine s_aload_n (k0 := 0) (x := a) (show decode (am_cc m2_init) 4 = .ok (.aload_n 0, 1) by decide +kernel) rfl ?_
  refine s_sipush (show decode (am_cc m2_init) 5 = .ok (.sipush 1296, 3) by decide +kernel) (by unfold am_i32; omega) (by decide) ?_
  refine t_newa (r := n0) (n := 1296) (tag := 11) (by simp only [List.length_cons, List.length_nil]; omega) (by decide) (show decode (am_cc m2_init) 8 = .ok (.newarray .int, 2) by decide +kernel) la_i rfl (Or.inl ⟨rfl, rfl⟩) (by decide) (by decide) ⟨Nat.le_of_ble_eq_true rfl, Nat.le_of_ble_eq_true rfl⟩ ?_
  refine am_KX2 (X' := KX ks i (2, 8, [-1, -1, -1, -1, -1, -1, -1, -1]) [(11, 1296, [])]) (c' := 1) (s' := 1296) rfl rfl rfl ?_
  refine u_putF (k := 0) (x := n0) (ty0 := tyX2) ha hlt (by decide) (show decode (am_cc m2_init) 10 = .ok (.putfield 9, 3) by decide +kernel) (by decide) rfl jnX2 tyX2_ok nmX2 (by decide) (Nat.le_of_ble_eq_true rfl) lf_RX2_9 rfl rfl rfl rfl (Or.inr ⟨_, rfl⟩) (by omega) ?_
  refine am_KX2 (X' := KX ks i (2, 8, [n0, -1, -1, -1, -1, -1, -1, -1]) [(11, 1296, [])]) (c' := 1) (s' := 1296) rfl rfl rfl ?_
  refine s_aload_n (k0 := 0) (x := a) (show decode (am_cc m2_init) 13 = .ok (.aload_n 0, 1) by decide +kernel) rfl ?_
  refine s_sipush (show decode (am_cc m2_init) 14 = .ok (.sipush 1296, 3) by decide +kernel) (by unfold am_i32; omega) (by decide) ?_
  refine t_newa (r := n1) (n := 1296) (tag := 11) (by simp only [List.length_cons, List.length_nil]; omega) (by decide) (show decode (am_cc m2_init) 17 = .ok (.newarray .int, 2) by decide +kernel) la_i rfl (Or.inl ⟨rfl, rfl⟩) (by decide) (by decide) ⟨Nat.le_of_ble_eq_true rfl, Nat.le_of_ble_eq_true rfl⟩ ?_
  refine am_KX2 (X' := KX ks i (2, 8, [n0, -1, -1, -1, -1, -1, -1, -1]) [(11, 1296, []), (11, 1296, [])]) (c' := 2) (s' := 2592) rfl rfl rfl ?_
  refine u_putF (k := 1) (x := n1) (ty0 := tyX2) ha hlt (by decide) (show decode (am_cc m2_init) 19 = .ok (.putfield 15, 3) by decide +kernel) (by decide) rfl jnX2 tyX2_ok nmX2 (by decide) (Nat.le_of_ble_eq_true rfl) lf_RX2_15 rfl rfl rfl rfl (Or.inr ⟨_, rfl⟩) (by omega) ?_
  refine am_KX2 (X' := KX ks i (2, 8, [n0, n1, -1, -1, -1, -1, -1, -1]) [(11, 1296, []), (11, 1296, [])]) (c' := 2) (s' := 2592) rfl rfl rfl ?_
  refine s_aload_n (k0 := 0) (x := a) (show decode (am_cc m2_init) 22 = .ok (.aload_n 0, 1) by decide +kernel) rfl ?_
  refine s_iconst (show decode (am_cc m2_init) 23 = .ok (.iconst 0, 1) by decide +kernel) (by unfold am_i32; omega) ?_
  refine s_putf (k := 2) (x := 0) (ty0 := tyX2) (show decode (am_cc m2_init) 24 = .ok (.putfield 18, 3) by decide +kernel) (kd_at (KX_this hlt _ _) ha) (by decide) rfl jnX2 tyX2_ok nmX2 (by decide) lf_RX2_18 rfl (Or.inl ⟨rfl, rfl, rfl⟩) ?_
  refine s_aload_n (k0 := 0) (x := a) (show decode (am_cc m2_init) 27 = .ok (.aload_n 0, 1) by decide +kernel) rfl ?_
  refine s_aload_n (k0 := 1) (x := x) (show decode (am_cc m2_init) 28 = .ok (.aload_n 1, 1) by decide +kernel) rfl ?_
  refine s_putf (k := 3) (x := x) (ty0 := tyX2) (show decode (am_cc m2_init) 29 = .ok (.putfield 22, 3) by decide +kernel) (kd_at (KX_this hlt _ _) ha) (by decide) rfl jnX2 tyX2_ok nmX2 (by decide) lf_RX2_22 rfl (Or.inr (Or.inr ⟨rfl, ⟨_, rfl⟩, rfl, by omega, by omega⟩)) ?_
  refine s_aload_n (k0 := 0) (x := a) (show decode (am_cc m2_init) 32 = .ok (.aload_n 0, 1) by decide +kernel) rfl ?_
  refine s_aload_n (k0 := 2) (x := y) (show decode (am_cc m2_init) 33 = .ok (.aload_n 2, 1) by decide +kernel) rfl ?_
  refine s_putf (k := 4) (x := y) (ty0 := tyX2) (show decode (am_cc m2_init) 34 = .ok (.putfield 26, 3) by decide +kernel) (kd_at (KX_this hlt _ _) ha) (by decide) rfl jnX2 tyX2_ok nmX2 (by decide) lf_RX2_26 rfl (Or.inr (Or.inr ⟨rfl, ⟨_, rfl⟩, rfl, by omega, by omega⟩)) ?_
  refine s_aload_n (k0 := 0) (x := a) (show decode (am_cc m2_init) 37 = .ok (.aload_n 0, 1) by decide +kernel) rfl ?_
  refine s_null (show decode (am_cc m2_init) 38 = .ok (.aconst_null, 1) by decide +kernel) ?_
  refine s_putf (k := 5) (x := -1) (ty0 := tyX2) (show decode (am_cc m2_init) 39 = .ok (.putfield 30, 3) by decide +kernel) (kd_at (KX_this hlt _ _) ha) (by decide) rfl jnX2 tyX2_ok nmX2 (by decide) lf_RX2_30 rfl (Or.inr (Or.inr ⟨rfl, ⟨_, rfl⟩, rfl, by omega, by omega⟩)) ?_
  refine s_aload_n (k0 := 0) (x := a) (show decode (am_cc m2_init) 42 = .ok (.aload_n 0, 1) by decide +kernel) rfl ?_
  refine s_aload_n (k0 := 1) (x := x) (show decode (am_cc m2_init) 43 = .ok (.aload_n 1, 1) by decide +kernel) rfl ?_
  refine s_putf (k := 6) (x := x) (ty0 := tyX2) (show decode (am_cc m2_init) 44 = .ok (.putfield 33, 3) by decide +kernel) (kd_at (KX_this hlt _ _) ha) (by decide) rfl jnX2 tyX2_ok nmX2 (by decide) lf_RX2_33 rfl (Or.inr (Or.inr ⟨rfl, ⟨_, rfl⟩, rfl, by omega, by omega⟩)) ?_
  refine s_aload_n (k0 := 0) (x := a) (show decode (am_cc m2_init) 47 = .ok (.aload_n 0, 1) by decide +kernel) rfl ?_
  refine s_iconst (show decode (am_cc m2_init) 48 = .ok (.iconst 2, 1) by decide +kernel) (by unfold am_i32; omega) ?_
  refine s_putf (k := 7) (x := 2) (ty0 := tyX2) (show decode (am_cc m2_init) 49 = .ok (.putfield 36, 3) by decide +kernel) (kd_at (KX_this hlt _ _) ha) (by decide) rfl jnX2 tyX2_ok nmX2 (by decide) lf_RX2_36 rfl (Or.inl ⟨rfl, rfl, rfl⟩) ?_
  refine s_return (show decode (am_cc m2_init) 52 = .ok (.return_, 1) by decide +kernel) rfl ?_
  refine k _ (fun b j hb hne => ?_)
  rw [am_upn (Or.inl (by omega)), am_upn (Or.inl (by omega)), am_upn (Or.inl (by omega)), am_upn (Or.inl (by omega)), am_upn (Or.inl (by omega)), am_upn (Or.inl (by omega)), am_nw_old (by omega), am_nw_old (by omega)]
theorem c1_init {ks : List am_C} {i : Nat} {a n0 n1 n2 n3 n4 : Int} {M : am_M} {Q : am_Q} (ha : a = (i : Int)) (hi : ks[i]? = some (1, 6, [-1, -1, -1, -1, -1, -1])) (hn : (ks.length : Int) = n0) (h1 : n0 + 1 = n1) (h2 : n0 + 2 = n2) (h3 : n0 + 3 = n3) (h4 : n0 + 4 = n4)
    (k : ∀ M1 : am_M, (∀ b j : Int, b < n0 → b ≠ a → M1 b j = M b j) →  Q none (KX ks i (1, 6, [n0, n1, n2, n3, n4, -1]) [(11, 36, []), (11, 36, []), (11, 72, []), (11, 72, []), (11, 72, [])], 5, 288) M1) : am_Call m1_init [vr a] (ks, 0, 0) M Q := by
  have hlt : i < ks.length := (List.getElem?_eq_some_iff.mp hi).1
  refine am_call_of (K := (ks, 0, 0)) (by decide +kernel) rfl rfl (Nat.le_of_ble_eq_true rfl) ?_
  refine am_KX2 (X := ks) (KX_0 hi) rfl rfl ?_
  refine s_aload_n (k0 := 0) (x := a) (show decode (am_cc m1_init) 0 = .ok (.aload_n 0, 1) by decide +kernel) rfl ?_
  refine s_objInit (show decode (am_cc m1_init) 1 = .ok (.invokespecial 5, 3) by decide +kernel) lo_RX1 lo_i lo_c (by omega) (by decide) (Nat.le_of_ble_eq_true rfl) ?_
  refine s_aload_n (k0 := 0) (x := a) (show decode (am_cc m1_init) 4 = .ok (.aload_n 0, 1) by decide +kernel) rfl ?_
  refine s_bipush (show decode (am_cc m1_init) 5 = .ok (.bipush 36, 2) by decide +kernel) (by unfold am_i32; omega) (by decide) ?_
  refine t_newa (r := n0) (n := 36) (tag := 11) (by simp only [List.length_cons, List.length_nil]; omega) (by decide) (show decode (am_cc m1_init) 7 = .ok (.newarray .int, 2) by decide +kernel) la_i rfl (Or.inl ⟨rfl, rfl⟩) (by decide) (by decide) ⟨Nat.le_of_ble_eq_true rfl, Nat.le_of_ble_eq_true rfl⟩ ?_
  refine am_KX2 (X' := KX ks i (1, 6, [-1, -1, -1, -1, -1, -1]) [(11, 36, [])]) (c' := 1) (s' := 36) rfl rfl rfl ?_
  refine u_putF (k := 0) (x := n0) (ty0 := tyX1) ha hlt (by decide) (show decode (am_cc m1_init) 9 = .ok (.putfield 11, 3) by decide +kernel) (by decide) rfl jnX1 tyX1_ok nmX1 (by decide) (Nat.le_of_ble_eq_true rfl) lf_RX1_11 rfl rfl rfl rfl (Or.inr ⟨_, rfl⟩) (by omega) ?_
  refine am_KX2 (X' := KX ks i (1, 6, [n0, -1, -1, -1, -1, -1]) [(11, 36, [])]) (c' := 1) (s' := 36) rfl rfl rfl ?_
  refine s_aload_n (k0 := 0) (x := a) (show decode (am_cc m1_init) 12 = .ok (.aload_n 0, 1) by decide +kernel) rfl ?_
  refine s_bipush (show decode (am_cc m1_init) 13 = .ok (.bipush 36, 2) by decide +kernel) (by unfold am_i32; omega) (by decide) ?_
  refine t_newa (r := n1) (n := 36) (tag := 11) (by simp only [List.length_cons, List.length_nil]; omega) (by decide) (show decode (am_cc m1_init) 15 = .ok (.newarray .int, 2) by decide +kernel) la_i rfl (Or.inl ⟨rfl, rfl⟩) (by decide) (by decide) ⟨Nat.le_of_ble_eq_true rfl, Nat.le_of_ble_eq_true rfl⟩ ?_
  refine am_KX2 (X' := KX ks i (1, 6, [n0, -1, -1, -1, -1, -1]) [(11, 36, []), (11, 36, [])]) (c' := 2) (s' := 72) rfl rfl rfl ?_
  refine u_putF (k := 1) (x := n1) (ty0 := tyX1) ha hlt (by decide) (show decode (am_cc m1_init) 17 = .ok (.putfield 15, 3) by decide +kernel) (by decide) rfl jnX1 tyX1_ok nmX1 (by decide) (Nat.le_of_ble_eq_true rfl) lf_RX1_15 rfl rfl rfl rfl (Or.inr ⟨_, rfl⟩) (by omega) ?_
  refine am_KX2 (X' := KX ks i (1, 6, [n0, n1, -1, -1, -1, -1]) [(11, 36, []), (11, 36, [])]) (c' := 2) (s' := 72) rfl rfl rfl ?_
  refine s_aload_n (k0 := 0) (x := a) (show decode (am_cc m1_init) 20 = .ok (.aload_n 0, 1) by decide +kernel) rfl ?_
  refine s_bipush (show decode (am_cc m1_init) 21 = .ok (.bipush 72, 2) by decide +kernel) (by unfold am_i32; omega) (by decide) ?_
  refine t_newa (r := n2) (n := 72) (tag := 11) (by simp only [List.length_cons, List.length_nil]; omega) (by decide) (show decode (am_cc m1_init) 23 = .ok (.newarray .int, 2) by decide +kernel) la_i rfl (Or.inl ⟨rfl, rfl⟩) (by decide) (by decide) ⟨Nat.le_of_ble_eq_true rfl, Nat.le_of_ble_eq_true rfl⟩ ?_
  refine am_KX2 (X' := KX ks i (1, 6, [n0, n1, -1, -1, -1, -1]) [(11, 36, []), (11, 36, []), (11, 72, [])]) (c' := 3) (s' := 144) rfl rfl rfl ?_
  refine u_putF (k := 2) (x := n2) (ty0 := tyX1) ha hlt (by decide) (show decode (am_cc m1_init) 25 = .ok (.putfield 18, 3) by decide +kernel) (by decide) rfl jnX1 tyX1_ok nmX1 (by decide) (Nat.le_of_ble_eq_true rfl) lf_RX1_18 rfl rfl rfl rfl (Or.inr ⟨_, rfl⟩) (by omega) ?_
  refine am_KX2 (X' := KX ks i (1, 6, [n0, n1, n2, -1, -1, -1]) [(11, 36, []), (11, 36, []), (11, 72, [])]) (c' := 3) (s' := 144) rfl rfl rfl ?_
  refine s_aload_n (k0 := 0) (x := a) (show decode (am_cc m1_init) 28 = .ok (.aload_n 0, 1) by decide +kernel) rfl ?_
  refine s_bipush (show decode (am_cc m1_init) 29 = .ok (.bipush 72, 2) by decide +kernel) (by unfold am_i32; omega) (by decide) ?_
  refine t_newa (r := n3) (n := 72) (tag := 11) (by simp only [List.length_cons, List.length_nil]; omega) (by decide) (show decode (am_cc m1_init) 31 = .ok (.newarray .int, 2) by decide +kernel) la_i rfl (Or.inl ⟨rfl, rfl⟩) (by decide) (by decide) ⟨Nat.le_of_ble_eq_true rfl, Nat.le_of_ble_eq_true rfl⟩ ?_
  refine am_KX2 (X' := KX ks i (1, 6, [n0, n1, n2, -1, -1, -1]) [(11, 36, []), (11, 36, []), (11, 72, []), (11, 72, [])]) (c' := 4) (s' := 216) rfl rfl rfl ?_
  refine u_putF (k := 3) (x := n3) (ty0 := tyX1) ha hlt (by decide) (show decode (am_cc m1_init) 33 = .ok (.putfield 21, 3) by decide +kernel) (by decide) rfl jnX1 tyX1_ok nmX1 (by decide) (Nat.le_of_ble_eq_true rfl) lf_RX1_21 rfl rfl rfl rfl (Or.inr ⟨_, rfl⟩) (by omega) ?_
  refine am_KX2 (X' := KX ks i (1, 6, [n0, n1, n2, n3, -1, -1]) [(11, 36, []), (11, 36, []), (11, 72, []), (11, 72, [])]) (c' := 4) (s' := 216) rfl rfl rfl ?_
  refine s_aload_n (k0 := 0) (x := a) (show decode (am_cc m1_init) 36 = .ok (.aload_n 0, 1) by decide +kernel) rfl ?_
  refine s_bipush (show decode (am_cc m1_init) 37 = .ok (.bipush 72, 2) by decide +kernel) (by unfold am_i32; omega) (by decide) ?_
  refine t_newa (r := n4) (n := 72) (tag := 11) (by simp only [List.length_cons, List.length_nil]; omega) (by decide) (show decode (am_cc m1_init) 39 = .ok (.newarray .int, 2) by decide +kernel) la_i rfl (Or.inl ⟨rfl, rfl⟩) (by decide) (by decide) ⟨Nat.le_of_ble_eq_true rfl, Nat.le_of_ble_eq_true rfl⟩ ?_
  refine am_KX2 (X' := KX ks i (1, 6, [n0, n1, n2, n3, -1, -1]) [(11, 36, []), (11, 36, []), (11, 72, []), (11, 72, []), (11, 72, [])]) (c' := 5) (s' := 288) rfl rfl rfl ?_
  refine u_putF (k := 4) (x := n4) (ty0 := tyX1) ha hlt (by decide) (show decode (am_cc m1_init) 41 = .ok (.putfield 24, 3) by decide +kernel) (by decide) rfl jnX1 tyX1_ok nmX1 (by decide) (Nat.le_of_ble_eq_true rfl) lf_RX1_24 rfl rfl rfl rfl (Or.inr ⟨_, rfl⟩) (by omega) ?_
  refine am_KX2 (X' := KX ks i (1, 6, [n0, n1, n2, n3, n4, -1]) [(11, 36, []), (11, 36, []), (11, 72, []), (11, 72, []), (11, 72, [])]) (c' := 5) (s' := 288) rfl rfl rfl ?_
  refine s_aload_n (k0 := 0) (x := a) (show decode (am_cc m1_init) 44 = .ok (.aload_n 0, 1) by decide +kernel) rfl ?_
  refine s_iconst (show decode (am_cc m1_init) 45 = .ok (.iconst 0, 1) by decide +kernel) (by unfold am_i32; omega) ?_
  refine s_putf (k := 5) (x := 0) (ty0 := tyX1) (show decode (am_cc m1_init) 46 = .ok (.putfield 27, 3) by decide +kernel) (kd_at (KX_this hlt _ _) ha) (by decide) rfl jnX1 tyX1_ok nmX1 (by decide) lf_RX1_27 rfl (Or.inl ⟨rfl, rfl, rfl⟩) ?_
  refine s_return (show decode (am_cc m1_init) 49 = .ok (.return_, 1) by decide +kernel) rfl ?_
  refine k _ (fun b j hb hne => ?_)
  rw [am_upn (Or.inl (by omega)), am_nw_old (by omega), am_nw_old (by omega), am_nw_old (by omega), am_nw_old (by omega), am_nw_old (by omega)]
theorem c0_init {ks : List am_C} {i : Nat} {a n0 n1 n2 n3 n4 n5 n6 n7 : Int} {x y : Int} {M : am_M} {Q : am_Q} (ha : a = (i : Int)) (hi : ks[i]? = some (0, 11, [-1, -1, -1, -1, -1, -1, -1, -1, -1, -1, -1])) (hn : (ks.length : Int) = n0) (h1 : n0 + 1 = n1) (h2 : n0 + 2 = n2) (h3 : n0 + 3 = n3) (h4 : n0 + 4 = n4) (h5 : n0 + 5 = n5) (h6 : n0 + 6 = n6) (h7 : n0 + 7 = n7) (hx : 0 ≤ x ∧ x < 100000) (hy : 0 ≤ y ∧ y < 100000)
    (k : ∀ M1 : am_M, (∀ b j : Int, b < n0 → b ≠ a → M1 b j = M b j) →  Q none (KX ks i (0, 11, [n0, n1, -1, n2, n3, n4, n6, -1, -1, -1, -1]) [(11, 216, []), (11, 216, []), (11, 216, []), (11, 1080, []), (5, 2, [n5, -1]), (11, 74, []), (5, 2, [n7, -1]), (11, 74, [])], 8, 1880) M1) : am_Call m0_init [vr a, vr x, vr y] (ks, 0, 0) M Q := by
  have hlt : i < ks.length := (List.getElem?_eq_some_iff.mp hi).1
  refine am_call_of (K := (ks, 0, 0)) (by decide +kernel) rfl rfl (Nat.le_of_ble_eq_true rfl) ?_
  refine am_KX2 (X := ks) (KX_0 hi) rfl rfl ?_
  refine s_aload_n (k0 := 0) (x := a) (show decode (am_cc m0_init) 0 = .ok (.aload_n 0, 1) by decide +kernel) rfl ?_
  refine s_objInit (show decode (am_cc m0_init) 1 = .ok (.invokespecial 5, 3) by decide +kernel) lo_RX0 lo_i lo_c (by omega) (by decide) (Nat.le_of_ble_eq_true rfl) ?_
  refine s_aload_n (k0 := 0) (x := a) (show decode (am_cc m0_init) 4 = .ok (.aload_n 0, 1) by decide +kernel) rfl ?_
  refine s_sipush (show decode (am_cc m0_init) 5 = .ok (.sipush 216, 3) by decide +kernel) (by unfold am_i32; omega) (by decide) ?_
  refine t_newa (r := n0) (n := 216) (tag := 11) (by simp only [List.length_cons, List.length_nil]; omega) (by decide) (show decode (am_cc m0_init) 8 = .ok (.newarray .int, 2) by decide +kernel) la_i rfl (Or.inl ⟨rfl, rfl⟩) (by decide) (by decide) ⟨Nat.le_of_ble_eq_true rfl, Nat.le_of_ble_eq_true rfl⟩ ?_
  refine am_KX2 (X' := KX ks i (0, 11, [-1, -1, -1, -1, -1, -1, -1, -1, -1, -1, -1]) [(11, 216, [])]) (c' := 1) (s' := 216) rfl rfl rfl ?_
  refine u_putF (k := 0) (x := n0) (ty0 := tyX0) ha hlt (by decide) (show decode (am_cc m0_init) 10 = .ok (.putfield 11, 3) by decide +kernel) (by decide) rfl jnX0 tyX0_ok nmX0 (by decide) (Nat.le_of_ble_eq_true rfl) lf_RX0_11 rfl rfl rfl rfl (Or.inr ⟨_, rfl⟩) (by omega) ?_
  refine am_KX2 (X' := KX ks i (0, 11, [n0, -1, -1, -1, -1, -1, -1, -1, -1, -1, -1]) [(11, 216, [])]) (c' := 1) (s' := 216) rfl rfl rfl ?_
  refine s_aload_n (k0 := 0) (x := a) (show decode (am_cc m0_init) 13 = .ok (.aload_n 0, 1) by decide +kernel) rfl ?_
  refine s_sipush (show decode (am_cc m0_init) 14 = .ok (.sipush 216, 3) by decide +kernel) (by unfold am_i32; omega) (by decide) ?_
  refine t_newa (r := n1) (n := 216) (tag := 11) (by simp only [List.length_cons, List.length_nil]; omega) (by decide) (show decode (am_cc m0_init) 17 = .ok (.newarray .int, 2) by decide +kernel) la_i rfl (Or.inl ⟨rfl, rfl⟩) (by decide) (by decide) ⟨Nat.le_of_ble_eq_true rfl, Nat.le_of_ble_eq_true rfl⟩ ?_
  refine am_KX2 (X' := KX ks i (0, 11, [n0, -1, -1, -1, -1, -1, -1, -1, -1, -1, -1]) [(11, 216, []), (11, 216, [])]) (c' := 2) (s' := 432) rfl rfl rfl ?_
  refine u_putF (k := 1) (x := n1) (ty0 := tyX0) ha hlt (by decide) (show decode (am_cc m0_init) 19 = .ok (.putfield 15, 3) by decide +kernel) (by decide) rfl jnX0 tyX0_ok nmX0 (by decide) (Nat.le_of_ble_eq_true rfl) lf_RX0_15 rfl rfl rfl rfl (Or.inr ⟨_, rfl⟩) (by omega) ?_
  refine am_KX2 (X' := KX ks i (0, 11, [n0, n1, -1, -1, -1, -1, -1, -1, -1, -1, -1]) [(11, 216, []), (11, 216, [])]) (c' := 2) (s' := 432) rfl rfl rfl ?_
  refine s_aload_n (k0 := 0) (x := a) (show decode (am_cc m0_init) 22 = .ok (.aload_n 0, 1) by decide +kernel) rfl ?_
  refine s_iconst (show decode (am_cc m0_init) 23 = .ok (.iconst 0, 1) by decide +kernel) (by unfold am_i32; omega) ?_
  refine s_putf (k := 2) (x := 0) (ty0 := tyX0) (show decode (am_cc m0_init) 24 = .ok (.putfield 18, 3) by decide +kernel) (kd_at (KX_this hlt _ _) ha) (by decide) rfl jnX0 tyX0_ok nmX0 (by decide) lf_RX0_18 rfl (Or.inl ⟨rfl, rfl, rfl⟩) ?_
  refine s_aload_n (k0 := 0) (x := a) (show decode (am_cc m0_init) 27 = .ok (.aload_n 0, 1) by decide +kernel) rfl ?_
  refine s_sipush (show decode (am_cc m0_init) 28 = .ok (.sipush 216, 3) by decide +kernel) (by unfold am_i32; omega) (by decide) ?_
  refine t_newa (r := n2) (n := 216) (tag := 11) (by simp only [List.length_cons, List.length_nil]; omega) (by decide) (show decode (am_cc m0_init) 31 = .ok (.newarray .int, 2) by decide +kernel) la_i rfl (Or.inl ⟨rfl, rfl⟩) (by decide) (by decide) ⟨Nat.le_of_ble_eq_true rfl, Nat.le_of_ble_eq_true rfl⟩ ?_
  refine am_KX2 (X' := KX ks i (0, 11, [n0, n1, -1, -1, -1, -1, -1, -1, -1, -1, -1]) [(11, 216, []), (11, 216, []), (11, 216, [])]) (c' := 3) (s' := 648) rfl rfl rfl ?_
  refine u_putF (k := 3) (x := n2) (ty0 := tyX0) ha hlt (by decide) (show decode (am_cc m0_init) 33 = .ok (.putfield 22, 3) by decide +kernel) (by decide) rfl jnX0 tyX0_ok nmX0 (by decide) (Nat.le_of_ble_eq_true rfl) lf_RX0_22 rfl rfl rfl rfl (Or.inr ⟨_, rfl⟩) (by omega) ?_
  refine am_KX2 (X' := KX ks i (0, 11, [n0, n1, -1, n2, -1, -1, -1, -1, -1, -1, -1]) [(11, 216, []), (11, 216, []), (11, 216, [])]) (c' := 3) (s' := 648) rfl rfl rfl ?_
  refine s_aload_n (k0 := 0) (x := a) (show decode (am_cc m0_init) 36 = .ok (.aload_n 0, 1) by decide +kernel) rfl ?_
  refine s_sipush (show decode (am_cc m0_init) 37 = .ok (.sipush 1080, 3) by decide +kernel) (by unfold am_i32; omega) (by decide) ?_
  refine t_newa (r := n3) (n := 1080) (tag := 11) (by simp only [List.length_cons, List.length_nil]; omega) (by decide) (show decode (am_cc m0_init) 40 = .ok (.newarray .int, 2) by decide +kernel) la_i rfl (Or.inl ⟨rfl, rfl⟩) (by decide) (by decide) ⟨Nat.le_of_ble_eq_true rfl, Nat.le_of_ble_eq_true rfl⟩ ?_
  refine am_KX2 (X' := KX ks i (0, 11, [n0, n1, -1, n2, -1, -1, -1, -1, -1, -1, -1]) [(11, 216, []), (11, 216, []), (11, 216, []), (11, 1080, [])]) (c' := 4) (s' := 1728) rfl rfl rfl ?_
  refine u_putF (k := 4) (x := n3) (ty0 := tyX0) ha hlt (by decide) (show decode (am_cc m0_init) 42 = .ok (.putfield 25, 3) by decide +kernel) (by decide) rfl jnX0 tyX0_ok nmX0 (by decide) (Nat.le_of_ble_eq_true rfl) lf_RX0_25 rfl rfl rfl rfl (Or.inr ⟨_, rfl⟩) (by omega) ?_
  refine am_KX2 (X' := KX ks i (0, 11, [n0, n1, -1, n2, n3, -1, -1, -1, -1, -1, -1]) [(11, 216, []), (11, 216, []), (11, 216, []), (11, 1080, [])]) (c' := 4) (s' := 1728) rfl rfl rfl ?_
  refine s_aload_n (k0 := 0) (x := a) (show decode (am_cc m0_init) 45 = .ok (.aload_n 0, 1) by decide +kernel) rfl ?_
  refine t_new (r := n4) (ci := 5) (N := 2) (ty0 := tyX5) (by simp only [List.length_cons, List.length_nil]; omega) (by decide) (show decode (am_cc m0_init) 46 = .ok (.new 28, 3) by decide +kernel) (by decide) rfl jnX5 tyX5_ok (by decide +kernel) lc_RX0_28 lm_5.1 lm_5.2 ⟨Nat.le_of_ble_eq_true rfl, Nat.le_of_ble_eq_true rfl⟩ ?_
  refine am_KX2 (X' := KX ks i (0, 11, [n0, n1, -1, n2, n3, -1, -1, -1, -1, -1, -1]) [(11, 216, []), (11, 216, []), (11, 216, []), (11, 1080, []), (5, 2, [-1, -1])]) (c' := 5) (s' := 1730) rfl rfl rfl ?_
  refine s_dupr (show decode (am_cc m0_init) 49 = .ok (.dup, 1) by decide +kernel) ?_
  refine s_bipush (show decode (am_cc m0_init) 50 = .ok (.bipush 74, 2) by decide +kernel) (by unfold am_i32; omega) (by decide) ?_
  refine s_callI (a := n4) (as := [vi 74]) (stk := [vr n4, vr a]) (show decode (am_cc m0_init) 52 = .ok (.invokespecial 30, 3) by decide +kernel) lk_RX0_30 (by omega) (by decide) (Nat.le_of_ble_eq_true rfl) ⟨Nat.le_of_ble_eq_true rfl, Nat.le_of_ble_eq_true rfl⟩ (c5_init_74 (ks := KX ks i (0, 11, [n0, n1, -1, n2, n3, -1, -1, -1, -1, -1, -1]) [(11, 216, []), (11, 216, []), (11, 216, []), (11, 1080, []), (5, 2, [-1, -1])]) (i := (ks.length + 4)) (a := n4) (n0 := n5) (by omega) (KX_new (j := 4) rfl) (by rw [KX_len]; simp only [List.length_cons, List.length_nil]; omega)  (fun M0 f0 v0_0 _ => ?_))
  show am_At m0_init 55 _ [vr n4, vr a] (_, 6, 1804) M0 Q
  refine am_KX2 (X' := KX ks i (0, 11, [n0, n1, -1, n2, n3, -1, -1, -1, -1, -1, -1]) [(11, 216, []), (11, 216, []), (11, 216, []), (11, 1080, []), (5, 2, [n5, -1]), (11, 74, [])]) (c' := 6) (s' := 1804) (KX_nest (news := [(11, 216, []), (11, 216, []), (11, 216, []), (11, 1080, [])]) (by rfl)) rfl rfl ?_
  refine u_putF (k := 5) (x := n4) (ty0 := tyX0) ha hlt (by decide) (show decode (am_cc m0_init) 55 = .ok (.putfield 33, 3) by decide +kernel) (by decide) rfl jnX0 tyX0_ok nmX0 (by decide) (Nat.le_of_ble_eq_true rfl) lf_RX0_33 rfl rfl rfl rfl (Or.inl ⟨_, rfl⟩) (by omega) ?_
  refine am_KX2 (X' := KX ks i (0, 11, [n0, n1, -1, n2, n3, n4, -1, -1, -1, -1, -1]) [(11, 216, []), (11, 216, []), (11, 216, []), (11, 1080, []), (5, 2, [n5, -1]), (11, 74, [])]) (c' := 6) (s' := 1804) rfl rfl rfl ?_
  refine s_aload_n (k0 := 0) (x := a) (show decode (am_cc m0_init) 58 = .ok (.aload_n 0, 1) by decide +kernel) rfl ?_
  refine t_new (r := n6) (ci := 5) (N := 2) (ty0 := tyX5) (by simp only [List.length_cons, List.length_nil]; omega) (by decide) (show decode (am_cc m0_init) 59 = .ok (.new 28, 3) by decide +kernel) (by decide) rfl jnX5 tyX5_ok (by decide +kernel) lc_RX0_28 lm_5.1 lm_5.2 ⟨Nat.le_of_ble_eq_true rfl, Nat.le_of_ble_eq_true rfl⟩ ?_
  refine am_KX2 (X' := KX ks i (0, 11, [n0, n1, -1, n2, n3, n4, -1, -1, -1, -1, -1]) [(11, 216, []), (11, 216, []), (11, 216, []), (11, 1080, []), (5, 2, [n5, -1]), (11, 74, []), (5, 2, [-1, -1])]) (c' := 7) (s' := 1806) rfl rfl rfl ?_
  refine s_dupr (show decode (am_cc m0_init) 62 = .ok (.dup, 1) by decide +kernel) ?_
  refine s_bipush (show decode (am_cc m0_init) 63 = .ok (.bipush 74, 2) by decide +kernel) (by unfold am_i32; omega) (by decide) ?_
  refine s_callI (a := n6) (as := [vi 74]) (stk := [vr n6, vr a]) (show decode (am_cc m0_init) 65 = .ok (.invokespecial 30, 3) by decide +kernel) lk_RX0_30 (by omega) (by decide) (Nat.le_of_ble_eq_true rfl) ⟨Nat.le_of_ble_eq_true rfl, Nat.le_of_ble_eq_true rfl⟩ (c5_init_74 (ks := KX ks i (0, 11, [n0, n1, -1, n2, n3, n4, -1, -1, -1, -1, -1]) [(11, 216, []), (11, 216, []), (11, 216, []), (11, 1080, []), (5, 2, [n5, -1]), (11, 74, []), (5, 2, [-1, -1])]) (i := (ks.length + 6)) (a := n6) (n0 := n7) (by omega) (KX_new (j := 6) rfl) (by rw [KX_len]; simp only [List.length_cons, List.length_nil]; omega)  (fun M1 f1 v1_0 _ => ?_))
  show am_At m0_init 68 _ [vr n6, vr a] (_, 8, 1880) M1 Q
  refine am_KX2 (X' := KX ks i (0, 11, [n0, n1, -1, n2, n3, n4, -1, -1, -1, -1, -1]) [(11, 216, []), (11, 216, []), (11, 216, []), (11, 1080, []), (5, 2, [n5, -1]), (11, 74, []), (5, 2, [n7, -1]), (11, 74, [])]) (c' := 8) (s' := 1880) (KX_nest (news := [(11, 216, []), (11, 216, []), (11, 216, []), (11, 1080, []), (5, 2, [n5, -1]), (11, 74, [])]) (by rfl)) rfl rfl ?_
  refine u_putF (k := 6) (x := n6) (ty0 := tyX0) ha hlt (by decide) (show decode (am_cc m0_init) 68 = .ok (.putfield 37, 3) by decide +kernel) (by decide) rfl jnX0 tyX0_ok nmX0 (by decide) (Nat.le_of_ble_eq_true rfl) lf_RX0_37 rfl rfl rfl rfl (Or.inl ⟨_, rfl⟩) (by omega) ?_
  refine am_KX2 (X' := KX ks i (0, 11, [n0, n1, -1, n2, n3, n4, n6, -1, -1, -1, -1]) [(11, 216, []), (11, 216, []), (11, 216, []), (11, 1080, []), (5, 2, [n5, -1]), (11, 74, []), (5, 2, [n7, -1]), (11, 74, [])]) (c' := 8) (s' := 1880) rfl rfl rfl ?_
  refine s_aload_n (k0 := 0) (x := a) (show decode (am_cc m0_init) 71 = .ok (.aload_n 0, 1) by decide +kernel) rfl ?_
  refine s_aload_n (k0 := 1) (x := x) (show decode (am_cc m0_init) 72 = .ok (.aload_n 1, 1) by decide +kernel) rfl ?_
  refine s_putf (k := 7) (x := x) (ty0 := tyX0) (show decode (am_cc m0_init) 73 = .ok (.putfield 40, 3) by decide +kernel) (kd_at (KX_this hlt _ _) ha) (by decide) rfl jnX0 tyX0_ok nmX0 (by decide) lf_RX0_40 rfl (Or.inr (Or.inr ⟨rfl, ⟨_, rfl⟩, rfl, by omega, by omega⟩)) ?_
  refine s_aload_n (k0 := 0) (x := a) (show decode (am_cc m0_init) 76 = .ok (.aload_n 0, 1) by decide +kernel) rfl ?_
  refine s_aload_n (k0 := 2) (x := y) (show decode (am_cc m0_init) 77 = .ok (.aload_n 2, 1) by decide +kernel) rfl ?_
  refine s_putf (k := 8) (x := y) (ty0 := tyX0) (show decode (am_cc m0_init) 78 = .ok (.putfield 44, 3) by decide +kernel) (kd_at (KX_this hlt _ _) ha) (by decide) rfl jnX0 tyX0_ok nmX0 (by decide) lf_RX0_44 rfl (Or.inr (Or.inr ⟨rfl, ⟨_, rfl⟩, rfl, by omega, by omega⟩)) ?_
  refine s_aload_n (k0 := 0) (x := a) (show decode (am_cc m0_init) 81 = .ok (.aload_n 0, 1) by decide +kernel) rfl ?_
  refine s_aload_n (k0 := 2) (x := y) (show decode (am_cc m0_init) 82 = .ok (.aload_n 2, 1) by decide +kernel) rfl ?_
  refine s_putf (k := 9) (x := y) (ty0 := tyX0) (show decode (am_cc m0_init) 83 = .ok (.putfield 48, 3) by decide +kernel) (kd_at (KX_this hlt _ _) ha) (by decide) rfl jnX0 tyX0_ok nmX0 (by decide) lf_RX0_48 rfl (Or.inr (Or.inr ⟨rfl, ⟨_, rfl⟩, rfl, by omega, by omega⟩)) ?_
  refine s_aload_n (k0 := 0) (x := a) (show decode (am_cc m0_init) 86 = .ok (.aload_n 0, 1) by decide +kernel) rfl ?_
  refine s_iconst (show decode (am_cc m0_init) 87 = .ok (.iconst 2, 1) by decide +kernel) (by unfold am_i32; omega) ?_
  refine s_putf (k := 10) (x := 2) (ty0 := tyX0) (show decode (am_cc m0_init) 88 = .ok (.putfield 51, 3) by decide +kernel) (kd_at (KX_this hlt _ _) ha) (by decide) rfl jnX0 tyX0_ok nmX0 (by decide) lf_RX0_51 rfl (Or.inl ⟨rfl, rfl, rfl⟩) ?_
  refine s_return (show decode (am_cc m0_init) 91 = .ok (.return_, 1) by decide +kernel) rfl ?_
  refine k _ (fun b j hb hne => ?_)
  rw [am_upn (Or.inl (by omega)), am_upn (Or.inl (by omega)), am_upn (Or.inl (by omega)), am_upn (Or.inl (by omega)), f1 _ _ (by omega) (by omega), am_nw_old (by omega), f0 _ _ (by omega) (by omega), am_nw_old (by omega), am_nw_old (by omega), am_nw_old (by omega), am_upn (Or.inl (by omega)), am_nw_old (by omega), am_nw_old (by omega)]
theorem c7_init {ks : List am_C} {i : Nat} {a n0 : Int} {M : am_M} {Q : am_Q} (ha : a = (i : Int)) (hi : ks[i]? = some (7, 2, [-1, -1])) (hn : (ks.length : Int) = n0) 
    (k : ∀ M1 : am_M, (∀ b j : Int, b < n0 → b ≠ a → M1 b j = M b j) →  Q none (KX ks i (7, 2, [n0, -1]) [(13, 126, [])], 1, 126) M1) : am_Call m7_init [vr a] (ks, 0, 0) M Q := by
  have hlt : i < ks.length := (List.getElem?_eq_some_iff.mp hi).1
  refine am_call_of (K := (ks, 0, 0)) (by decide +kernel) rfl rfl (Nat.le_of_ble_eq_true rfl) ?_
  refine am_KX2 (X := ks) (KX_0 hi) rfl rfl ?_
  refine s_aload_n (k0 := 0) (x := a) (show decode (am_cc m7_init) 0 = .ok (.aload_n 0, 1) by decide +kernel) rfl ?_
  refine s_objInit (show decode (am_cc m7_init) 1 = .ok (.invokespecial 3, 3) by decide +kernel) lo_RX7 lo_i lo_c (by omega) (by decide) (Nat.le_of_ble_eq_true rfl) ?_
  refine s_aload_n (k0 := 0) (x := a) (show decode (am_cc m7_init) 4 = .ok (.aload_n 0, 1) by decide +kernel) rfl ?_
  refine s_bipush (show decode (am_cc m7_init) 5 = .ok (.bipush 126, 2) by decide +kernel) (by unfold am_i32; omega) (by decide) ?_
  refine t_newa (r := n0) (n := 126) (tag := 13) (by simp only [List.length_cons, List.length_nil]; omega) (by decide) (show decode (am_cc m7_init) 7 = .ok (.newarray .long, 2) by decide +kernel) la_j rfl (Or.inr (Or.inr ⟨rfl, rfl⟩)) (by decide) (by decide) ⟨Nat.le_of_ble_eq_true rfl, Nat.le_of_ble_eq_true rfl⟩ ?_
  refine am_KX2 (X' := KX ks i (7, 2, [-1, -1]) [(13, 126, [])]) (c' := 1) (s' := 126) rfl rfl rfl ?_
  refine u_putF (k := 0) (x := n0) (ty0 := tyX7) ha hlt (by decide) (show decode (am_cc m7_init) 9 = .ok (.putfield 11, 3) by decide +kernel) (by decide) rfl jnX7 tyX7_ok nmX7 (by decide) (Nat.le_of_ble_eq_true rfl) lf_RX7_11 rfl rfl rfl rfl (Or.inr ⟨_, rfl⟩) (by omega) ?_
  refine am_KX2 (X' := KX ks i (7, 2, [n0, -1]) [(13, 126, [])]) (c' := 1) (s' := 126) rfl rfl rfl ?_
  refine s_aload_n (k0 := 0) (x := a) (show decode (am_cc m7_init) 12 = .ok (.aload_n 0, 1) by decide +kernel) rfl ?_
  refine s_iconst (show decode (am_cc m7_init) 13 = .ok (.iconst 2, 1) by decide +kernel) (by unfold am_i32; omega) ?_
  refine s_putf (k := 1) (x := 2) (ty0 := tyX7) (show decode (am_cc m7_init) 14 = .ok (.putfield 15, 3) by decide +kernel) (kd_at (KX_this hlt _ _) ha) (by decide) rfl jnX7 tyX7_ok nmX7 (by decide) lf_RX7_15 rfl (Or.inl ⟨rfl, rfl, rfl⟩) ?_
  refine s_return (show decode (am_cc m7_init) 17 = .ok (.return_, 1) by decide +kernel) rfl ?_
  refine k _ (fun b j hb hne => ?_)
  rw [am_upn (Or.inl (by omega)), am_nw_old (by omega)]
