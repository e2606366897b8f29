/-! ===== one row an instruction ===== -/
theorem am_cvr (G : am_G) (x : Int) : (∃ r : Nat, am_cv G (vr x) = .ref r) ∨ am_cv G (vr x) = .null := by
  show (∃ r : Nat, (if x = -2 then Value.ref G.2.2 else va_rf (am_rf G x)) = .ref r) ∨ (if x = -2 then Value.ref G.2.2 else va_rf (am_rf G x)) = .null
  split
  · exact Or.inl ⟨_, rfl⟩
  · unfold am_rf
    split
    · exact Or.inr rfl
    · exact Or.inl ⟨_, rfl⟩
theorem am_cvr_ref {G : am_G} {x : Int} (h0 : -2 ≤ x) (h : ¬ x = -1) : ∃ r : Nat, am_cv G (vr x) = .ref r := by
  show ∃ r : Nat, (if x = -2 then Value.ref G.2.2 else va_rf (am_rf G x)) = .ref r
  split
  · exact ⟨_, rfl⟩
  · unfold am_rf
    rw [if_neg (by omega)]
    exact ⟨_, rfl⟩
theorem am_i32_of (z : Int32) : am_i32 z.toInt := ⟨by have := Int32.le_toInt z; omega, by have := Int32.toInt_lt z; omega⟩
theorem am_i64_of (z : Int64) : am_i64 z.toInt := ⟨by have := Int64.le_toInt z; omega, by have := Int64.toInt_lt z; omega⟩
theorem am_i64_of32 {x : Int} (h : am_i32 x) : am_i64 x := ⟨by have := h.1; omega, by have := h.2; omega⟩
theorem am_i2l {x : Int} (h : am_i32 x) : (Int32.ofInt x).toInt64 = Int64.ofInt x := by
  rw [← Int64.ofInt_int32ToInt, am_toInt h]
theorem am_ne0 {y : Int} (hy : am_i32 y) (h : 0 < y) : ¬ Int32.ofInt y = 0 := by
  rw [show (0 : Int32) = Int32.ofInt 0 from rfl, am_eq hy am_i32_0]
  omega
theorem am_div {x y : Int} (hx : am_i32 x) (hy : am_i32 y) (h0 : 0 ≤ x) : Int32.ofInt x / Int32.ofInt y = Int32.ofInt (x / y) := by
  rw [← Int32.ofInt_tdiv (by have := hx.1; exact this) (by have := hx.2; exact this) (by have := hy.1; exact this) (by have := hy.2; exact this), Int.tdiv_eq_ediv_of_nonneg h0]
theorem am_div_ok {x y : Int} (hx : am_i32 x) (h0 : 0 ≤ x) (h1 : 0 < y) : am_i32 (x / y) := by
  have e1 : 0 ≤ x / y := Int.ediv_nonneg h0 (by omega)
  have e2 : x / y ≤ x := Int.ediv_le_self y h0
  have := hx.2
  exact ⟨by omega, by omega⟩
theorem am_mod_ok {x y : Int} (hx : am_i32 x) (h0 : 0 ≤ x) (h1 : 0 < y) : am_i32 (x % y) := by
  have e1 : 0 ≤ x % y := Int.emod_nonneg x (by omega)
  have e2 : x % y = x - y * (x / y) := Int.emod_def x y
  have e3 : 0 ≤ y * (x / y) := Int.mul_nonneg (by omega) (Int.ediv_nonneg h0 (by omega))
  have := hx.2
  exact ⟨by omega, by omega⟩
theorem am_cmp_ok {x y : Int} : am_i32 (if y < x then 1 else if x = y then 0 else -1) := by
  unfold am_i32
  split
  · omega
  · split <;> omega
theorem am_cmp {x y : Int} (hx : am_i64 x) (hy : am_i64 y) : lg_cmp (Int64.ofInt x) (Int64.ofInt y) = Int32.ofInt (if y < x then 1 else if x = y then 0 else -1) := by
  unfold lg_cmp
  simp only [gt_iff_lt, am_lt64 hy hx, am_eq64 hx hy]
  split
  · rfl
  · split <;> rfl
theorem s_iconst {mi : am_I} {pc : Nat} {ls : am_L} {stk : List am_V} {K : am_K} {M : am_M} {Q : am_Q} {n : Int} (hd : decode (am_cc mi) pc = .ok (.iconst n, 1)) (hn : am_i32 n) (k : am_At mi (pc + 1) ls (vi n :: stk) K M Q) : am_At mi pc ls (stk) K M Q := by
  intro p l e s m args below meth c Z A D G0 K0 M0 G H locs rl hS hY hL hk hR
  exact lv_iconst hS.1 hS.2.1 hd rfl (k _ _ _ _ _ _ _ _ _ _ _ _ _ _ _ _ _ _ _ hS hY hL (List.forall_mem_cons.mpr ⟨hn, hk⟩) hR)
theorem s_bipush {mi : am_I} {pc : Nat} {ls : am_L} {stk : List am_V} {K : am_K} {M : am_M} {Q : am_Q} {n : Int} (hd : decode (am_cc mi) pc = .ok (.bipush n, 2)) (hn : am_i32 n) (hb : (Int8.ofInt n).toInt32 = Int32.ofInt n) (k : am_At mi (pc + 2) ls (vi n :: stk) K M Q) : am_At mi pc ls (stk) K M Q := by
  intro p l e s m args below meth c Z A D G0 K0 M0 G H locs rl hS hY hL hk hR
  exact lv_bipush hS.1 hS.2.1 hd hb (k _ _ _ _ _ _ _ _ _ _ _ _ _ _ _ _ _ _ _ hS hY hL (List.forall_mem_cons.mpr ⟨hn, hk⟩) hR)
theorem s_sipush {mi : am_I} {pc : Nat} {ls : am_L} {stk : List am_V} {K : am_K} {M : am_M} {Q : am_Q} {n : Int} (hd : decode (am_cc mi) pc = .ok (.sipush n, 3)) (hn : am_i32 n) (hb : (Int16.ofInt n).toInt32 = Int32.ofInt n) (k : am_At mi (pc + 3) ls (vi n :: stk) K M Q) : am_At mi pc ls (stk) K M Q := by
  intro p l e s m args below meth c Z A D G0 K0 M0 G H locs rl hS hY hL hk hR
  exact lv_sipush hS.1 hS.2.1 hd hb (k _ _ _ _ _ _ _ _ _ _ _ _ _ _ _ _ _ _ _ hS hY hL (List.forall_mem_cons.mpr ⟨hn, hk⟩) hR)
theorem s_lconst {mi : am_I} {pc : Nat} {ls : am_L} {stk : List am_V} {K : am_K} {M : am_M} {Q : am_Q} {n : Fin 2} {v : Int} (hd : decode (am_cc mi) pc = .ok (.lconst n, 1)) (hv : Int64.ofNat (n : Nat) = Int64.ofInt v) (hn : am_i64 v) (k : am_At mi (pc + 1) ls (vl v :: stk) K M Q) : am_At mi pc ls (stk) K M Q := by
  intro p l e s m args below meth c Z A D G0 K0 M0 G H locs rl hS hY hL hk hR
  exact lv_lconst hS.1 hS.2.1 hd hv (k _ _ _ _ _ _ _ _ _ _ _ _ _ _ _ _ _ _ _ hS hY hL (List.forall_mem_cons.mpr ⟨hn, hk⟩) hR)
theorem s_ldc {mi : am_I} {pc : Nat} {ls : am_L} {stk : List am_V} {K : am_K} {M : am_M} {Q : am_Q} {idx : Nat} {v : Int} (hd : decode (am_cc mi) pc = .ok (.ldc idx, 2)) (hw : Cond.constant (am_own mi) idx (Int32.ofInt v) ∈ am_tb) (hn : am_i32 v) (k : am_At mi (pc + 2) ls (vi v :: stk) K M Q) : am_At mi pc ls (stk) K M Q := by
  intro p l e s m args below meth c Z A D G0 K0 M0 G H locs rl hS hY hL hk hR
  exact lv_ldc hS.1 hS.2.1 hS.2.2.2.2.2.2.1 (hS.2.2.2.2.2.2.2.1 _ hw) hd (k _ _ _ _ _ _ _ _ _ _ _ _ _ _ _ _ _ _ _ hS hY hL (List.forall_mem_cons.mpr ⟨hn, hk⟩) hR)
theorem s_ldc2 {mi : am_I} {pc : Nat} {ls : am_L} {stk : List am_V} {K : am_K} {M : am_M} {Q : am_Q} {idx : Nat} {v : Int} (hd : decode (am_cc mi) pc = .ok (.ldc2_w idx, 3)) (hw : Cond.constantLong (am_own mi) idx (Int64.ofInt v) ∈ am_tb) (hn : am_i64 v) (k : am_At mi (pc + 3) ls (vl v :: stk) K M Q) : am_At mi pc ls (stk) K M Q := by
  intro p l e s m args below meth c Z A D G0 K0 M0 G H locs rl hS hY hL hk hR
  exact lv_ldc2 hS.1 hS.2.1 hS.2.2.2.2.2.2.1 (hS.2.2.2.2.2.2.2.1 _ hw) hd (k _ _ _ _ _ _ _ _ _ _ _ _ _ _ _ _ _ _ _ hS hY hL (List.forall_mem_cons.mpr ⟨hn, hk⟩) hR)
theorem s_null {mi : am_I} {pc : Nat} {ls : am_L} {stk : List am_V} {K : am_K} {M : am_M} {Q : am_Q}  (hd : decode (am_cc mi) pc = .ok (.aconst_null, 1))  (k : am_At mi (pc + 1) ls (vr (-1) :: stk) K M Q) : am_At mi pc ls (stk) K M Q := by
  intro p l e s m args below meth c Z A D G0 K0 M0 G H locs rl hS hY hL hk hR
  exact lv_null hS.1 hS.2.1 hd (k _ _ _ _ _ _ _ _ _ _ _ _ _ _ _ _ _ _ _ hS hY hL (List.forall_mem_cons.mpr ⟨⟨by omega, by omega⟩, hk⟩) hR)
theorem s_iload_n {mi : am_I} {pc : Nat} {ls : am_L} {stk : List am_V} {K : am_K} {M : am_M} {Q : am_Q} {k0 : Fin 4} {x : Int} (hd : decode (am_cc mi) pc = .ok (.iload_n k0, 1)) (hl : ls[(k0 : Nat)]? = some (some (vi x))) (k : am_At mi (pc + 1) ls (vi x :: stk) K M Q) : am_At mi pc ls (stk) K M Q := by
  intro p l e s m args below meth c Z A D G0 K0 M0 G H locs rl hS hY hL hk hR
  exact lv_iload_n hS.1 hS.2.1 hd rfl (hL.2.2.2 _ _ hl).1 (k _ _ _ _ _ _ _ _ _ _ _ _ _ _ _ _ _ _ _ hS hY hL (List.forall_mem_cons.mpr ⟨(hL.2.2.2 _ _ hl).2, hk⟩) hR)
theorem s_iload {mi : am_I} {pc : Nat} {ls : am_L} {stk : List am_V} {K : am_K} {M : am_M} {Q : am_Q} {i : Nat} {x : Int} (hd : decode (am_cc mi) pc = .ok (.iload i, 2)) (hl : ls[i]? = some (some (vi x))) (k : am_At mi (pc + 2) ls (vi x :: stk) K M Q) : am_At mi pc ls (stk) K M Q := by
  intro p l e s m args below meth c Z A D G0 K0 M0 G H locs rl hS hY hL hk hR
  exact lv_iload hS.1 hS.2.1 hd (hL.2.2.2 _ _ hl).1 (k _ _ _ _ _ _ _ _ _ _ _ _ _ _ _ _ _ _ _ hS hY hL (List.forall_mem_cons.mpr ⟨(hL.2.2.2 _ _ hl).2, hk⟩) hR)
theorem s_lload_n {mi : am_I} {pc : Nat} {ls : am_L} {stk : List am_V} {K : am_K} {M : am_M} {Q : am_Q} {k0 : Fin 4} {x : Int} (hd : decode (am_cc mi) pc = .ok (.lload_n k0, 1)) (hl : ls[(k0 : Nat)]? = some (some (vl x))) (k : am_At mi (pc + 1) ls (vl x :: stk) K M Q) : am_At mi pc ls (stk) K M Q := by
  intro p l e s m args below meth c Z A D G0 K0 M0 G H locs rl hS hY hL hk hR
  exact lv_lload_n hS.1 hS.2.1 hd rfl (hL.2.2.2 _ _ hl).1 (k _ _ _ _ _ _ _ _ _ _ _ _ _ _ _ _ _ _ _ hS hY hL (List.forall_mem_cons.mpr ⟨(hL.2.2.2 _ _ hl).2, hk⟩) hR)
theorem s_lload {mi : am_I} {pc : Nat} {ls : am_L} {stk : List am_V} {K : am_K} {M : am_M} {Q : am_Q} {i : Nat} {x : Int} (hd : decode (am_cc mi) pc = .ok (.lload i, 2)) (hl : ls[i]? = some (some (vl x))) (k : am_At mi (pc + 2) ls (vl x :: stk) K M Q) : am_At mi pc ls (stk) K M Q := by
  intro p l e s m args below meth c Z A D G0 K0 M0 G H locs rl hS hY hL hk hR
  exact lv_lload hS.1 hS.2.1 hd (hL.2.2.2 _ _ hl).1 (k _ _ _ _ _ _ _ _ _ _ _ _ _ _ _ _ _ _ _ hS hY hL (List.forall_mem_cons.mpr ⟨(hL.2.2.2 _ _ hl).2, hk⟩) hR)
theorem s_aload_n {mi : am_I} {pc : Nat} {ls : am_L} {stk : List am_V} {K : am_K} {M : am_M} {Q : am_Q} {k0 : Fin 4} {x : Int} (hd : decode (am_cc mi) pc = .ok (.aload_n k0, 1)) (hl : ls[(k0 : Nat)]? = some (some (vr x))) (k : am_At mi (pc + 1) ls (vr x :: stk) K M Q) : am_At mi pc ls (stk) K M Q := by
  intro p l e s m args below meth c Z A D G0 K0 M0 G H locs rl hS hY hL hk hR
  have h := k _ _ _ _ _ _ _ _ _ _ _ _ _ _ _ _ _ _ _ hS hY hL (List.forall_mem_cons.mpr ⟨(hL.2.2.2 _ _ hl).2, hk⟩) hR
  have h1 := (hL.2.2.2 _ _ hl).1
  rw [List.map_cons] at h
  rcases am_cvr G x with ⟨r, hr⟩ | hr
  · rw [hr] at h h1
    exact lv_aload_n hS.1 hS.2.1 hd rfl h1 h
  · rw [hr] at h h1
    exact lv_aload_nN hS.1 hS.2.1 hd rfl h1 h
theorem s_aload {mi : am_I} {pc : Nat} {ls : am_L} {stk : List am_V} {K : am_K} {M : am_M} {Q : am_Q} {i : Nat} {x : Int} (hd : decode (am_cc mi) pc = .ok (.aload i, 2)) (hl : ls[i]? = some (some (vr x))) (k : am_At mi (pc + 2) ls (vr x :: stk) K M Q) : am_At mi pc ls (stk) K M Q := by
  intro p l e s m args below meth c Z A D G0 K0 M0 G H locs rl hS hY hL hk hR
  have h := k _ _ _ _ _ _ _ _ _ _ _ _ _ _ _ _ _ _ _ hS hY hL (List.forall_mem_cons.mpr ⟨(hL.2.2.2 _ _ hl).2, hk⟩) hR
  have h1 := (hL.2.2.2 _ _ hl).1
  rw [List.map_cons] at h
  rcases am_cvr G x with ⟨r, hr⟩ | hr
  · rw [hr] at h h1
    exact lv_aload hS.1 hS.2.1 hd h1 h
  · rw [hr] at h h1
    exact lv_aloadN hS.1 hS.2.1 hd h1 h
theorem s_istore_n {mi : am_I} {pc : Nat} {ls : am_L} {stk : List am_V} {K : am_K} {M : am_M} {Q : am_Q} {k0 : Fin 4} {x : Int} (hd : decode (am_cc mi) pc = .ok (.istore_n k0, 1)) (hi : (k0 : Nat) < am_ml mi) (k : am_At mi (pc + 1) (am_st ls (k0 : Nat) (vi x)) stk K M Q) : am_At mi pc ls (vi x :: stk) K M Q := by
  intro p l e s m args below meth c Z A D G0 K0 M0 G H locs rl hS hY hL hk hR
  obtain ⟨h0, hk⟩ := List.forall_mem_cons.mp hk
  exact lv_istore_n hS.1 hS.2.1 hd rfl (am_lr_has hL) hi rfl (fun ls' h' => k _ _ _ _ _ _ _ _ _ _ _ _ _ _ _ _ _ _ _ hS hY (am_lr_st (v := vi x) hL hi h0 h') hk hR)
theorem s_istore {mi : am_I} {pc : Nat} {ls : am_L} {stk : List am_V} {K : am_K} {M : am_M} {Q : am_Q} {i : Nat} {x : Int} (hd : decode (am_cc mi) pc = .ok (.istore i, 2)) (hi : i < am_ml mi) (k : am_At mi (pc + 2) (am_st ls i (vi x)) stk K M Q) : am_At mi pc ls (vi x :: stk) K M Q := by
  intro p l e s m args below meth c Z A D G0 K0 M0 G H locs rl hS hY hL hk hR
  obtain ⟨h0, hk⟩ := List.forall_mem_cons.mp hk
  exact lv_istore hS.1 hS.2.1 hd (am_lr_has hL) hi rfl (fun ls' h' => k _ _ _ _ _ _ _ _ _ _ _ _ _ _ _ _ _ _ _ hS hY (am_lr_st (v := vi x) hL hi h0 h') hk hR)
theorem s_lstore_n {mi : am_I} {pc : Nat} {ls : am_L} {stk : List am_V} {K : am_K} {M : am_M} {Q : am_Q} {k0 : Fin 4} {x : Int} (hd : decode (am_cc mi) pc = .ok (.lstore_n k0, 1)) (hi : (k0 : Nat) + 1 < am_ml mi) (k : am_At mi (pc + 1) (am_st2 ls (k0 : Nat) (vl x)) stk K M Q) : am_At mi pc ls (vl x :: stk) K M Q := by
  intro p l e s m args below meth c Z A D G0 K0 M0 G H locs rl hS hY hL hk hR
  obtain ⟨h0, hk⟩ := List.forall_mem_cons.mp hk
  exact lv_lstore_n hS.1 hS.2.1 hd rfl (am_lr_has hL) hi rfl (fun ls' h' => k _ _ _ _ _ _ _ _ _ _ _ _ _ _ _ _ _ _ _ hS hY (am_lr_st2 (v := vl x) hL hi h0 h') hk hR)
theorem s_lstore {mi : am_I} {pc : Nat} {ls : am_L} {stk : List am_V} {K : am_K} {M : am_M} {Q : am_Q} {i : Nat} {x : Int} (hd : decode (am_cc mi) pc = .ok (.lstore i, 2)) (hi : i + 1 < am_ml mi) (k : am_At mi (pc + 2) (am_st2 ls i (vl x)) stk K M Q) : am_At mi pc ls (vl x :: stk) K M Q := by
  intro p l e s m args below meth c Z A D G0 K0 M0 G H locs rl hS hY hL hk hR
  obtain ⟨h0, hk⟩ := List.forall_mem_cons.mp hk
  exact lv_lstore hS.1 hS.2.1 hd (am_lr_has hL) hi rfl (fun ls' h' => k _ _ _ _ _ _ _ _ _ _ _ _ _ _ _ _ _ _ _ hS hY (am_lr_st2 (v := vl x) hL hi h0 h') hk hR)
theorem s_astore_n {mi : am_I} {pc : Nat} {ls : am_L} {stk : List am_V} {K : am_K} {M : am_M} {Q : am_Q} {k0 : Fin 4} {x : Int} (hd : decode (am_cc mi) pc = .ok (.astore_n k0, 1)) (hi : (k0 : Nat) < am_ml mi) (k : am_At mi (pc + 1) (am_st ls (k0 : Nat) (vr x)) stk K M Q) : am_At mi pc ls (vr x :: stk) K M Q := by
  intro p l e s m args below meth c Z A D G0 K0 M0 G H locs rl hS hY hL hk hR
  obtain ⟨h0, hk⟩ := List.forall_mem_cons.mp hk
  rw [List.map_cons]
  have hst := fun (rl' : Array Slot) h' => am_lr_st (rl' := rl') (v := vr x) hL hi h0 h'
  rcases am_cvr G x with ⟨r, hr⟩ | hr
  · rw [hr] at hst ⊢
    exact lv_astore_n hS.1 hS.2.1 hd rfl (am_lr_has hL) hi rfl (fun ls' h' => k _ _ _ _ _ _ _ _ _ _ _ _ _ _ _ _ _ _ _ hS hY (hst ls' h') hk hR)
  · rw [hr] at hst ⊢
    exact lv_astore_nN hS.1 hS.2.1 hd rfl (am_lr_has hL) hi rfl (fun ls' h' => k _ _ _ _ _ _ _ _ _ _ _ _ _ _ _ _ _ _ _ hS hY (hst ls' h') hk hR)
theorem s_astore {mi : am_I} {pc : Nat} {ls : am_L} {stk : List am_V} {K : am_K} {M : am_M} {Q : am_Q} {i : Nat} {x : Int} (hd : decode (am_cc mi) pc = .ok (.astore i, 2)) (hi : i < am_ml mi) (k : am_At mi (pc + 2) (am_st ls i (vr x)) stk K M Q) : am_At mi pc ls (vr x :: stk) K M Q := by
  intro p l e s m args below meth c Z A D G0 K0 M0 G H locs rl hS hY hL hk hR
  obtain ⟨h0, hk⟩ := List.forall_mem_cons.mp hk
  rw [List.map_cons]
  have hst := fun (rl' : Array Slot) h' => am_lr_st (rl' := rl') (v := vr x) hL hi h0 h'
  rcases am_cvr G x with ⟨r, hr⟩ | hr
  · rw [hr] at hst ⊢
    exact lv_astore hS.1 hS.2.1 hd (am_lr_has hL) hi rfl (fun ls' h' => k _ _ _ _ _ _ _ _ _ _ _ _ _ _ _ _ _ _ _ hS hY (hst ls' h') hk hR)
  · rw [hr] at hst ⊢
    exact lv_astoreN hS.1 hS.2.1 hd (am_lr_has hL) hi rfl (fun ls' h' => k _ _ _ _ _ _ _ _ _ _ _ _ _ _ _ _ _ _ _ hS hY (hst ls' h') hk hR)
theorem s_iinc {mi : am_I} {pc : Nat} {ls : am_L} {stk : List am_V} {K : am_K} {M : am_M} {Q : am_Q} {i : Nat} {n x : Int} (hd : decode (am_cc mi) pc = .ok (.iinc i n, 3)) (hl : ls[i]? = some (some (vi x))) (hi : i < am_ml mi) (hn : am_i32 (x + n)) (k : am_At mi (pc + 3) (am_st ls i (vi (x + n))) stk K M Q) : am_At mi pc ls (stk) K M Q := by
  intro p l e s m args below meth c Z A D G0 K0 M0 G H locs rl hS hY hL hk hR
  obtain ⟨q, hq⟩ := List.getElem?_of_mem (am_kl_mem (G := G).mpr ⟨vi x, hl, rfl⟩)
  exact lv_iinc (x := Int32.ofInt x) (v := Int32.ofInt (x + n)) hS.1 hS.2.1 hd (am_lr_has hL) hq (Int32.ofInt_add x n).symm hi rfl (fun ls' h' => k _ _ _ _ _ _ _ _ _ _ _ _ _ _ _ _ _ _ _ hS hY (am_lr_st (v := vi (x + n)) hL hi hn h') hk hR)
theorem s_iadd {mi : am_I} {pc : Nat} {ls : am_L} {stk : List am_V} {K : am_K} {M : am_M} {Q : am_Q} {x y : Int} (hd : decode (am_cc mi) pc = .ok (.iadd, 1)) (hn : am_i32 (x + y)) (k : am_At mi (pc + 1) ls (vi (x + y) :: stk) K M Q) : am_At mi pc ls (vi y :: vi x :: stk) K M Q := by
  intro p l e s m args below meth c Z A D G0 K0 M0 G H locs rl hS hY hL hk hR
  obtain ⟨hy, hk⟩ := List.forall_mem_cons.mp hk
  obtain ⟨hx, hk⟩ := List.forall_mem_cons.mp hk
  have h := k _ _ _ _ _ _ _ _ _ _ _ _ _ _ _ _ _ _ _ hS hY hL (List.forall_mem_cons.mpr ⟨hn, hk⟩) hR
  refine lv_iadd hS.1 hS.2.1 hd ?_
  rw [← Int32.ofInt_add]
  exact h
theorem s_isub {mi : am_I} {pc : Nat} {ls : am_L} {stk : List am_V} {K : am_K} {M : am_M} {Q : am_Q} {x y : Int} (hd : decode (am_cc mi) pc = .ok (.isub, 1)) (hn : am_i32 (x - y)) (k : am_At mi (pc + 1) ls (vi (x - y) :: stk) K M Q) : am_At mi pc ls (vi y :: vi x :: stk) K M Q := by
  intro p l e s m args below meth c Z A D G0 K0 M0 G H locs rl hS hY hL hk hR
  obtain ⟨hy, hk⟩ := List.forall_mem_cons.mp hk
  obtain ⟨hx, hk⟩ := List.forall_mem_cons.mp hk
  have h := k _ _ _ _ _ _ _ _ _ _ _ _ _ _ _ _ _ _ _ hS hY hL (List.forall_mem_cons.mpr ⟨hn, hk⟩) hR
  refine lv_isub hS.1 hS.2.1 hd ?_
  rw [← Int32.ofInt_sub]
  exact h
theorem s_imul {mi : am_I} {pc : Nat} {ls : am_L} {stk : List am_V} {K : am_K} {M : am_M} {Q : am_Q} {x y : Int} (hd : decode (am_cc mi) pc = .ok (.imul, 1)) (hn : am_i32 (x * y)) (k : am_At mi (pc + 1) ls (vi (x * y) :: stk) K M Q) : am_At mi pc ls (vi y :: vi x :: stk) K M Q := by
  intro p l e s m args below meth c Z A D G0 K0 M0 G H locs rl hS hY hL hk hR
  obtain ⟨hy, hk⟩ := List.forall_mem_cons.mp hk
  obtain ⟨hx, hk⟩ := List.forall_mem_cons.mp hk
  have h := k _ _ _ _ _ _ _ _ _ _ _ _ _ _ _ _ _ _ _ hS hY hL (List.forall_mem_cons.mpr ⟨hn, hk⟩) hR
  refine lv_imul hS.1 hS.2.1 hd ?_
  rw [← Int32.ofInt_mul]
  exact h
theorem s_ladd {mi : am_I} {pc : Nat} {ls : am_L} {stk : List am_V} {K : am_K} {M : am_M} {Q : am_Q} {x y : Int} (hd : decode (am_cc mi) pc = .ok (.ladd, 1)) (hn : am_i64 (x + y)) (k : am_At mi (pc + 1) ls (vl (x + y) :: stk) K M Q) : am_At mi pc ls (vl y :: vl x :: stk) K M Q := by
  intro p l e s m args below meth c Z A D G0 K0 M0 G H locs rl hS hY hL hk hR
  obtain ⟨hy, hk⟩ := List.forall_mem_cons.mp hk
  obtain ⟨hx, hk⟩ := List.forall_mem_cons.mp hk
  have h := k _ _ _ _ _ _ _ _ _ _ _ _ _ _ _ _ _ _ _ hS hY hL (List.forall_mem_cons.mpr ⟨hn, hk⟩) hR
  refine lv_ladd hS.1 hS.2.1 hd ?_
  rw [← Int64.ofInt_add]
  exact h
theorem s_lsub {mi : am_I} {pc : Nat} {ls : am_L} {stk : List am_V} {K : am_K} {M : am_M} {Q : am_Q} {x y : Int} (hd : decode (am_cc mi) pc = .ok (.lsub, 1)) (hn : am_i64 (x - y)) (k : am_At mi (pc + 1) ls (vl (x - y) :: stk) K M Q) : am_At mi pc ls (vl y :: vl x :: stk) K M Q := by
  intro p l e s m args below meth c Z A D G0 K0 M0 G H locs rl hS hY hL hk hR
  obtain ⟨hy, hk⟩ := List.forall_mem_cons.mp hk
  obtain ⟨hx, hk⟩ := List.forall_mem_cons.mp hk
  have h := k _ _ _ _ _ _ _ _ _ _ _ _ _ _ _ _ _ _ _ hS hY hL (List.forall_mem_cons.mpr ⟨hn, hk⟩) hR
  refine lv_lsub hS.1 hS.2.1 hd ?_
  rw [← Int64.ofInt_sub]
  exact h
theorem s_idiv {mi : am_I} {pc : Nat} {ls : am_L} {stk : List am_V} {K : am_K} {M : am_M} {Q : am_Q} {x y : Int} (hd : decode (am_cc mi) pc = .ok (.idiv, 1)) (h0 : 0 ≤ x) (h1 : 0 < y) (k : am_At mi (pc + 1) ls (vi (x / y) :: stk) K M Q) : am_At mi pc ls (vi y :: vi x :: stk) K M Q := by
  intro p l e s m args below meth c Z A D G0 K0 M0 G H locs rl hS hY hL hk hR
  obtain ⟨hy, hk⟩ := List.forall_mem_cons.mp hk
  obtain ⟨hx, hk⟩ := List.forall_mem_cons.mp hk
  have hn : am_i32 (x / y) := am_div_ok hx h0 h1
  have h := k _ _ _ _ _ _ _ _ _ _ _ _ _ _ _ _ _ _ _ hS hY hL (List.forall_mem_cons.mpr ⟨hn, hk⟩) hR
  refine lv_idiv hS.1 hS.2.1 hd (am_ne0 hy h1) ?_
  rw [am_div hx hy h0]
  exact h
theorem s_irem {mi : am_I} {pc : Nat} {ls : am_L} {stk : List am_V} {K : am_K} {M : am_M} {Q : am_Q} {x y : Int} (hd : decode (am_cc mi) pc = .ok (.irem, 1)) (h0 : 0 ≤ x) (h1 : 0 < y) (k : am_At mi (pc + 1) ls (vi (x % y) :: stk) K M Q) : am_At mi pc ls (vi y :: vi x :: stk) K M Q := by
  intro p l e s m args below meth c Z A D G0 K0 M0 G H locs rl hS hY hL hk hR
  obtain ⟨hy, hk⟩ := List.forall_mem_cons.mp hk
  obtain ⟨hx, hk⟩ := List.forall_mem_cons.mp hk
  have hn : am_i32 (x % y) := am_mod_ok hx h0 h1
  have h := k _ _ _ _ _ _ _ _ _ _ _ _ _ _ _ _ _ _ _ hS hY hL (List.forall_mem_cons.mpr ⟨hn, hk⟩) hR
  refine lv_irem hS.1 hS.2.1 hd (am_ne0 hy h1) ?_
  rw [am_div hx hy h0, ← Int32.ofInt_mul, ← Int32.ofInt_sub, show x - x / y * y = x % y from by rw [Int.emod_def, Int.mul_comm]]
  exact h
theorem s_ineg {mi : am_I} {pc : Nat} {ls : am_L} {stk : List am_V} {K : am_K} {M : am_M} {Q : am_Q} {x : Int} (hd : decode (am_cc mi) pc = .ok (.ineg, 1)) (hn : am_i32 (-x)) (k : am_At mi (pc + 1) ls (vi (-x) :: stk) K M Q) : am_At mi pc ls (vi x :: stk) K M Q := by
  intro p l e s m args below meth c Z A D G0 K0 M0 G H locs rl hS hY hL hk hR
  obtain ⟨hx, hk⟩ := List.forall_mem_cons.mp hk
  have h := k _ _ _ _ _ _ _ _ _ _ _ _ _ _ _ _ _ _ _ hS hY hL (List.forall_mem_cons.mpr ⟨hn, hk⟩) hR
  refine lv_ineg hS.1 hS.2.1 hd ?_
  rw [← Int32.ofInt_neg]
  exact h
theorem s_iand {mi : am_I} {pc : Nat} {ls : am_L} {stk : List am_V} {K : am_K} {M : am_M} {Q : am_Q} {x y : Int} (hd : decode (am_cc mi) pc = .ok (.iand, 1))  (k : am_At mi (pc + 1) ls (vi (Int32.ofInt x &&& Int32.ofInt y).toInt :: stk) K M Q) : am_At mi pc ls (vi y :: vi x :: stk) K M Q := by
  intro p l e s m args below meth c Z A D G0 K0 M0 G H locs rl hS hY hL hk hR
  obtain ⟨hy, hk⟩ := List.forall_mem_cons.mp hk
  obtain ⟨hx, hk⟩ := List.forall_mem_cons.mp hk
  have h := k _ _ _ _ _ _ _ _ _ _ _ _ _ _ _ _ _ _ _ hS hY hL (List.forall_mem_cons.mpr ⟨am_i32_of _, hk⟩) hR
  refine lv_iand hS.1 hS.2.1 hd ?_
  rw [List.map_cons, show am_cv G (vi (Int32.ofInt x &&& Int32.ofInt y).toInt) = .int (Int32.ofInt x &&& Int32.ofInt y) from congrArg Value.int (Int32.ofInt_toInt _)] at h
  exact h
theorem s_ior {mi : am_I} {pc : Nat} {ls : am_L} {stk : List am_V} {K : am_K} {M : am_M} {Q : am_Q} {x y : Int} (hd : decode (am_cc mi) pc = .ok (.ior, 1))  (k : am_At mi (pc + 1) ls (vi (Int32.ofInt x ||| Int32.ofInt y).toInt :: stk) K M Q) : am_At mi pc ls (vi y :: vi x :: stk) K M Q := by
  intro p l e s m args below meth c Z A D G0 K0 M0 G H locs rl hS hY hL hk hR
  obtain ⟨hy, hk⟩ := List.forall_mem_cons.mp hk
  obtain ⟨hx, hk⟩ := List.forall_mem_cons.mp hk
  have h := k _ _ _ _ _ _ _ _ _ _ _ _ _ _ _ _ _ _ _ hS hY hL (List.forall_mem_cons.mpr ⟨am_i32_of _, hk⟩) hR
  refine lv_ior hS.1 hS.2.1 hd ?_
  rw [List.map_cons, show am_cv G (vi (Int32.ofInt x ||| Int32.ofInt y).toInt) = .int (Int32.ofInt x ||| Int32.ofInt y) from congrArg Value.int (Int32.ofInt_toInt _)] at h
  exact h
theorem s_ixor {mi : am_I} {pc : Nat} {ls : am_L} {stk : List am_V} {K : am_K} {M : am_M} {Q : am_Q} {x y : Int} (hd : decode (am_cc mi) pc = .ok (.ixor, 1))  (k : am_At mi (pc + 1) ls (vi (Int32.ofInt x ^^^ Int32.ofInt y).toInt :: stk) K M Q) : am_At mi pc ls (vi y :: vi x :: stk) K M Q := by
  intro p l e s m args below meth c Z A D G0 K0 M0 G H locs rl hS hY hL hk hR
  obtain ⟨hy, hk⟩ := List.forall_mem_cons.mp hk
  obtain ⟨hx, hk⟩ := List.forall_mem_cons.mp hk
  have h := k _ _ _ _ _ _ _ _ _ _ _ _ _ _ _ _ _ _ _ hS hY hL (List.forall_mem_cons.mpr ⟨am_i32_of _, hk⟩) hR
  refine lv_ixor hS.1 hS.2.1 hd ?_
  rw [List.map_cons, show am_cv G (vi (Int32.ofInt x ^^^ Int32.ofInt y).toInt) = .int (Int32.ofInt x ^^^ Int32.ofInt y) from congrArg Value.int (Int32.ofInt_toInt _)] at h
  exact h
theorem s_ishl {mi : am_I} {pc : Nat} {ls : am_L} {stk : List am_V} {K : am_K} {M : am_M} {Q : am_Q} {x y : Int} (hd : decode (am_cc mi) pc = .ok (.ishl, 1))  (k : am_At mi (pc + 1) ls (vi (Int32.ofInt x <<< (Int32.ofInt y &&& 31)).toInt :: stk) K M Q) : am_At mi pc ls (vi y :: vi x :: stk) K M Q := by
  intro p l e s m args below meth c Z A D G0 K0 M0 G H locs rl hS hY hL hk hR
  obtain ⟨hy, hk⟩ := List.forall_mem_cons.mp hk
  obtain ⟨hx, hk⟩ := List.forall_mem_cons.mp hk
  have h := k _ _ _ _ _ _ _ _ _ _ _ _ _ _ _ _ _ _ _ hS hY hL (List.forall_mem_cons.mpr ⟨am_i32_of _, hk⟩) hR
  refine lv_ishl hS.1 hS.2.1 hd ?_
  rw [List.map_cons, show am_cv G (vi (Int32.ofInt x <<< (Int32.ofInt y &&& 31)).toInt) = .int (Int32.ofInt x <<< (Int32.ofInt y &&& 31)) from congrArg Value.int (Int32.ofInt_toInt _)] at h
  exact h
theorem s_ishr {mi : am_I} {pc : Nat} {ls : am_L} {stk : List am_V} {K : am_K} {M : am_M} {Q : am_Q} {x y : Int} (hd : decode (am_cc mi) pc = .ok (.ishr, 1))  (k : am_At mi (pc + 1) ls (vi (Int32.ofInt x >>> (Int32.ofInt y &&& 31)).toInt :: stk) K M Q) : am_At mi pc ls (vi y :: vi x :: stk) K M Q := by
  intro p l e s m args below meth c Z A D G0 K0 M0 G H locs rl hS hY hL hk hR
  obtain ⟨hy, hk⟩ := List.forall_mem_cons.mp hk
  obtain ⟨hx, hk⟩ := List.forall_mem_cons.mp hk
  have h := k _ _ _ _ _ _ _ _ _ _ _ _ _ _ _ _ _ _ _ hS hY hL (List.forall_mem_cons.mpr ⟨am_i32_of _, hk⟩) hR
  refine lv_ishr hS.1 hS.2.1 hd ?_
  rw [List.map_cons, show am_cv G (vi (Int32.ofInt x >>> (Int32.ofInt y &&& 31)).toInt) = .int (Int32.ofInt x >>> (Int32.ofInt y &&& 31)) from congrArg Value.int (Int32.ofInt_toInt _)] at h
  exact h
theorem s_land {mi : am_I} {pc : Nat} {ls : am_L} {stk : List am_V} {K : am_K} {M : am_M} {Q : am_Q} {x y : Int} (hd : decode (am_cc mi) pc = .ok (.land, 1))  (k : am_At mi (pc + 1) ls (vl (Int64.ofInt x &&& Int64.ofInt y).toInt :: stk) K M Q) : am_At mi pc ls (vl y :: vl x :: stk) K M Q := by
  intro p l e s m args below meth c Z A D G0 K0 M0 G H locs rl hS hY hL hk hR
  obtain ⟨hy, hk⟩ := List.forall_mem_cons.mp hk
  obtain ⟨hx, hk⟩ := List.forall_mem_cons.mp hk
  have h := k _ _ _ _ _ _ _ _ _ _ _ _ _ _ _ _ _ _ _ hS hY hL (List.forall_mem_cons.mpr ⟨am_i64_of _, hk⟩) hR
  refine lv_land hS.1 hS.2.1 hd ?_
  rw [List.map_cons, show am_cv G (vl (Int64.ofInt x &&& Int64.ofInt y).toInt) = .long (Int64.ofInt x &&& Int64.ofInt y) from congrArg Value.long (Int64.ofInt_toInt _)] at h
  exact h
theorem s_lor {mi : am_I} {pc : Nat} {ls : am_L} {stk : List am_V} {K : am_K} {M : am_M} {Q : am_Q} {x y : Int} (hd : decode (am_cc mi) pc = .ok (.lor, 1))  (k : am_At mi (pc + 1) ls (vl (Int64.ofInt x ||| Int64.ofInt y).toInt :: stk) K M Q) : am_At mi pc ls (vl y :: vl x :: stk) K M Q := by
  intro p l e s m args below meth c Z A D G0 K0 M0 G H locs rl hS hY hL hk hR
  obtain ⟨hy, hk⟩ := List.forall_mem_cons.mp hk
  obtain ⟨hx, hk⟩ := List.forall_mem_cons.mp hk
  have h := k _ _ _ _ _ _ _ _ _ _ _ _ _ _ _ _ _ _ _ hS hY hL (List.forall_mem_cons.mpr ⟨am_i64_of _, hk⟩) hR
  refine lv_lor hS.1 hS.2.1 hd ?_
  rw [List.map_cons, show am_cv G (vl (Int64.ofInt x ||| Int64.ofInt y).toInt) = .long (Int64.ofInt x ||| Int64.ofInt y) from congrArg Value.long (Int64.ofInt_toInt _)] at h
  exact h
theorem s_lshl {mi : am_I} {pc : Nat} {ls : am_L} {stk : List am_V} {K : am_K} {M : am_M} {Q : am_Q} {x y : Int} (hd : decode (am_cc mi) pc = .ok (.lshl, 1))  (k : am_At mi (pc + 1) ls (vl (Int64.ofInt x <<< ((Int32.ofInt y).toInt64 &&& 63)).toInt :: stk) K M Q) : am_At mi pc ls (vi y :: vl x :: stk) K M Q := by
  intro p l e s m args below meth c Z A D G0 K0 M0 G H locs rl hS hY hL hk hR
  obtain ⟨hy, hk⟩ := List.forall_mem_cons.mp hk
  obtain ⟨hx, hk⟩ := List.forall_mem_cons.mp hk
  have h := k _ _ _ _ _ _ _ _ _ _ _ _ _ _ _ _ _ _ _ hS hY hL (List.forall_mem_cons.mpr ⟨am_i64_of _, hk⟩) hR
  refine lv_lshl hS.1 hS.2.1 hd rfl ?_
  rw [List.map_cons, show am_cv G (vl (Int64.ofInt x <<< ((Int32.ofInt y).toInt64 &&& 63)).toInt) = .long (Int64.ofInt x <<< ((Int32.ofInt y).toInt64 &&& 63)) from congrArg Value.long (Int64.ofInt_toInt _)] at h
  exact h
theorem s_i2l {mi : am_I} {pc : Nat} {ls : am_L} {stk : List am_V} {K : am_K} {M : am_M} {Q : am_Q} {x : Int} (hd : decode (am_cc mi) pc = .ok (.i2l, 1))  (k : am_At mi (pc + 1) ls (vl x :: stk) K M Q) : am_At mi pc ls (vi x :: stk) K M Q := by
  intro p l e s m args below meth c Z A D G0 K0 M0 G H locs rl hS hY hL hk hR
  obtain ⟨hx, hk⟩ := List.forall_mem_cons.mp hk
  exact lv_i2l hS.1 hS.2.1 hd (am_i2l hx) (k _ _ _ _ _ _ _ _ _ _ _ _ _ _ _ _ _ _ _ hS hY hL (List.forall_mem_cons.mpr ⟨am_i64_of32 hx, hk⟩) hR)
theorem s_lcmp {mi : am_I} {pc : Nat} {ls : am_L} {stk : List am_V} {K : am_K} {M : am_M} {Q : am_Q} {x y : Int} (hd : decode (am_cc mi) pc = .ok (.lcmp, 1))  (k : am_At mi (pc + 1) ls (vi (if y < x then 1 else if x = y then 0 else -1) :: stk) K M Q) : am_At mi pc ls (vl y :: vl x :: stk) K M Q := by
  intro p l e s m args below meth c Z A D G0 K0 M0 G H locs rl hS hY hL hk hR
  obtain ⟨hy, hk⟩ := List.forall_mem_cons.mp hk
  obtain ⟨hx, hk⟩ := List.forall_mem_cons.mp hk
  have h := k _ _ _ _ _ _ _ _ _ _ _ _ _ _ _ _ _ _ _ hS hY hL (List.forall_mem_cons.mpr ⟨am_cmp_ok, hk⟩) hR
  refine W.lcmp hS.1 hS.2.1 hd ?_
  rw [am_cmp hx hy]
  exact h
theorem s_dupi {mi : am_I} {pc : Nat} {ls : am_L} {stk : List am_V} {K : am_K} {M : am_M} {Q : am_Q} {x : Int} (hd : decode (am_cc mi) pc = .ok (.dup, 1))  (k : am_At mi (pc + 1) ls (vi x :: vi x :: stk) K M Q) : am_At mi pc ls (vi x :: stk) K M Q := by
  intro p l e s m args below meth c Z A D G0 K0 M0 G H locs rl hS hY hL hk hR
  obtain ⟨hx, hk⟩ := List.forall_mem_cons.mp hk
  exact lv_dup hS.1 hS.2.1 hd am_cat (k _ _ _ _ _ _ _ _ _ _ _ _ _ _ _ _ _ _ _ hS hY hL (List.forall_mem_cons.mpr ⟨hx, List.forall_mem_cons.mpr ⟨hx, hk⟩⟩) hR)
theorem s_dupr {mi : am_I} {pc : Nat} {ls : am_L} {stk : List am_V} {K : am_K} {M : am_M} {Q : am_Q} {x : Int} (hd : decode (am_cc mi) pc = .ok (.dup, 1))  (k : am_At mi (pc + 1) ls (vr x :: vr x :: stk) K M Q) : am_At mi pc ls (vr x :: stk) K M Q := by
  intro p l e s m args below meth c Z A D G0 K0 M0 G H locs rl hS hY hL hk hR
  obtain ⟨hx, hk⟩ := List.forall_mem_cons.mp hk
  exact lv_dup hS.1 hS.2.1 hd am_cat (k _ _ _ _ _ _ _ _ _ _ _ _ _ _ _ _ _ _ _ hS hY hL (List.forall_mem_cons.mpr ⟨hx, List.forall_mem_cons.mpr ⟨hx, hk⟩⟩) hR)
theorem s_popi {mi : am_I} {pc : Nat} {ls : am_L} {stk : List am_V} {K : am_K} {M : am_M} {Q : am_Q} {x : Int} (hd : decode (am_cc mi) pc = .ok (.pop, 1))  (k : am_At mi (pc + 1) ls (stk) K M Q) : am_At mi pc ls (vi x :: stk) K M Q := by
  intro p l e s m args below meth c Z A D G0 K0 M0 G H locs rl hS hY hL hk hR
  obtain ⟨hx, hk⟩ := List.forall_mem_cons.mp hk
  exact lv_pop hS.1 hS.2.1 hd am_cat (k _ _ _ _ _ _ _ _ _ _ _ _ _ _ _ _ _ _ _ hS hY hL hk hR)
theorem s_dup2 {mi : am_I} {pc : Nat} {ls : am_L} {stk : List am_V} {K : am_K} {M : am_M} {Q : am_Q} {x y : Int} (hd : decode (am_cc mi) pc = .ok (.dup2, 1))  (k : am_At mi (pc + 1) ls (vi y :: vr x :: vi y :: vr x :: stk) K M Q) : am_At mi pc ls (vi y :: vr x :: stk) K M Q := by
  intro p l e s m args below meth c Z A D G0 K0 M0 G H locs rl hS hY hL hk hR
  obtain ⟨hy, hk⟩ := List.forall_mem_cons.mp hk
  obtain ⟨hx, hk⟩ := List.forall_mem_cons.mp hk
  exact lv_dup2_11 hS.1 hS.2.1 hd am_cat am_cat (k _ _ _ _ _ _ _ _ _ _ _ _ _ _ _ _ _ _ _ hS hY hL (List.forall_mem_cons.mpr ⟨hy, List.forall_mem_cons.mpr ⟨hx, List.forall_mem_cons.mpr ⟨hy, List.forall_mem_cons.mpr ⟨hx, hk⟩⟩⟩⟩) hR)
theorem s_if_eq {mi : am_I} {pc : Nat} {ls : am_L} {stk : List am_V} {K : am_K} {M : am_M} {Q : am_Q} {x : Int} {off : Int} {tgt : Nat} (hd : decode (am_cc mi) pc = .ok (.ifCond .eq off, 3)) (ht : (pc : Int) + off = (tgt : Int)) (k1 : x = 0 → am_At mi tgt ls stk K M Q) (k2 : ¬ (x = 0) → am_At mi (pc + 3) ls stk K M Q) : am_At mi pc ls (vi x :: stk) K M Q := by
  intro p l e s m args below meth c Z A D G0 K0 M0 G H locs rl hS hY hL hk hR
  obtain ⟨hx, hk⟩ := List.forall_mem_cons.mp hk
  exact lv_if_eq hS.1 hS.2.1 hd ht (fun h => k1 ((am_eq hx am_i32_0).mp h) _ _ _ _ _ _ _ _ _ _ _ _ _ _ _ _ _ _ _ hS hY hL hk hR) (fun h => k2 (fun q => h ((am_eq hx am_i32_0).mpr q)) _ _ _ _ _ _ _ _ _ _ _ _ _ _ _ _ _ _ _ hS hY hL hk hR)
theorem s_if_ne {mi : am_I} {pc : Nat} {ls : am_L} {stk : List am_V} {K : am_K} {M : am_M} {Q : am_Q} {x : Int} {off : Int} {tgt : Nat} (hd : decode (am_cc mi) pc = .ok (.ifCond .ne off, 3)) (ht : (pc : Int) + off = (tgt : Int)) (k1 : ¬ x = 0 → am_At mi tgt ls stk K M Q) (k2 : x = 0 → am_At mi (pc + 3) ls stk K M Q) : am_At mi pc ls (vi x :: stk) K M Q := by
  intro p l e s m args below meth c Z A D G0 K0 M0 G H locs rl hS hY hL hk hR
  obtain ⟨hx, hk⟩ := List.forall_mem_cons.mp hk
  exact lv_if_ne hS.1 hS.2.1 hd ht (fun h => k1 ((not_congr (am_eq hx am_i32_0)).mp h) _ _ _ _ _ _ _ _ _ _ _ _ _ _ _ _ _ _ _ hS hY hL hk hR) (fun h => k2 ((am_eq hx am_i32_0).mp h) _ _ _ _ _ _ _ _ _ _ _ _ _ _ _ _ _ _ _ hS hY hL hk hR)
theorem s_if_lt {mi : am_I} {pc : Nat} {ls : am_L} {stk : List am_V} {K : am_K} {M : am_M} {Q : am_Q} {x : Int} {off : Int} {tgt : Nat} (hd : decode (am_cc mi) pc = .ok (.ifCond .lt off, 3)) (ht : (pc : Int) + off = (tgt : Int)) (k1 : x < 0 → am_At mi tgt ls stk K M Q) (k2 : ¬ (x < 0) → am_At mi (pc + 3) ls stk K M Q) : am_At mi pc ls (vi x :: stk) K M Q := by
  intro p l e s m args below meth c Z A D G0 K0 M0 G H locs rl hS hY hL hk hR
  obtain ⟨hx, hk⟩ := List.forall_mem_cons.mp hk
  exact lv_if_lt hS.1 hS.2.1 hd ht (fun h => k1 ((am_lt hx am_i32_0).mp h) _ _ _ _ _ _ _ _ _ _ _ _ _ _ _ _ _ _ _ hS hY hL hk hR) (fun h => k2 (fun q => h ((am_lt hx am_i32_0).mpr q)) _ _ _ _ _ _ _ _ _ _ _ _ _ _ _ _ _ _ _ hS hY hL hk hR)
theorem s_if_ge {mi : am_I} {pc : Nat} {ls : am_L} {stk : List am_V} {K : am_K} {M : am_M} {Q : am_Q} {x : Int} {off : Int} {tgt : Nat} (hd : decode (am_cc mi) pc = .ok (.ifCond .ge off, 3)) (ht : (pc : Int) + off = (tgt : Int)) (k1 : 0 ≤ x → am_At mi tgt ls stk K M Q) (k2 : ¬ (0 ≤ x) → am_At mi (pc + 3) ls stk K M Q) : am_At mi pc ls (vi x :: stk) K M Q := by
  intro p l e s m args below meth c Z A D G0 K0 M0 G H locs rl hS hY hL hk hR
  obtain ⟨hx, hk⟩ := List.forall_mem_cons.mp hk
  exact lv_if_ge hS.1 hS.2.1 hd ht (fun h => k1 ((am_le am_i32_0 hx).mp h) _ _ _ _ _ _ _ _ _ _ _ _ _ _ _ _ _ _ _ hS hY hL hk hR) (fun h => k2 (fun q => h ((am_le am_i32_0 hx).mpr q)) _ _ _ _ _ _ _ _ _ _ _ _ _ _ _ _ _ _ _ hS hY hL hk hR)
theorem s_if_gt {mi : am_I} {pc : Nat} {ls : am_L} {stk : List am_V} {K : am_K} {M : am_M} {Q : am_Q} {x : Int} {off : Int} {tgt : Nat} (hd : decode (am_cc mi) pc = .ok (.ifCond .gt off, 3)) (ht : (pc : Int) + off = (tgt : Int)) (k1 : 0 < x → am_At mi tgt ls stk K M Q) (k2 : ¬ (0 < x) → am_At mi (pc + 3) ls stk K M Q) : am_At mi pc ls (vi x :: stk) K M Q := by
  intro p l e s m args below meth c Z A D G0 K0 M0 G H locs rl hS hY hL hk hR
  obtain ⟨hx, hk⟩ := List.forall_mem_cons.mp hk
  exact lv_if_gt hS.1 hS.2.1 hd ht (fun h => k1 ((am_lt am_i32_0 hx).mp h) _ _ _ _ _ _ _ _ _ _ _ _ _ _ _ _ _ _ _ hS hY hL hk hR) (fun h => k2 (fun q => h ((am_lt am_i32_0 hx).mpr q)) _ _ _ _ _ _ _ _ _ _ _ _ _ _ _ _ _ _ _ hS hY hL hk hR)
theorem s_if_le {mi : am_I} {pc : Nat} {ls : am_L} {stk : List am_V} {K : am_K} {M : am_M} {Q : am_Q} {x : Int} {off : Int} {tgt : Nat} (hd : decode (am_cc mi) pc = .ok (.ifCond .le off, 3)) (ht : (pc : Int) + off = (tgt : Int)) (k1 : x ≤ 0 → am_At mi tgt ls stk K M Q) (k2 : ¬ (x ≤ 0) → am_At mi (pc + 3) ls stk K M Q) : am_At mi pc ls (vi x :: stk) K M Q := by
  intro p l e s m args below meth c Z A D G0 K0 M0 G H locs rl hS hY hL hk hR
  obtain ⟨hx, hk⟩ := List.forall_mem_cons.mp hk
  exact lv_if_le hS.1 hS.2.1 hd ht (fun h => k1 ((am_le hx am_i32_0).mp h) _ _ _ _ _ _ _ _ _ _ _ _ _ _ _ _ _ _ _ hS hY hL hk hR) (fun h => k2 (fun q => h ((am_le hx am_i32_0).mpr q)) _ _ _ _ _ _ _ _ _ _ _ _ _ _ _ _ _ _ _ hS hY hL hk hR)
theorem s_icmp_eq {mi : am_I} {pc : Nat} {ls : am_L} {stk : List am_V} {K : am_K} {M : am_M} {Q : am_Q} {x y : Int} {off : Int} {tgt : Nat} (hd : decode (am_cc mi) pc = .ok (.if_icmp .eq off, 3)) (ht : (pc : Int) + off = (tgt : Int)) (k1 : x = y → am_At mi tgt ls stk K M Q) (k2 : ¬ (x = y) → am_At mi (pc + 3) ls stk K M Q) : am_At mi pc ls (vi y :: vi x :: stk) K M Q := by
  intro p l e s m args below meth c Z A D G0 K0 M0 G H locs rl hS hY hL hk hR
  obtain ⟨hy, hk⟩ := List.forall_mem_cons.mp hk
  obtain ⟨hx, hk⟩ := List.forall_mem_cons.mp hk
  exact lv_icmp_eq hS.1 hS.2.1 hd ht (fun h => k1 ((am_eq hx hy).mp h) _ _ _ _ _ _ _ _ _ _ _ _ _ _ _ _ _ _ _ hS hY hL hk hR) (fun h => k2 (fun q => h ((am_eq hx hy).mpr q)) _ _ _ _ _ _ _ _ _ _ _ _ _ _ _ _ _ _ _ hS hY hL hk hR)
theorem s_icmp_ne {mi : am_I} {pc : Nat} {ls : am_L} {stk : List am_V} {K : am_K} {M : am_M} {Q : am_Q} {x y : Int} {off : Int} {tgt : Nat} (hd : decode (am_cc mi) pc = .ok (.if_icmp .ne off, 3)) (ht : (pc : Int) + off = (tgt : Int)) (k1 : ¬ x = y → am_At mi tgt ls stk K M Q) (k2 : x = y → am_At mi (pc + 3) ls stk K M Q) : am_At mi pc ls (vi y :: vi x :: stk) K M Q := by
  intro p l e s m args below meth c Z A D G0 K0 M0 G H locs rl hS hY hL hk hR
  obtain ⟨hy, hk⟩ := List.forall_mem_cons.mp hk
  obtain ⟨hx, hk⟩ := List.forall_mem_cons.mp hk
  exact lv_icmp_ne hS.1 hS.2.1 hd ht (fun h => k1 ((not_congr (am_eq hx hy)).mp h) _ _ _ _ _ _ _ _ _ _ _ _ _ _ _ _ _ _ _ hS hY hL hk hR) (fun h => k2 ((am_eq hx hy).mp h) _ _ _ _ _ _ _ _ _ _ _ _ _ _ _ _ _ _ _ hS hY hL hk hR)
theorem s_icmp_lt {mi : am_I} {pc : Nat} {ls : am_L} {stk : List am_V} {K : am_K} {M : am_M} {Q : am_Q} {x y : Int} {off : Int} {tgt : Nat} (hd : decode (am_cc mi) pc = .ok (.if_icmp .lt off, 3)) (ht : (pc : Int) + off = (tgt : Int)) (k1 : x < y → am_At mi tgt ls stk K M Q) (k2 : ¬ (x < y) → am_At mi (pc + 3) ls stk K M Q) : am_At mi pc ls (vi y :: vi x :: stk) K M Q := by
  intro p l e s m args below meth c Z A D G0 K0 M0 G H locs rl hS hY hL hk hR
  obtain ⟨hy, hk⟩ := List.forall_mem_cons.mp hk
  obtain ⟨hx, hk⟩ := List.forall_mem_cons.mp hk
  exact lv_icmp_lt hS.1 hS.2.1 hd ht (fun h => k1 ((am_lt hx hy).mp h) _ _ _ _ _ _ _ _ _ _ _ _ _ _ _ _ _ _ _ hS hY hL hk hR) (fun h => k2 (fun q => h ((am_lt hx hy).mpr q)) _ _ _ _ _ _ _ _ _ _ _ _ _ _ _ _ _ _ _ hS hY hL hk hR)
theorem s_icmp_ge {mi : am_I} {pc : Nat} {ls : am_L} {stk : List am_V} {K : am_K} {M : am_M} {Q : am_Q} {x y : Int} {off : Int} {tgt : Nat} (hd : decode (am_cc mi) pc = .ok (.if_icmp .ge off, 3)) (ht : (pc : Int) + off = (tgt : Int)) (k1 : y ≤ x → am_At mi tgt ls stk K M Q) (k2 : ¬ (y ≤ x) → am_At mi (pc + 3) ls stk K M Q) : am_At mi pc ls (vi y :: vi x :: stk) K M Q := by
  intro p l e s m args below meth c Z A D G0 K0 M0 G H locs rl hS hY hL hk hR
  obtain ⟨hy, hk⟩ := List.forall_mem_cons.mp hk
  obtain ⟨hx, hk⟩ := List.forall_mem_cons.mp hk
  exact lv_icmp_ge hS.1 hS.2.1 hd ht (fun h => k1 ((am_le hy hx).mp h) _ _ _ _ _ _ _ _ _ _ _ _ _ _ _ _ _ _ _ hS hY hL hk hR) (fun h => k2 (fun q => h ((am_le hy hx).mpr q)) _ _ _ _ _ _ _ _ _ _ _ _ _ _ _ _ _ _ _ hS hY hL hk hR)
theorem s_icmp_gt {mi : am_I} {pc : Nat} {ls : am_L} {stk : List am_V} {K : am_K} {M : am_M} {Q : am_Q} {x y : Int} {off : Int} {tgt : Nat} (hd : decode (am_cc mi) pc = .ok (.if_icmp .gt off, 3)) (ht : (pc : Int) + off = (tgt : Int)) (k1 : y < x → am_At mi tgt ls stk K M Q) (k2 : ¬ (y < x) → am_At mi (pc + 3) ls stk K M Q) : am_At mi pc ls (vi y :: vi x :: stk) K M Q := by
  intro p l e s m args below meth c Z A D G0 K0 M0 G H locs rl hS hY hL hk hR
  obtain ⟨hy, hk⟩ := List.forall_mem_cons.mp hk
  obtain ⟨hx, hk⟩ := List.forall_mem_cons.mp hk
  exact lv_icmp_gt hS.1 hS.2.1 hd ht (fun h => k1 ((am_lt hy hx).mp h) _ _ _ _ _ _ _ _ _ _ _ _ _ _ _ _ _ _ _ hS hY hL hk hR) (fun h => k2 (fun q => h ((am_lt hy hx).mpr q)) _ _ _ _ _ _ _ _ _ _ _ _ _ _ _ _ _ _ _ hS hY hL hk hR)
theorem s_icmp_le {mi : am_I} {pc : Nat} {ls : am_L} {stk : List am_V} {K : am_K} {M : am_M} {Q : am_Q} {x y : Int} {off : Int} {tgt : Nat} (hd : decode (am_cc mi) pc = .ok (.if_icmp .le off, 3)) (ht : (pc : Int) + off = (tgt : Int)) (k1 : x ≤ y → am_At mi tgt ls stk K M Q) (k2 : ¬ (x ≤ y) → am_At mi (pc + 3) ls stk K M Q) : am_At mi pc ls (vi y :: vi x :: stk) K M Q := by
  intro p l e s m args below meth c Z A D G0 K0 M0 G H locs rl hS hY hL hk hR
  obtain ⟨hy, hk⟩ := List.forall_mem_cons.mp hk
  obtain ⟨hx, hk⟩ := List.forall_mem_cons.mp hk
  exact lv_icmp_le hS.1 hS.2.1 hd ht (fun h => k1 ((am_le hx hy).mp h) _ _ _ _ _ _ _ _ _ _ _ _ _ _ _ _ _ _ _ hS hY hL hk hR) (fun h => k2 (fun q => h ((am_le hx hy).mpr q)) _ _ _ _ _ _ _ _ _ _ _ _ _ _ _ _ _ _ _ hS hY hL hk hR)
theorem s_goto {mi : am_I} {pc : Nat} {ls : am_L} {stk : List am_V} {K : am_K} {M : am_M} {Q : am_Q} {off : Int} {tgt : Nat} (hd : decode (am_cc mi) pc = .ok (.goto off, 3)) (ht : (pc : Int) + off = (tgt : Int)) (k : am_At mi tgt ls stk K M Q) : am_At mi pc ls stk K M Q := by
  intro p l e s m args below meth c Z A D G0 K0 M0 G H locs rl hS hY hL hk hR
  exact lv_goto hS.1 hS.2.1 hd ht (k _ _ _ _ _ _ _ _ _ _ _ _ _ _ _ _ _ _ _ hS hY hL hk hR)
theorem s_ifnull {mi : am_I} {pc : Nat} {ls : am_L} {stk : List am_V} {K : am_K} {M : am_M} {Q : am_Q} {x : Int} {off : Int} {tgt : Nat} (hd : decode (am_cc mi) pc = .ok (.ifnull off, 3)) (ht : (pc : Int) + off = (tgt : Int)) (k1 : x = -1 → am_At mi tgt ls stk K M Q) (k2 : ¬ x = -1 → am_At mi (pc + 3) ls stk K M Q) : am_At mi pc ls (vr x :: stk) K M Q := by
  intro p l e s m args below meth c Z A D G0 K0 M0 G H locs rl hS hY hL hk hR
  obtain ⟨hx, hk⟩ := List.forall_mem_cons.mp hk
  rw [List.map_cons]
  by_cases h1 : x = -1
  · rw [show am_cv G (vr x) = .null from by rw [h1]; rfl]
    exact lv_ifnullN hS.1 hS.2.1 hd ht (k1 h1 _ _ _ _ _ _ _ _ _ _ _ _ _ _ _ _ _ _ _ hS hY hL hk hR)
  · obtain ⟨r, hr⟩ := am_cvr_ref (G := G) (x := x) hx.1 h1
    rw [hr]
    exact lv_ifnull hS.1 hS.2.1 hd (k2 h1 _ _ _ _ _ _ _ _ _ _ _ _ _ _ _ _ _ _ _ hS hY hL hk hR)
theorem s_ifnonnull {mi : am_I} {pc : Nat} {ls : am_L} {stk : List am_V} {K : am_K} {M : am_M} {Q : am_Q} {x : Int} {off : Int} {tgt : Nat} (hd : decode (am_cc mi) pc = .ok (.ifnonnull off, 3)) (ht : (pc : Int) + off = (tgt : Int)) (k1 : ¬ x = -1 → am_At mi tgt ls stk K M Q) (k2 : x = -1 → am_At mi (pc + 3) ls stk K M Q) : am_At mi pc ls (vr x :: stk) K M Q := by
  intro p l e s m args below meth c Z A D G0 K0 M0 G H locs rl hS hY hL hk hR
  obtain ⟨hx, hk⟩ := List.forall_mem_cons.mp hk
  rw [List.map_cons]
  by_cases h1 : x = -1
  · rw [show am_cv G (vr x) = .null from by rw [h1]; rfl]
    exact lv_ifnonnullN hS.1 hS.2.1 hd (k2 h1 _ _ _ _ _ _ _ _ _ _ _ _ _ _ _ _ _ _ _ hS hY hL hk hR)
  · obtain ⟨r, hr⟩ := am_cvr_ref (G := G) (x := x) hx.1 h1
    rw [hr]
    exact lv_ifnonnull hS.1 hS.2.1 hd ht (k1 h1 _ _ _ _ _ _ _ _ _ _ _ _ _ _ _ _ _ _ _ hS hY hL hk hR)
theorem s_tableOut {mi : am_I} {pc : Nat} {ls : am_L} {stk : List am_V} {K : am_K} {M : am_M} {Q : am_Q} {x : Int} {dflt lo hi : Int} {offs : Array Int} {len tgt : Nat} (hd : decode (am_cc mi) pc = .ok (.tableswitch dflt lo hi offs, len)) (h : x < lo ∨ hi < x) (ht : (pc : Int) + dflt = (tgt : Int)) (k : am_At mi tgt ls stk K M Q) : am_At mi pc ls (vi x :: stk) K M Q := by
  intro p l e s m args below meth c Z A D G0 K0 M0 G H locs rl hS hY hL hk hR
  obtain ⟨hx, hk⟩ := List.forall_mem_cons.mp hk
  exact lv_tableOut hS.1 hS.2.1 hd (by rw [am_toInt hx]; exact h) ht (k _ _ _ _ _ _ _ _ _ _ _ _ _ _ _ _ _ _ _ hS hY hL hk hR)
theorem s_tableIn {mi : am_I} {pc : Nat} {ls : am_L} {stk : List am_V} {K : am_K} {M : am_M} {Q : am_Q} {x : Int} {dflt lo hi : Int} {offs : Array Int} {len tgt : Nat} {off : Int} (hd : decode (am_cc mi) pc = .ok (.tableswitch dflt lo hi offs, len)) (n : Nat) (h1 : x = lo + n) (h2 : lo + n ≤ hi) (ho : offs[n]? = some off) (ht : (pc : Int) + off = (tgt : Int)) (k : am_At mi tgt ls stk K M Q) : am_At mi pc ls (vi x :: stk) K M Q := by
  intro p l e s m args below meth c Z A D G0 K0 M0 G H locs rl hS hY hL hk hR
  obtain ⟨hx, hk⟩ := List.forall_mem_cons.mp hk
  exact lv_tableIn hS.1 hS.2.1 hd (by rw [am_toInt hx]; omega) (by rw [am_toInt hx]; omega) (by rw [am_toInt hx, show (x - lo).toNat = n from by omega]; exact ho) ht (k _ _ _ _ _ _ _ _ _ _ _ _ _ _ _ _ _ _ _ hS hY hL hk hR)
theorem s_ireturn {mi : am_I} {pc : Nat} {ls : am_L} {K : am_K} {M : am_M} {Q : am_Q} {x : Int} (hd : decode (am_cc mi) pc = .ok (.ireturn, 1)) (hr : am_rt mi = some .int) (k : Q (some (vi x)) K M) : am_At mi pc ls [vi x] K M Q := by
  intro p l e s m args below meth c Z A D G0 K0 M0 G H locs rl hS hY hL hk hR
  exact hR (some (vi x)) K M G H locs pc rl k hY hk ⟨hd, Or.inl hr⟩
theorem s_zreturn {mi : am_I} {pc : Nat} {ls : am_L} {K : am_K} {M : am_M} {Q : am_Q} {x : Int} (hd : decode (am_cc mi) pc = .ok (.ireturn, 1)) (hr : am_rt mi = some .boolean) (h01 : x = 0 ∨ x = 1) (k : Q (some (vi x)) K M) : am_At mi pc ls [vi x] K M Q := by
  intro p l e s m args below meth c Z A D G0 K0 M0 G H locs rl hS hY hL hk hR
  exact hR (some (vi x)) K M G H locs pc rl k hY hk ⟨hd, Or.inr ⟨hr, h01⟩⟩
theorem s_lreturn {mi : am_I} {pc : Nat} {ls : am_L} {K : am_K} {M : am_M} {Q : am_Q} {x : Int} (hd : decode (am_cc mi) pc = .ok (.lreturn, 1)) (hr : am_rt mi = some .long) (k : Q (some (vl x)) K M) : am_At mi pc ls [vl x] K M Q := by
  intro p l e s m args below meth c Z A D G0 K0 M0 G H locs rl hS hY hL hk hR
  exact hR (some (vl x)) K M G H locs pc rl k hY hk ⟨hd, hr⟩
theorem s_areturn {mi : am_I} {pc : Nat} {ls : am_L} {K : am_K} {M : am_M} {Q : am_Q} {x : Int} (hd : decode (am_cc mi) pc = .ok (.areturn, 1)) (hr : ∃ n, am_rt mi = some (.object n)) (h01 : -1 ≤ x) (k : Q (some (vr x)) K M) : am_At mi pc ls [vr x] K M Q := by
  intro p l e s m args below meth c Z A D G0 K0 M0 G H locs rl hS hY hL hk hR
  exact hR (some (vr x)) K M G H locs pc rl k hY hk ⟨hd, hr, h01⟩
theorem s_return {mi : am_I} {pc : Nat} {ls : am_L} {K : am_K} {M : am_M} {Q : am_Q} (hd : decode (am_cc mi) pc = .ok (.return_, 1)) (hr : am_rt mi = none) (k : Q none K M) : am_At mi pc ls [] K M Q := by
  intro p l e s m args below meth c Z A D G0 K0 M0 G H locs rl hS hY hL hk hR
  exact hR none K M G H locs pc rl k hY hk ⟨hr, hd⟩
