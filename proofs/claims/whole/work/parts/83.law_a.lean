/-! ===== the law: its 32 cases (by wip/whole/gen_law.py) ===== -/
theorem kdL0 : am_kd (SH, 113, 141272) 0 = some (8, 16, [-1, -1, 1, 2, 27, 44, 47, 51, 54, 56, 58, 60, 66, 69, 75, 84]) := rfl
theorem kdL86 : am_kd (SH, 113, 141272) 86 = some (9, 36, [-1, -1, 87, 88, 89, 90, 91, 92, 93, 94, 95, 96, 97, 98, 99, -1, -1, -1, -1, 100, 101, 102, 103, 104, 105, 106, 107, -1, -1, 108, 109, -1, 110, -1, 111, 112]) := by decide +kernel
section
variable {S : Int → Int} {M : am_M} {Q : am_Q} {i : Int}
theorem L_0 (hI : Inv S M) (h0 : 0 ≤ i) (h6 : i + 6 ≤ M (-2) (-1)) (hL : M (-2) (-1) ≤ 3072) (k : ∀ M2, Inv S M2 → M2 (-2) (-1) = M (-2) (-1) → am_At mL 1506 [some (vr (-2)), some (vr 0), some (vr 86), some (vi i)] [] (SH, 113, 141272) M2 Q) : am_At mL 176 [some (vr (-2)), some (vr 0), some (vr 86), some (vi i)] [] (SH, 113, 141272) M Q := by
  refine s_aload_n (k0 := 1) (x := 0) (show decode (am_cc mL) 176 = .ok (.aload_n 1, 1) by decide +kernel) rfl ?_
  refine s_aload_n (k0 := 0) (x := -2) (show decode (am_cc mL) 177 = .ok (.aload_n 0, 1) by decide +kernel) rfl ?_
  refine s_iload_n (k0 := 3) (x := i) (show decode (am_cc mL) 178 = .ok (.iload_n 3, 1) by decide +kernel) rfl ?_
  refine s_iconst (show decode (am_cc mL) 179 = .ok (.iconst 1, 1) by decide +kernel) (by unfold am_i32; omega) ?_
  refine s_iadd (show decode (am_cc mL) 180 = .ok (.iadd, 1) by decide +kernel) (by unfold am_i32; omega) ?_
  refine s_sload rfl (show decode (am_cc mL) 181 = .ok (.iaload, 1) by decide +kernel) (by omega) (by omega) ?_
  refine n_callV (as := [vi _]) (a := 0) (stk := []) (show decode (am_cc mL) 182 = .ok (.invokevirtual 13, 3) by decide +kernel) lk_RL_13 kdL0 (by decide) rfl rfl (by decide) (Nat.le_of_ble_eq_true rfl) ⟨rfl, rfl⟩ ?_
  refine am_CallN_mono (fun r M1 h => ?_) (am_CallN_neg (am_CallKS rfl (e_letters hI)))
  obtain ⟨⟨h, hs⟩, hn⟩ := h
  obtain ⟨x, rfl⟩ := hs.1 rfl
  have hn2 : ∀ j : Int, M1 (-2) j = M (-2) j := fun j => hn _ j (by omega)
  show am_At mL 185 _ [vi x] _ M1 Q
  refine s_aload_n (k0 := 2) (x := 86) (show decode (am_cc mL) 185 = .ok (.aload_n 2, 1) by decide +kernel) rfl ?_
  refine s_aload_n (k0 := 0) (x := -2) (show decode (am_cc mL) 186 = .ok (.aload_n 0, 1) by decide +kernel) rfl ?_
  refine s_iload_n (k0 := 3) (x := i) (show decode (am_cc mL) 187 = .ok (.iload_n 3, 1) by decide +kernel) rfl ?_
  refine s_iconst (show decode (am_cc mL) 188 = .ok (.iconst 1, 1) by decide +kernel) (by unfold am_i32; omega) ?_
  refine s_iadd (show decode (am_cc mL) 189 = .ok (.iadd, 1) by decide +kernel) (by unfold am_i32; omega) ?_
  refine s_sload rfl (show decode (am_cc mL) 190 = .ok (.iaload, 1) by decide +kernel) (by omega) (by rw [hn2]; omega) ?_
  refine n_callV (as := [vi _]) (a := 86) (stk := [vi x]) (show decode (am_cc mL) 191 = .ok (.invokevirtual 17, 3) by decide +kernel) lk_RL_17 kdL86 (by decide) rfl rfl (by decide) (Nat.le_of_ble_eq_true rfl) ⟨rfl, rfl⟩ ?_
  try simp only [hn2]
  refine am_CallN_mono (fun r' M2 h2 => ?_) (am_CallN_neg (am_CallKS rfl h))
  obtain ⟨⟨rfl, hI2⟩, hn3⟩ := h2
  show am_At mL 194 _ [vi x, vi x] _ M2 Q
  exact s_icmp_eq (tgt := 1506) (show decode (am_cc mL) 194 = .ok (.if_icmp .eq 1312, 3) by decide +kernel) (by decide) (fun _ => k M2 hI2 (by rw [hn3 _ _ (by omega), hn2])) (fun q => absurd rfl q)
theorem L_1 (hI : Inv S M) (h0 : 0 ≤ i) (h6 : i + 6 ≤ M (-2) (-1)) (hL : M (-2) (-1) ≤ 3072) (k : ∀ M2, Inv S M2 → M2 (-2) (-1) = M (-2) (-1) → am_At mL 1506 [some (vr (-2)), some (vr 0), some (vr 86), some (vi i)] [] (SH, 113, 141272) M2 Q) : am_At mL 199 [some (vr (-2)), some (vr 0), some (vr 86), some (vi i)] [] (SH, 113, 141272) M Q := by
  refine s_aload_n (k0 := 1) (x := 0) (show decode (am_cc mL) 199 = .ok (.aload_n 1, 1) by decide +kernel) rfl ?_
  refine s_aload_n (k0 := 0) (x := -2) (show decode (am_cc mL) 200 = .ok (.aload_n 0, 1) by decide +kernel) rfl ?_
  refine s_iload_n (k0 := 3) (x := i) (show decode (am_cc mL) 201 = .ok (.iload_n 3, 1) by decide +kernel) rfl ?_
  refine s_iconst (show decode (am_cc mL) 202 = .ok (.iconst 1, 1) by decide +kernel) (by unfold am_i32; omega) ?_
  refine s_iadd (show decode (am_cc mL) 203 = .ok (.iadd, 1) by decide +kernel) (by unfold am_i32; omega) ?_
  refine s_sload rfl (show decode (am_cc mL) 204 = .ok (.iaload, 1) by decide +kernel) (by omega) (by omega) ?_
  refine s_aload_n (k0 := 0) (x := -2) (show decode (am_cc mL) 205 = .ok (.aload_n 0, 1) by decide +kernel) rfl ?_
  refine s_iload_n (k0 := 3) (x := i) (show decode (am_cc mL) 206 = .ok (.iload_n 3, 1) by decide +kernel) rfl ?_
  refine s_iconst (show decode (am_cc mL) 207 = .ok (.iconst 2, 1) by decide +kernel) (by unfold am_i32; omega) ?_
  refine s_iadd (show decode (am_cc mL) 208 = .ok (.iadd, 1) by decide +kernel) (by unfold am_i32; omega) ?_
  refine s_sload rfl (show decode (am_cc mL) 209 = .ok (.iaload, 1) by decide +kernel) (by omega) (by omega) ?_
  refine s_aload_n (k0 := 0) (x := -2) (show decode (am_cc mL) 210 = .ok (.aload_n 0, 1) by decide +kernel) rfl ?_
  refine s_iload_n (k0 := 3) (x := i) (show decode (am_cc mL) 211 = .ok (.iload_n 3, 1) by decide +kernel) rfl ?_
  refine s_iconst (show decode (am_cc mL) 212 = .ok (.iconst 3, 1) by decide +kernel) (by unfold am_i32; omega) ?_
  refine s_iadd (show decode (am_cc mL) 213 = .ok (.iadd, 1) by decide +kernel) (by unfold am_i32; omega) ?_
  refine s_sload rfl (show decode (am_cc mL) 214 = .ok (.iaload, 1) by decide +kernel) (by omega) (by omega) ?_
  refine s_aload_n (k0 := 0) (x := -2) (show decode (am_cc mL) 215 = .ok (.aload_n 0, 1) by decide +kernel) rfl ?_
  refine s_iload_n (k0 := 3) (x := i) (show decode (am_cc mL) 216 = .ok (.iload_n 3, 1) by decide +kernel) rfl ?_
  refine s_iconst (show decode (am_cc mL) 217 = .ok (.iconst 4, 1) by decide +kernel) (by unfold am_i32; omega) ?_
  refine s_iadd (show decode (am_cc mL) 218 = .ok (.iadd, 1) by decide +kernel) (by unfold am_i32; omega) ?_
  refine s_sload rfl (show decode (am_cc mL) 219 = .ok (.iaload, 1) by decide +kernel) (by omega) (by omega) ?_
  refine n_callV (as := [vi _, vi _, vi _, vi _]) (a := 0) (stk := []) (show decode (am_cc mL) 220 = .ok (.invokevirtual 18, 3) by decide +kernel) lk_RL_18 kdL0 (by decide) rfl rfl (by decide) (Nat.le_of_ble_eq_true rfl) ⟨rfl, rfl⟩ ?_
  refine am_CallN_mono (fun r M1 h => ?_) (am_CallN_neg (am_CallKS rfl (e_point hI)))
  obtain ⟨⟨h, hs⟩, hn⟩ := h
  obtain ⟨x, rfl⟩ := hs.1 rfl
  have hn2 : ∀ j : Int, M1 (-2) j = M (-2) j := fun j => hn _ j (by omega)
  show am_At mL 223 _ [vi x] _ M1 Q
  refine s_aload_n (k0 := 2) (x := 86) (show decode (am_cc mL) 223 = .ok (.aload_n 2, 1) by decide +kernel) rfl ?_
  refine s_aload_n (k0 := 0) (x := -2) (show decode (am_cc mL) 224 = .ok (.aload_n 0, 1) by decide +kernel) rfl ?_
  refine s_iload_n (k0 := 3) (x := i) (show decode (am_cc mL) 225 = .ok (.iload_n 3, 1) by decide +kernel) rfl ?_
  refine s_iconst (show decode (am_cc mL) 226 = .ok (.iconst 1, 1) by decide +kernel) (by unfold am_i32; omega) ?_
  refine s_iadd (show decode (am_cc mL) 227 = .ok (.iadd, 1) by decide +kernel) (by unfold am_i32; omega) ?_
  refine s_sload rfl (show decode (am_cc mL) 228 = .ok (.iaload, 1) by decide +kernel) (by omega) (by rw [hn2]; omega) ?_
  refine s_aload_n (k0 := 0) (x := -2) (show decode (am_cc mL) 229 = .ok (.aload_n 0, 1) by decide +kernel) rfl ?_
  refine s_iload_n (k0 := 3) (x := i) (show decode (am_cc mL) 230 = .ok (.iload_n 3, 1) by decide +kernel) rfl ?_
  refine s_iconst (show decode (am_cc mL) 231 = .ok (.iconst 2, 1) by decide +kernel) (by unfold am_i32; omega) ?_
  refine s_iadd (show decode (am_cc mL) 232 = .ok (.iadd, 1) by decide +kernel) (by unfold am_i32; omega) ?_
  refine s_sload rfl (show decode (am_cc mL) 233 = .ok (.iaload, 1) by decide +kernel) (by omega) (by rw [hn2]; omega) ?_
  refine s_aload_n (k0 := 0) (x := -2) (show decode (am_cc mL) 234 = .ok (.aload_n 0, 1) by decide +kernel) rfl ?_
  refine s_iload_n (k0 := 3) (x := i) (show decode (am_cc mL) 235 = .ok (.iload_n 3, 1) by decide +kernel) rfl ?_
  refine s_iconst (show decode (am_cc mL) 236 = .ok (.iconst 3, 1) by decide +kernel) (by unfold am_i32; omega) ?_
  refine s_iadd (show decode (am_cc mL) 237 = .ok (.iadd, 1) by decide +kernel) (by unfold am_i32; omega) ?_
  refine s_sload rfl (show decode (am_cc mL) 238 = .ok (.iaload, 1) by decide +kernel) (by omega) (by rw [hn2]; omega) ?_
  refine s_aload_n (k0 := 0) (x := -2) (show decode (am_cc mL) 239 = .ok (.aload_n 0, 1) by decide +kernel) rfl ?_
  refine s_iload_n (k0 := 3) (x := i) (show decode (am_cc mL) 240 = .ok (.iload_n 3, 1) by decide +kernel) rfl ?_
  refine s_iconst (show decode (am_cc mL) 241 = .ok (.iconst 4, 1) by decide +kernel) (by unfold am_i32; omega) ?_
  refine s_iadd (show decode (am_cc mL) 242 = .ok (.iadd, 1) by decide +kernel) (by unfold am_i32; omega) ?_
  refine s_sload rfl (show decode (am_cc mL) 243 = .ok (.iaload, 1) by decide +kernel) (by omega) (by rw [hn2]; omega) ?_
  refine n_callV (as := [vi _, vi _, vi _, vi _]) (a := 86) (stk := [vi x]) (show decode (am_cc mL) 244 = .ok (.invokevirtual 22, 3) by decide +kernel) lk_RL_22 kdL86 (by decide) rfl rfl (by decide) (Nat.le_of_ble_eq_true rfl) ⟨rfl, rfl⟩ ?_
  try simp only [hn2]
  refine am_CallN_mono (fun r' M2 h2 => ?_) (am_CallN_neg (am_CallKS rfl h))
  obtain ⟨⟨rfl, hI2⟩, hn3⟩ := h2
  show am_At mL 247 _ [vi x, vi x] _ M2 Q
  exact s_icmp_eq (tgt := 1506) (show decode (am_cc mL) 247 = .ok (.if_icmp .eq 1259, 3) by decide +kernel) (by decide) (fun _ => k M2 hI2 (by rw [hn3 _ _ (by omega), hn2])) (fun q => absurd rfl q)
theorem L_2 (hI : Inv S M) (h0 : 0 ≤ i) (h6 : i + 6 ≤ M (-2) (-1)) (hL : M (-2) (-1) ≤ 3072) (k : ∀ M2, Inv S M2 → M2 (-2) (-1) = M (-2) (-1) → am_At mL 1506 [some (vr (-2)), some (vr 0), some (vr 86), some (vi i)] [] (SH, 113, 141272) M2 Q) : am_At mL 252 [some (vr (-2)), some (vr 0), some (vr 86), some (vi i)] [] (SH, 113, 141272) M Q := by
  by_cases hz : M (-2) (i + 3) = 0
  · refine s_aload_n (k0 := 1) (x := 0) (show decode (am_cc mL) 252 = .ok (.aload_n 1, 1) by decide +kernel) rfl ?_
    refine s_aload_n (k0 := 0) (x := -2) (show decode (am_cc mL) 253 = .ok (.aload_n 0, 1) by decide +kernel) rfl ?_
    refine s_iload_n (k0 := 3) (x := i) (show decode (am_cc mL) 254 = .ok (.iload_n 3, 1) by decide +kernel) rfl ?_
    refine s_iconst (show decode (am_cc mL) 255 = .ok (.iconst 1, 1) by decide +kernel) (by unfold am_i32; omega) ?_
    refine s_iadd (show decode (am_cc mL) 256 = .ok (.iadd, 1) by decide +kernel) (by unfold am_i32; omega) ?_
    refine s_sload rfl (show decode (am_cc mL) 257 = .ok (.iaload, 1) by decide +kernel) (by omega) (by omega) ?_
    refine s_aload_n (k0 := 0) (x := -2) (show decode (am_cc mL) 258 = .ok (.aload_n 0, 1) by decide +kernel) rfl ?_
    refine s_iload_n (k0 := 3) (x := i) (show decode (am_cc mL) 259 = .ok (.iload_n 3, 1) by decide +kernel) rfl ?_
    refine s_iconst (show decode (am_cc mL) 260 = .ok (.iconst 2, 1) by decide +kernel) (by unfold am_i32; omega) ?_
    refine s_iadd (show decode (am_cc mL) 261 = .ok (.iadd, 1) by decide +kernel) (by unfold am_i32; omega) ?_
    refine s_sload rfl (show decode (am_cc mL) 262 = .ok (.iaload, 1) by decide +kernel) (by omega) (by omega) ?_
    refine s_aload_n (k0 := 0) (x := -2) (show decode (am_cc mL) 263 = .ok (.aload_n 0, 1) by decide +kernel) rfl ?_
    refine s_iload_n (k0 := 3) (x := i) (show decode (am_cc mL) 264 = .ok (.iload_n 3, 1) by decide +kernel) rfl ?_
    refine s_iconst (show decode (am_cc mL) 265 = .ok (.iconst 3, 1) by decide +kernel) (by unfold am_i32; omega) ?_
    refine s_iadd (show decode (am_cc mL) 266 = .ok (.iadd, 1) by decide +kernel) (by unfold am_i32; omega) ?_
    refine s_sload rfl (show decode (am_cc mL) 267 = .ok (.iaload, 1) by decide +kernel) (by omega) (by omega) ?_
    refine s_if_eq (tgt := 275) (show decode (am_cc mL) 268 = .ok (.ifCond .eq 7, 3) by decide +kernel) (by decide) (fun _ => ?_) (fun q => absurd hz q)
    refine s_iconst (show decode (am_cc mL) 275 = .ok (.iconst 0, 1) by decide +kernel) (by unfold am_i32; omega) ?_
    refine n_callV (as := [vi _, vi _, vi 0]) (a := 0) (stk := []) (show decode (am_cc mL) 276 = .ok (.invokevirtual 23, 3) by decide +kernel) lk_RL_23 kdL0 (by decide) rfl rfl (by decide) (Nat.le_of_ble_eq_true rfl) ⟨rfl, rfl⟩ ?_
    refine am_CallN_mono (fun r M1 h => ?_) (am_CallN_neg (am_CallKS rfl (e_holds hI (by omega))))
    obtain ⟨⟨h, hs⟩, hn⟩ := h
    obtain ⟨x, rfl⟩ := hs.1 rfl
    have hn2 : ∀ j : Int, M1 (-2) j = M (-2) j := fun j => hn _ j (by omega)
    show am_At mL 279 _ [vi x] _ M1 Q
    refine s_aload_n (k0 := 2) (x := 86) (show decode (am_cc mL) 279 = .ok (.aload_n 2, 1) by decide +kernel) rfl ?_
    refine s_aload_n (k0 := 0) (x := -2) (show decode (am_cc mL) 280 = .ok (.aload_n 0, 1) by decide +kernel) rfl ?_
    refine s_iload_n (k0 := 3) (x := i) (show decode (am_cc mL) 281 = .ok (.iload_n 3, 1) by decide +kernel) rfl ?_
    refine s_iconst (show decode (am_cc mL) 282 = .ok (.iconst 1, 1) by decide +kernel) (by unfold am_i32; omega) ?_
    refine s_iadd (show decode (am_cc mL) 283 = .ok (.iadd, 1) by decide +kernel) (by unfold am_i32; omega) ?_
    refine s_sload rfl (show decode (am_cc mL) 284 = .ok (.iaload, 1) by decide +kernel) (by omega) (by rw [hn2]; omega) ?_
    refine s_aload_n (k0 := 0) (x := -2) (show decode (am_cc mL) 285 = .ok (.aload_n 0, 1) by decide +kernel) rfl ?_
    refine s_iload_n (k0 := 3) (x := i) (show decode (am_cc mL) 286 = .ok (.iload_n 3, 1) by decide +kernel) rfl ?_
    refine s_iconst (show decode (am_cc mL) 287 = .ok (.iconst 2, 1) by decide +kernel) (by unfold am_i32; omega) ?_
    refine s_iadd (show decode (am_cc mL) 288 = .ok (.iadd, 1) by decide +kernel) (by unfold am_i32; omega) ?_
    refine s_sload rfl (show decode (am_cc mL) 289 = .ok (.iaload, 1) by decide +kernel) (by omega) (by rw [hn2]; omega) ?_
    refine s_aload_n (k0 := 0) (x := -2) (show decode (am_cc mL) 290 = .ok (.aload_n 0, 1) by decide +kernel) rfl ?_
    refine s_iload_n (k0 := 3) (x := i) (show decode (am_cc mL) 291 = .ok (.iload_n 3, 1) by decide +kernel) rfl ?_
    refine s_iconst (show decode (am_cc mL) 292 = .ok (.iconst 3, 1) by decide +kernel) (by unfold am_i32; omega) ?_
    refine s_iadd (show decode (am_cc mL) 293 = .ok (.iadd, 1) by decide +kernel) (by unfold am_i32; omega) ?_
    refine s_sload rfl (show decode (am_cc mL) 294 = .ok (.iaload, 1) by decide +kernel) (by omega) (by rw [hn2]; omega) ?_
    refine s_if_eq (tgt := 302) (show decode (am_cc mL) 295 = .ok (.ifCond .eq 7, 3) by decide +kernel) (by decide) (fun _ => ?_) (fun q => absurd (by rw [hn2]; exact hz) q)
    refine s_iconst (show decode (am_cc mL) 302 = .ok (.iconst 0, 1) by decide +kernel) (by unfold am_i32; omega) ?_
    refine n_callV (as := [vi _, vi _, vi 0]) (a := 86) (stk := [vi x]) (show decode (am_cc mL) 303 = .ok (.invokevirtual 27, 3) by decide +kernel) lk_RL_27 kdL86 (by decide) rfl rfl (by decide) (Nat.le_of_ble_eq_true rfl) ⟨rfl, rfl⟩ ?_
    try simp only [hn2]
    refine am_CallN_mono (fun r' M2 h2 => ?_) (am_CallN_neg (am_CallKS rfl h))
    obtain ⟨⟨rfl, hI2⟩, hn3⟩ := h2
    show am_At mL 306 _ [vi x, vi x] _ M2 Q
    exact s_icmp_eq (tgt := 1506) (show decode (am_cc mL) 306 = .ok (.if_icmp .eq 1200, 3) by decide +kernel) (by decide) (fun _ => k M2 hI2 (by rw [hn3 _ _ (by omega), hn2])) (fun q => absurd rfl q)
  · refine s_aload_n (k0 := 1) (x := 0) (show decode (am_cc mL) 252 = .ok (.aload_n 1, 1) by decide +kernel) rfl ?_
    refine s_aload_n (k0 := 0) (x := -2) (show decode (am_cc mL) 253 = .ok (.aload_n 0, 1) by decide +kernel) rfl ?_
    refine s_iload_n (k0 := 3) (x := i) (show decode (am_cc mL) 254 = .ok (.iload_n 3, 1) by decide +kernel) rfl ?_
    refine s_iconst (show decode (am_cc mL) 255 = .ok (.iconst 1, 1) by decide +kernel) (by unfold am_i32; omega) ?_
    refine s_iadd (show decode (am_cc mL) 256 = .ok (.iadd, 1) by decide +kernel) (by unfold am_i32; omega) ?_
    refine s_sload rfl (show decode (am_cc mL) 257 = .ok (.iaload, 1) by decide +kernel) (by omega) (by omega) ?_
    refine s_aload_n (k0 := 0) (x := -2) (show decode (am_cc mL) 258 = .ok (.aload_n 0, 1) by decide +kernel) rfl ?_
    refine s_iload_n (k0 := 3) (x := i) (show decode (am_cc mL) 259 = .ok (.iload_n 3, 1) by decide +kernel) rfl ?_
    refine s_iconst (show decode (am_cc mL) 260 = .ok (.iconst 2, 1) by decide +kernel) (by unfold am_i32; omega) ?_
    refine s_iadd (show decode (am_cc mL) 261 = .ok (.iadd, 1) by decide +kernel) (by unfold am_i32; omega) ?_
    refine s_sload rfl (show decode (am_cc mL) 262 = .ok (.iaload, 1) by decide +kernel) (by omega) (by omega) ?_
    refine s_aload_n (k0 := 0) (x := -2) (show decode (am_cc mL) 263 = .ok (.aload_n 0, 1) by decide +kernel) rfl ?_
    refine s_iload_n (k0 := 3) (x := i) (show decode (am_cc mL) 264 = .ok (.iload_n 3, 1) by decide +kernel) rfl ?_
    refine s_iconst (show decode (am_cc mL) 265 = .ok (.iconst 3, 1) by decide +kernel) (by unfold am_i32; omega) ?_
    refine s_iadd (show decode (am_cc mL) 266 = .ok (.iadd, 1) by decide +kernel) (by unfold am_i32; omega) ?_
    refine s_sload rfl (show decode (am_cc mL) 267 = .ok (.iaload, 1) by decide +kernel) (by omega) (by omega) ?_
    refine s_if_eq (tgt := 275) (show decode (am_cc mL) 268 = .ok (.ifCond .eq 7, 3) by decide +kernel) (by decide) (fun q => absurd q hz) (fun _ => ?_)
    refine s_iconst (show decode (am_cc mL) 271 = .ok (.iconst 1, 1) by decide +kernel) (by unfold am_i32; omega) ?_
    refine s_goto (tgt := 276) (show decode (am_cc mL) 272 = .ok (.goto 4, 3) by decide +kernel) (by decide) ?_
    refine n_callV (as := [vi _, vi _, vi 1]) (a := 0) (stk := []) (show decode (am_cc mL) 276 = .ok (.invokevirtual 23, 3) by decide +kernel) lk_RL_23 kdL0 (by decide) rfl rfl (by decide) (Nat.le_of_ble_eq_true rfl) ⟨rfl, rfl⟩ ?_
    refine am_CallN_mono (fun r M1 h => ?_) (am_CallN_neg (am_CallKS rfl (e_holds hI (by omega))))
    obtain ⟨⟨h, hs⟩, hn⟩ := h
    obtain ⟨x, rfl⟩ := hs.1 rfl
    have hn2 : ∀ j : Int, M1 (-2) j = M (-2) j := fun j => hn _ j (by omega)
    show am_At mL 279 _ [vi x] _ M1 Q
    refine s_aload_n (k0 := 2) (x := 86) (show decode (am_cc mL) 279 = .ok (.aload_n 2, 1) by decide +kernel) rfl ?_
    refine s_aload_n (k0 := 0) (x := -2) (show decode (am_cc mL) 280 = .ok (.aload_n 0, 1) by decide +kernel) rfl ?_
    refine s_iload_n (k0 := 3) (x := i) (show decode (am_cc mL) 281 = .ok (.iload_n 3, 1) by decide +kernel) rfl ?_
    refine s_iconst (show decode (am_cc mL) 282 = .ok (.iconst 1, 1) by decide +kernel) (by unfold am_i32; omega) ?_
    refine s_iadd (show decode (am_cc mL) 283 = .ok (.iadd, 1) by decide +kernel) (by unfold am_i32; omega) ?_
    refine s_sload rfl (show decode (am_cc mL) 284 = .ok (.iaload, 1) by decide +kernel) (by omega) (by rw [hn2]; omega) ?_
    refine s_aload_n (k0 := 0) (x := -2) (show decode (am_cc mL) 285 = .ok (.aload_n 0, 1) by decide +kernel) rfl ?_
    refine s_iload_n (k0 := 3) (x := i) (show decode (am_cc mL) 286 = .ok (.iload_n 3, 1) by decide +kernel) rfl ?_
    refine s_iconst (show decode (am_cc mL) 287 = .ok (.iconst 2, 1) by decide +kernel) (by unfold am_i32; omega) ?_
    refine s_iadd (show decode (am_cc mL) 288 = .ok (.iadd, 1) by decide +kernel) (by unfold am_i32; omega) ?_
    refine s_sload rfl (show decode (am_cc mL) 289 = .ok (.iaload, 1) by decide +kernel) (by omega) (by rw [hn2]; omega) ?_
    refine s_aload_n (k0 := 0) (x := -2) (show decode (am_cc mL) 290 = .ok (.aload_n 0, 1) by decide +kernel) rfl ?_
    refine s_iload_n (k0 := 3) (x := i) (show decode (am_cc mL) 291 = .ok (.iload_n 3, 1) by decide +kernel) rfl ?_
    refine s_iconst (show decode (am_cc mL) 292 = .ok (.iconst 3, 1) by decide +kernel) (by unfold am_i32; omega) ?_
    refine s_iadd (show decode (am_cc mL) 293 = .ok (.iadd, 1) by decide +kernel) (by unfold am_i32; omega) ?_
    refine s_sload rfl (show decode (am_cc mL) 294 = .ok (.iaload, 1) by decide +kernel) (by omega) (by rw [hn2]; omega) ?_
    refine s_if_eq (tgt := 302) (show decode (am_cc mL) 295 = .ok (.ifCond .eq 7, 3) by decide +kernel) (by decide) (fun q => absurd (by rw [hn2] at q; exact q) hz) (fun _ => ?_)
    refine s_iconst (show decode (am_cc mL) 298 = .ok (.iconst 1, 1) by decide +kernel) (by unfold am_i32; omega) ?_
    refine s_goto (tgt := 303) (show decode (am_cc mL) 299 = .ok (.goto 4, 3) by decide +kernel) (by decide) ?_
    refine n_callV (as := [vi _, vi _, vi 1]) (a := 86) (stk := [vi x]) (show decode (am_cc mL) 303 = .ok (.invokevirtual 27, 3) by decide +kernel) lk_RL_27 kdL86 (by decide) rfl rfl (by decide) (Nat.le_of_ble_eq_true rfl) ⟨rfl, rfl⟩ ?_
    try simp only [hn2]
    refine am_CallN_mono (fun r' M2 h2 => ?_) (am_CallN_neg (am_CallKS rfl h))
    obtain ⟨⟨rfl, hI2⟩, hn3⟩ := h2
    show am_At mL 306 _ [vi x, vi x] _ M2 Q
    exact s_icmp_eq (tgt := 1506) (show decode (am_cc mL) 306 = .ok (.if_icmp .eq 1200, 3) by decide +kernel) (by decide) (fun _ => k M2 hI2 (by rw [hn3 _ _ (by omega), hn2])) (fun q => absurd rfl q)
theorem L_3 (hI : Inv S M) (h0 : 0 ≤ i) (h6 : i + 6 ≤ M (-2) (-1)) (hL : M (-2) (-1) ≤ 3072) (k : ∀ M2, Inv S M2 → M2 (-2) (-1) = M (-2) (-1) → am_At mL 1506 [some (vr (-2)), some (vr 0), some (vr 86), some (vi i)] [] (SH, 113, 141272) M2 Q) : am_At mL 311 [some (vr (-2)), some (vr 0), some (vr 86), some (vi i)] [] (SH, 113, 141272) M Q := by
  refine s_aload_n (k0 := 1) (x := 0) (show decode (am_cc mL) 311 = .ok (.aload_n 1, 1) by decide +kernel) rfl ?_
  refine s_aload_n (k0 := 0) (x := -2) (show decode (am_cc mL) 312 = .ok (.aload_n 0, 1) by decide +kernel) rfl ?_
  refine s_iload_n (k0 := 3) (x := i) (show decode (am_cc mL) 313 = .ok (.iload_n 3, 1) by decide +kernel) rfl ?_
  refine s_iconst (show decode (am_cc mL) 314 = .ok (.iconst 1, 1) by decide +kernel) (by unfold am_i32; omega) ?_
  refine s_iadd (show decode (am_cc mL) 315 = .ok (.iadd, 1) by decide +kernel) (by unfold am_i32; omega) ?_
  refine s_sload rfl (show decode (am_cc mL) 316 = .ok (.iaload, 1) by decide +kernel) (by omega) (by omega) ?_
  refine s_aload_n (k0 := 0) (x := -2) (show decode (am_cc mL) 317 = .ok (.aload_n 0, 1) by decide +kernel) rfl ?_
  refine s_iload_n (k0 := 3) (x := i) (show decode (am_cc mL) 318 = .ok (.iload_n 3, 1) by decide +kernel) rfl ?_
  refine s_iconst (show decode (am_cc mL) 319 = .ok (.iconst 2, 1) by decide +kernel) (by unfold am_i32; omega) ?_
  refine s_iadd (show decode (am_cc mL) 320 = .ok (.iadd, 1) by decide +kernel) (by unfold am_i32; omega) ?_
  refine s_sload rfl (show decode (am_cc mL) 321 = .ok (.iaload, 1) by decide +kernel) (by omega) (by omega) ?_
  refine s_aload_n (k0 := 0) (x := -2) (show decode (am_cc mL) 322 = .ok (.aload_n 0, 1) by decide +kernel) rfl ?_
  refine s_iload_n (k0 := 3) (x := i) (show decode (am_cc mL) 323 = .ok (.iload_n 3, 1) by decide +kernel) rfl ?_
  refine s_iconst (show decode (am_cc mL) 324 = .ok (.iconst 3, 1) by decide +kernel) (by unfold am_i32; omega) ?_
  refine s_iadd (show decode (am_cc mL) 325 = .ok (.iadd, 1) by decide +kernel) (by unfold am_i32; omega) ?_
  refine s_sload rfl (show decode (am_cc mL) 326 = .ok (.iaload, 1) by decide +kernel) (by omega) (by omega) ?_
  refine n_callV (as := [vi _, vi _, vi _]) (a := 0) (stk := []) (show decode (am_cc mL) 327 = .ok (.invokevirtual 28, 3) by decide +kernel) lk_RL_28 kdL0 (by decide) rfl rfl (by decide) (Nat.le_of_ble_eq_true rfl) ⟨rfl, rfl⟩ ?_
  refine am_CallN_mono (fun r M1 h => ?_) (am_CallN_neg (am_CallKS rfl (e_make hI)))
  obtain ⟨⟨h, hs⟩, hn⟩ := h
  obtain ⟨x, rfl⟩ := hs.1 rfl
  have hn2 : ∀ j : Int, M1 (-2) j = M (-2) j := fun j => hn _ j (by omega)
  show am_At mL 330 _ [vi x] _ M1 Q
  refine s_aload_n (k0 := 2) (x := 86) (show decode (am_cc mL) 330 = .ok (.aload_n 2, 1) by decide +kernel) rfl ?_
  refine s_aload_n (k0 := 0) (x := -2) (show decode (am_cc mL) 331 = .ok (.aload_n 0, 1) by decide +kernel) rfl ?_
  refine s_iload_n (k0 := 3) (x := i) (show decode (am_cc mL) 332 = .ok (.iload_n 3, 1) by decide +kernel) rfl ?_
  refine s_iconst (show decode (am_cc mL) 333 = .ok (.iconst 1, 1) by decide +kernel) (by unfold am_i32; omega) ?_
  refine s_iadd (show decode (am_cc mL) 334 = .ok (.iadd, 1) by decide +kernel) (by unfold am_i32; omega) ?_
  refine s_sload rfl (show decode (am_cc mL) 335 = .ok (.iaload, 1) by decide +kernel) (by omega) (by rw [hn2]; omega) ?_
  refine s_aload_n (k0 := 0) (x := -2) (show decode (am_cc mL) 336 = .ok (.aload_n 0, 1) by decide +kernel) rfl ?_
  refine s_iload_n (k0 := 3) (x := i) (show decode (am_cc mL) 337 = .ok (.iload_n 3, 1) by decide +kernel) rfl ?_
  refine s_iconst (show decode (am_cc mL) 338 = .ok (.iconst 2, 1) by decide +kernel) (by unfold am_i32; omega) ?_
  refine s_iadd (show decode (am_cc mL) 339 = .ok (.iadd, 1) by decide +kernel) (by unfold am_i32; omega) ?_
  refine s_sload rfl (show decode (am_cc mL) 340 = .ok (.iaload, 1) by decide +kernel) (by omega) (by rw [hn2]; omega) ?_
  refine s_aload_n (k0 := 0) (x := -2) (show decode (am_cc mL) 341 = .ok (.aload_n 0, 1) by decide +kernel) rfl ?_
  refine s_iload_n (k0 := 3) (x := i) (show decode (am_cc mL) 342 = .ok (.iload_n 3, 1) by decide +kernel) rfl ?_
  refine s_iconst (show decode (am_cc mL) 343 = .ok (.iconst 3, 1) by decide +kernel) (by unfold am_i32; omega) ?_
  refine s_iadd (show decode (am_cc mL) 344 = .ok (.iadd, 1) by decide +kernel) (by unfold am_i32; omega) ?_
  refine s_sload rfl (show decode (am_cc mL) 345 = .ok (.iaload, 1) by decide +kernel) (by omega) (by rw [hn2]; omega) ?_
  refine n_callV (as := [vi _, vi _, vi _]) (a := 86) (stk := [vi x]) (show decode (am_cc mL) 346 = .ok (.invokevirtual 32, 3) by decide +kernel) lk_RL_32 kdL86 (by decide) rfl rfl (by decide) (Nat.le_of_ble_eq_true rfl) ⟨rfl, rfl⟩ ?_
  try simp only [hn2]
  refine am_CallN_mono (fun r' M2 h2 => ?_) (am_CallN_neg (am_CallKS rfl h))
  obtain ⟨⟨rfl, hI2⟩, hn3⟩ := h2
  show am_At mL 349 _ [vi x, vi x] _ M2 Q
  exact s_icmp_eq (tgt := 1506) (show decode (am_cc mL) 349 = .ok (.if_icmp .eq 1157, 3) by decide +kernel) (by decide) (fun _ => k M2 hI2 (by rw [hn3 _ _ (by omega), hn2])) (fun q => absurd rfl q)
theorem L_4 (hI : Inv S M) (h0 : 0 ≤ i) (h6 : i + 6 ≤ M (-2) (-1)) (hL : M (-2) (-1) ≤ 3072) (k : ∀ M2, Inv S M2 → M2 (-2) (-1) = M (-2) (-1) → am_At mL 1506 [some (vr (-2)), some (vr 0), some (vr 86), some (vi i)] [] (SH, 113, 141272) M2 Q) : am_At mL 354 [some (vr (-2)), some (vr 0), some (vr 86), some (vi i)] [] (SH, 113, 141272) M Q := by
  refine s_aload_n (k0 := 1) (x := 0) (show decode (am_cc mL) 354 = .ok (.aload_n 1, 1) by decide +kernel) rfl ?_
  refine s_aload_n (k0 := 0) (x := -2) (show decode (am_cc mL) 355 = .ok (.aload_n 0, 1) by decide +kernel) rfl ?_
  refine s_iload_n (k0 := 3) (x := i) (show decode (am_cc mL) 356 = .ok (.iload_n 3, 1) by decide +kernel) rfl ?_
  refine s_iconst (show decode (am_cc mL) 357 = .ok (.iconst 1, 1) by decide +kernel) (by unfold am_i32; omega) ?_
  refine s_iadd (show decode (am_cc mL) 358 = .ok (.iadd, 1) by decide +kernel) (by unfold am_i32; omega) ?_
  refine s_sload rfl (show decode (am_cc mL) 359 = .ok (.iaload, 1) by decide +kernel) (by omega) (by omega) ?_
  refine s_aload_n (k0 := 0) (x := -2) (show decode (am_cc mL) 360 = .ok (.aload_n 0, 1) by decide +kernel) rfl ?_
  refine s_iload_n (k0 := 3) (x := i) (show decode (am_cc mL) 361 = .ok (.iload_n 3, 1) by decide +kernel) rfl ?_
  refine s_iconst (show decode (am_cc mL) 362 = .ok (.iconst 2, 1) by decide +kernel) (by unfold am_i32; omega) ?_
  refine s_iadd (show decode (am_cc mL) 363 = .ok (.iadd, 1) by decide +kernel) (by unfold am_i32; omega) ?_
  refine s_sload rfl (show decode (am_cc mL) 364 = .ok (.iaload, 1) by decide +kernel) (by omega) (by omega) ?_
  refine n_callV (as := [vi _, vi _]) (a := 0) (stk := []) (show decode (am_cc mL) 365 = .ok (.invokevirtual 33, 3) by decide +kernel) lk_RL_33 kdL0 (by decide) rfl rfl (by decide) (Nat.le_of_ble_eq_true rfl) ⟨rfl, rfl⟩ ?_
  refine am_CallN_mono (fun r M1 h => ?_) (am_CallN_neg (am_CallKS rfl (e_not hI)))
  obtain ⟨⟨h, hs⟩, hn⟩ := h
  obtain ⟨x, rfl⟩ := hs.1 rfl
  have hn2 : ∀ j : Int, M1 (-2) j = M (-2) j := fun j => hn _ j (by omega)
  show am_At mL 368 _ [vi x] _ M1 Q
  refine s_aload_n (k0 := 2) (x := 86) (show decode (am_cc mL) 368 = .ok (.aload_n 2, 1) by decide +kernel) rfl ?_
  refine s_aload_n (k0 := 0) (x := -2) (show decode (am_cc mL) 369 = .ok (.aload_n 0, 1) by decide +kernel) rfl ?_
  refine s_iload_n (k0 := 3) (x := i) (show decode (am_cc mL) 370 = .ok (.iload_n 3, 1) by decide +kernel) rfl ?_
  refine s_iconst (show decode (am_cc mL) 371 = .ok (.iconst 1, 1) by decide +kernel) (by unfold am_i32; omega) ?_
  refine s_iadd (show decode (am_cc mL) 372 = .ok (.iadd, 1) by decide +kernel) (by unfold am_i32; omega) ?_
  refine s_sload rfl (show decode (am_cc mL) 373 = .ok (.iaload, 1) by decide +kernel) (by omega) (by rw [hn2]; omega) ?_
  refine s_aload_n (k0 := 0) (x := -2) (show decode (am_cc mL) 374 = .ok (.aload_n 0, 1) by decide +kernel) rfl ?_
  refine s_iload_n (k0 := 3) (x := i) (show decode (am_cc mL) 375 = .ok (.iload_n 3, 1) by decide +kernel) rfl ?_
  refine s_iconst (show decode (am_cc mL) 376 = .ok (.iconst 2, 1) by decide +kernel) (by unfold am_i32; omega) ?_
  refine s_iadd (show decode (am_cc mL) 377 = .ok (.iadd, 1) by decide +kernel) (by unfold am_i32; omega) ?_
  refine s_sload rfl (show decode (am_cc mL) 378 = .ok (.iaload, 1) by decide +kernel) (by omega) (by rw [hn2]; omega) ?_
  refine n_callV (as := [vi _, vi _]) (a := 86) (stk := [vi x]) (show decode (am_cc mL) 379 = .ok (.invokevirtual 37, 3) by decide +kernel) lk_RL_37 kdL86 (by decide) rfl rfl (by decide) (Nat.le_of_ble_eq_true rfl) ⟨rfl, rfl⟩ ?_
  try simp only [hn2]
  refine am_CallN_mono (fun r' M2 h2 => ?_) (am_CallN_neg (am_CallKS rfl h))
  obtain ⟨⟨rfl, hI2⟩, hn3⟩ := h2
  show am_At mL 382 _ [vi x, vi x] _ M2 Q
  exact s_icmp_eq (tgt := 1506) (show decode (am_cc mL) 382 = .ok (.if_icmp .eq 1124, 3) by decide +kernel) (by decide) (fun _ => k M2 hI2 (by rw [hn3 _ _ (by omega), hn2])) (fun q => absurd rfl q)
theorem L_5 (hI : Inv S M) (h0 : 0 ≤ i) (h6 : i + 6 ≤ M (-2) (-1)) (hL : M (-2) (-1) ≤ 3072) (k : ∀ M2, Inv S M2 → M2 (-2) (-1) = M (-2) (-1) → am_At mL 1506 [some (vr (-2)), some (vr 0), some (vr 86), some (vi i)] [] (SH, 113, 141272) M2 Q) : am_At mL 387 [some (vr (-2)), some (vr 0), some (vr 86), some (vi i)] [] (SH, 113, 141272) M Q := by
  refine s_aload_n (k0 := 1) (x := 0) (show decode (am_cc mL) 387 = .ok (.aload_n 1, 1) by decide +kernel) rfl ?_
  refine s_aload_n (k0 := 0) (x := -2) (show decode (am_cc mL) 388 = .ok (.aload_n 0, 1) by decide +kernel) rfl ?_
  refine s_iload_n (k0 := 3) (x := i) (show decode (am_cc mL) 389 = .ok (.iload_n 3, 1) by decide +kernel) rfl ?_
  refine s_iconst (show decode (am_cc mL) 390 = .ok (.iconst 1, 1) by decide +kernel) (by unfold am_i32; omega) ?_
  refine s_iadd (show decode (am_cc mL) 391 = .ok (.iadd, 1) by decide +kernel) (by unfold am_i32; omega) ?_
  refine s_sload rfl (show decode (am_cc mL) 392 = .ok (.iaload, 1) by decide +kernel) (by omega) (by omega) ?_
  refine s_aload_n (k0 := 0) (x := -2) (show decode (am_cc mL) 393 = .ok (.aload_n 0, 1) by decide +kernel) rfl ?_
  refine s_iload_n (k0 := 3) (x := i) (show decode (am_cc mL) 394 = .ok (.iload_n 3, 1) by decide +kernel) rfl ?_
  refine s_iconst (show decode (am_cc mL) 395 = .ok (.iconst 2, 1) by decide +kernel) (by unfold am_i32; omega) ?_
  refine s_iadd (show decode (am_cc mL) 396 = .ok (.iadd, 1) by decide +kernel) (by unfold am_i32; omega) ?_
  refine s_sload rfl (show decode (am_cc mL) 397 = .ok (.iaload, 1) by decide +kernel) (by omega) (by omega) ?_
  refine s_aload_n (k0 := 0) (x := -2) (show decode (am_cc mL) 398 = .ok (.aload_n 0, 1) by decide +kernel) rfl ?_
  refine s_iload_n (k0 := 3) (x := i) (show decode (am_cc mL) 399 = .ok (.iload_n 3, 1) by decide +kernel) rfl ?_
  refine s_iconst (show decode (am_cc mL) 400 = .ok (.iconst 3, 1) by decide +kernel) (by unfold am_i32; omega) ?_
  refine s_iadd (show decode (am_cc mL) 401 = .ok (.iadd, 1) by decide +kernel) (by unfold am_i32; omega) ?_
  refine s_sload rfl (show decode (am_cc mL) 402 = .ok (.iaload, 1) by decide +kernel) (by omega) (by omega) ?_
  refine n_callV (as := [vi _, vi _, vi _]) (a := 0) (stk := []) (show decode (am_cc mL) 403 = .ok (.invokevirtual 38, 3) by decide +kernel) lk_RL_38 kdL0 (by decide) rfl rfl (by decide) (Nat.le_of_ble_eq_true rfl) ⟨rfl, rfl⟩ ?_
  refine am_CallN_mono (fun r M1 h => ?_) (am_CallN_neg (am_CallKS rfl (e_both hI)))
  obtain ⟨⟨h, hs⟩, hn⟩ := h
  obtain ⟨x, rfl⟩ := hs.1 rfl
  have hn2 : ∀ j : Int, M1 (-2) j = M (-2) j := fun j => hn _ j (by omega)
  show am_At mL 406 _ [vi x] _ M1 Q
  refine s_aload_n (k0 := 2) (x := 86) (show decode (am_cc mL) 406 = .ok (.aload_n 2, 1) by decide +kernel) rfl ?_
  refine s_aload_n (k0 := 0) (x := -2) (show decode (am_cc mL) 407 = .ok (.aload_n 0, 1) by decide +kernel) rfl ?_
  refine s_iload_n (k0 := 3) (x := i) (show decode (am_cc mL) 408 = .ok (.iload_n 3, 1) by decide +kernel) rfl ?_
  refine s_iconst (show decode (am_cc mL) 409 = .ok (.iconst 1, 1) by decide +kernel) (by unfold am_i32; omega) ?_
  refine s_iadd (show decode (am_cc mL) 410 = .ok (.iadd, 1) by decide +kernel) (by unfold am_i32; omega) ?_
  refine s_sload rfl (show decode (am_cc mL) 411 = .ok (.iaload, 1) by decide +kernel) (by omega) (by rw [hn2]; omega) ?_
  refine s_aload_n (k0 := 0) (x := -2) (show decode (am_cc mL) 412 = .ok (.aload_n 0, 1) by decide +kernel) rfl ?_
  refine s_iload_n (k0 := 3) (x := i) (show decode (am_cc mL) 413 = .ok (.iload_n 3, 1) by decide +kernel) rfl ?_
  refine s_iconst (show decode (am_cc mL) 414 = .ok (.iconst 2, 1) by decide +kernel) (by unfold am_i32; omega) ?_
  refine s_iadd (show decode (am_cc mL) 415 = .ok (.iadd, 1) by decide +kernel) (by unfold am_i32; omega) ?_
  refine s_sload rfl (show decode (am_cc mL) 416 = .ok (.iaload, 1) by decide +kernel) (by omega) (by rw [hn2]; omega) ?_
  refine s_aload_n (k0 := 0) (x := -2) (show decode (am_cc mL) 417 = .ok (.aload_n 0, 1) by decide +kernel) rfl ?_
  refine s_iload_n (k0 := 3) (x := i) (show decode (am_cc mL) 418 = .ok (.iload_n 3, 1) by decide +kernel) rfl ?_
  refine s_iconst (show decode (am_cc mL) 419 = .ok (.iconst 3, 1) by decide +kernel) (by unfold am_i32; omega) ?_
  refine s_iadd (show decode (am_cc mL) 420 = .ok (.iadd, 1) by decide +kernel) (by unfold am_i32; omega) ?_
  refine s_sload rfl (show decode (am_cc mL) 421 = .ok (.iaload, 1) by decide +kernel) (by omega) (by rw [hn2]; omega) ?_
  refine n_callV (as := [vi _, vi _, vi _]) (a := 86) (stk := [vi x]) (show decode (am_cc mL) 422 = .ok (.invokevirtual 41, 3) by decide +kernel) lk_RL_41 kdL86 (by decide) rfl rfl (by decide) (Nat.le_of_ble_eq_true rfl) ⟨rfl, rfl⟩ ?_
  try simp only [hn2]
  refine am_CallN_mono (fun r' M2 h2 => ?_) (am_CallN_neg (am_CallKS rfl h))
  obtain ⟨⟨rfl, hI2⟩, hn3⟩ := h2
  show am_At mL 425 _ [vi x, vi x] _ M2 Q
  exact s_icmp_eq (tgt := 1506) (show decode (am_cc mL) 425 = .ok (.if_icmp .eq 1081, 3) by decide +kernel) (by decide) (fun _ => k M2 hI2 (by rw [hn3 _ _ (by omega), hn2])) (fun q => absurd rfl q)
theorem L_6 (hI : Inv S M) (h0 : 0 ≤ i) (h6 : i + 6 ≤ M (-2) (-1)) (hL : M (-2) (-1) ≤ 3072) (k : ∀ M2, Inv S M2 → M2 (-2) (-1) = M (-2) (-1) → am_At mL 1506 [some (vr (-2)), some (vr 0), some (vr 86), some (vi i)] [] (SH, 113, 141272) M2 Q) : am_At mL 430 [some (vr (-2)), some (vr 0), some (vr 86), some (vi i)] [] (SH, 113, 141272) M Q := by
  refine s_aload_n (k0 := 1) (x := 0) (show decode (am_cc mL) 430 = .ok (.aload_n 1, 1) by decide +kernel) rfl ?_
  refine s_aload_n (k0 := 0) (x := -2) (show decode (am_cc mL) 431 = .ok (.aload_n 0, 1) by decide +kernel) rfl ?_
  refine s_iload_n (k0 := 3) (x := i) (show decode (am_cc mL) 432 = .ok (.iload_n 3, 1) by decide +kernel) rfl ?_
  refine s_iconst (show decode (am_cc mL) 433 = .ok (.iconst 1, 1) by decide +kernel) (by unfold am_i32; omega) ?_
  refine s_iadd (show decode (am_cc mL) 434 = .ok (.iadd, 1) by decide +kernel) (by unfold am_i32; omega) ?_
  refine s_sload rfl (show decode (am_cc mL) 435 = .ok (.iaload, 1) by decide +kernel) (by omega) (by omega) ?_
  refine s_aload_n (k0 := 0) (x := -2) (show decode (am_cc mL) 436 = .ok (.aload_n 0, 1) by decide +kernel) rfl ?_
  refine s_iload_n (k0 := 3) (x := i) (show decode (am_cc mL) 437 = .ok (.iload_n 3, 1) by decide +kernel) rfl ?_
  refine s_iconst (show decode (am_cc mL) 438 = .ok (.iconst 2, 1) by decide +kernel) (by unfold am_i32; omega) ?_
  refine s_iadd (show decode (am_cc mL) 439 = .ok (.iadd, 1) by decide +kernel) (by unfold am_i32; omega) ?_
  refine s_sload rfl (show decode (am_cc mL) 440 = .ok (.iaload, 1) by decide +kernel) (by omega) (by omega) ?_
  refine s_aload_n (k0 := 0) (x := -2) (show decode (am_cc mL) 441 = .ok (.aload_n 0, 1) by decide +kernel) rfl ?_
  refine s_iload_n (k0 := 3) (x := i) (show decode (am_cc mL) 442 = .ok (.iload_n 3, 1) by decide +kernel) rfl ?_
  refine s_iconst (show decode (am_cc mL) 443 = .ok (.iconst 3, 1) by decide +kernel) (by unfold am_i32; omega) ?_
  refine s_iadd (show decode (am_cc mL) 444 = .ok (.iadd, 1) by decide +kernel) (by unfold am_i32; omega) ?_
  refine s_sload rfl (show decode (am_cc mL) 445 = .ok (.iaload, 1) by decide +kernel) (by omega) (by omega) ?_
  refine n_callV (as := [vi _, vi _, vi _]) (a := 0) (stk := []) (show decode (am_cc mL) 446 = .ok (.invokevirtual 42, 3) by decide +kernel) lk_RL_42 kdL0 (by decide) rfl rfl (by decide) (Nat.le_of_ble_eq_true rfl) ⟨rfl, rfl⟩ ?_
  refine am_CallN_mono (fun r M1 h => ?_) (am_CallN_neg (am_CallKS rfl (e_about hI)))
  obtain ⟨⟨h, hs⟩, hn⟩ := h
  obtain ⟨x, rfl⟩ := hs.1 rfl
  have hn2 : ∀ j : Int, M1 (-2) j = M (-2) j := fun j => hn _ j (by omega)
  show am_At mL 449 _ [vi x] _ M1 Q
  refine s_aload_n (k0 := 2) (x := 86) (show decode (am_cc mL) 449 = .ok (.aload_n 2, 1) by decide +kernel) rfl ?_
  refine s_aload_n (k0 := 0) (x := -2) (show decode (am_cc mL) 450 = .ok (.aload_n 0, 1) by decide +kernel) rfl ?_
  refine s_iload_n (k0 := 3) (x := i) (show decode (am_cc mL) 451 = .ok (.iload_n 3, 1) by decide +kernel) rfl ?_
  refine s_iconst (show decode (am_cc mL) 452 = .ok (.iconst 1, 1) by decide +kernel) (by unfold am_i32; omega) ?_
  refine s_iadd (show decode (am_cc mL) 453 = .ok (.iadd, 1) by decide +kernel) (by unfold am_i32; omega) ?_
  refine s_sload rfl (show decode (am_cc mL) 454 = .ok (.iaload, 1) by decide +kernel) (by omega) (by rw [hn2]; omega) ?_
  refine s_aload_n (k0 := 0) (x := -2) (show decode (am_cc mL) 455 = .ok (.aload_n 0, 1) by decide +kernel) rfl ?_
  refine s_iload_n (k0 := 3) (x := i) (show decode (am_cc mL) 456 = .ok (.iload_n 3, 1) by decide +kernel) rfl ?_
  refine s_iconst (show decode (am_cc mL) 457 = .ok (.iconst 2, 1) by decide +kernel) (by unfold am_i32; omega) ?_
  refine s_iadd (show decode (am_cc mL) 458 = .ok (.iadd, 1) by decide +kernel) (by unfold am_i32; omega) ?_
  refine s_sload rfl (show decode (am_cc mL) 459 = .ok (.iaload, 1) by decide +kernel) (by omega) (by rw [hn2]; omega) ?_
  refine s_aload_n (k0 := 0) (x := -2) (show decode (am_cc mL) 460 = .ok (.aload_n 0, 1) by decide +kernel) rfl ?_
  refine s_iload_n (k0 := 3) (x := i) (show decode (am_cc mL) 461 = .ok (.iload_n 3, 1) by decide +kernel) rfl ?_
  refine s_iconst (show decode (am_cc mL) 462 = .ok (.iconst 3, 1) by decide +kernel) (by unfold am_i32; omega) ?_
  refine s_iadd (show decode (am_cc mL) 463 = .ok (.iadd, 1) by decide +kernel) (by unfold am_i32; omega) ?_
  refine s_sload rfl (show decode (am_cc mL) 464 = .ok (.iaload, 1) by decide +kernel) (by omega) (by rw [hn2]; omega) ?_
  refine n_callV (as := [vi _, vi _, vi _]) (a := 86) (stk := [vi x]) (show decode (am_cc mL) 465 = .ok (.invokevirtual 45, 3) by decide +kernel) lk_RL_45 kdL86 (by decide) rfl rfl (by decide) (Nat.le_of_ble_eq_true rfl) ⟨rfl, rfl⟩ ?_
  try simp only [hn2]
  refine am_CallN_mono (fun r' M2 h2 => ?_) (am_CallN_neg (am_CallKS rfl h))
  obtain ⟨⟨rfl, hI2⟩, hn3⟩ := h2
  show am_At mL 468 _ [vi x, vi x] _ M2 Q
  exact s_icmp_eq (tgt := 1506) (show decode (am_cc mL) 468 = .ok (.if_icmp .eq 1038, 3) by decide +kernel) (by decide) (fun _ => k M2 hI2 (by rw [hn3 _ _ (by omega), hn2])) (fun q => absurd rfl q)
theorem L_7 (hI : Inv S M) (h0 : 0 ≤ i) (h6 : i + 6 ≤ M (-2) (-1)) (hL : M (-2) (-1) ≤ 3072) (k : ∀ M2, Inv S M2 → M2 (-2) (-1) = M (-2) (-1) → am_At mL 1506 [some (vr (-2)), some (vr 0), some (vr 86), some (vi i)] [] (SH, 113, 141272) M2 Q) : am_At mL 473 [some (vr (-2)), some (vr 0), some (vr 86), some (vi i)] [] (SH, 113, 141272) M Q := by
  refine s_aload_n (k0 := 1) (x := 0) (show decode (am_cc mL) 473 = .ok (.aload_n 1, 1) by decide +kernel) rfl ?_
  refine s_aload_n (k0 := 0) (x := -2) (show decode (am_cc mL) 474 = .ok (.aload_n 0, 1) by decide +kernel) rfl ?_
  refine s_iload_n (k0 := 3) (x := i) (show decode (am_cc mL) 475 = .ok (.iload_n 3, 1) by decide +kernel) rfl ?_
  refine s_iconst (show decode (am_cc mL) 476 = .ok (.iconst 1, 1) by decide +kernel) (by unfold am_i32; omega) ?_
  refine s_iadd (show decode (am_cc mL) 477 = .ok (.iadd, 1) by decide +kernel) (by unfold am_i32; omega) ?_
  refine s_sload rfl (show decode (am_cc mL) 478 = .ok (.iaload, 1) by decide +kernel) (by omega) (by omega) ?_
  refine s_aload_n (k0 := 0) (x := -2) (show decode (am_cc mL) 479 = .ok (.aload_n 0, 1) by decide +kernel) rfl ?_
  refine s_iload_n (k0 := 3) (x := i) (show decode (am_cc mL) 480 = .ok (.iload_n 3, 1) by decide +kernel) rfl ?_
  refine s_iconst (show decode (am_cc mL) 481 = .ok (.iconst 2, 1) by decide +kernel) (by unfold am_i32; omega) ?_
  refine s_iadd (show decode (am_cc mL) 482 = .ok (.iadd, 1) by decide +kernel) (by unfold am_i32; omega) ?_
  refine s_sload rfl (show decode (am_cc mL) 483 = .ok (.iaload, 1) by decide +kernel) (by omega) (by omega) ?_
  refine s_aload_n (k0 := 0) (x := -2) (show decode (am_cc mL) 484 = .ok (.aload_n 0, 1) by decide +kernel) rfl ?_
  refine s_iload_n (k0 := 3) (x := i) (show decode (am_cc mL) 485 = .ok (.iload_n 3, 1) by decide +kernel) rfl ?_
  refine s_iconst (show decode (am_cc mL) 486 = .ok (.iconst 3, 1) by decide +kernel) (by unfold am_i32; omega) ?_
  refine s_iadd (show decode (am_cc mL) 487 = .ok (.iadd, 1) by decide +kernel) (by unfold am_i32; omega) ?_
  refine s_sload rfl (show decode (am_cc mL) 488 = .ok (.iaload, 1) by decide +kernel) (by omega) (by omega) ?_
  refine s_aload_n (k0 := 0) (x := -2) (show decode (am_cc mL) 489 = .ok (.aload_n 0, 1) by decide +kernel) rfl ?_
  refine s_iload_n (k0 := 3) (x := i) (show decode (am_cc mL) 490 = .ok (.iload_n 3, 1) by decide +kernel) rfl ?_
  refine s_iconst (show decode (am_cc mL) 491 = .ok (.iconst 4, 1) by decide +kernel) (by unfold am_i32; omega) ?_
  refine s_iadd (show decode (am_cc mL) 492 = .ok (.iadd, 1) by decide +kernel) (by unfold am_i32; omega) ?_
  refine s_sload rfl (show decode (am_cc mL) 493 = .ok (.iaload, 1) by decide +kernel) (by omega) (by omega) ?_
  refine s_aload_n (k0 := 0) (x := -2) (show decode (am_cc mL) 494 = .ok (.aload_n 0, 1) by decide +kernel) rfl ?_
  refine s_iload_n (k0 := 3) (x := i) (show decode (am_cc mL) 495 = .ok (.iload_n 3, 1) by decide +kernel) rfl ?_
  refine s_iconst (show decode (am_cc mL) 496 = .ok (.iconst 5, 1) by decide +kernel) (by unfold am_i32; omega) ?_
  refine s_iadd (show decode (am_cc mL) 497 = .ok (.iadd, 1) by decide +kernel) (by unfold am_i32; omega) ?_
  refine s_sload rfl (show decode (am_cc mL) 498 = .ok (.iaload, 1) by decide +kernel) (by omega) (by omega) ?_
  refine n_callV (as := [vi _, vi _, vi _, vi _, vi _]) (a := 0) (stk := []) (show decode (am_cc mL) 499 = .ok (.invokevirtual 46, 3) by decide +kernel) lk_RL_46 kdL0 (by decide) rfl rfl (by decide) (Nat.le_of_ble_eq_true rfl) ⟨rfl, rfl⟩ ?_
  refine am_CallN_mono (fun r M1 h => ?_) (am_CallN_neg (am_CallKS rfl (e_spot hI)))
  obtain ⟨⟨h, hs⟩, hn⟩ := h
  obtain ⟨x, rfl⟩ := hs.1 rfl
  have hn2 : ∀ j : Int, M1 (-2) j = M (-2) j := fun j => hn _ j (by omega)
  show am_At mL 502 _ [vi x] _ M1 Q
  refine s_aload_n (k0 := 2) (x := 86) (show decode (am_cc mL) 502 = .ok (.aload_n 2, 1) by decide +kernel) rfl ?_
  refine s_aload_n (k0 := 0) (x := -2) (show decode (am_cc mL) 503 = .ok (.aload_n 0, 1) by decide +kernel) rfl ?_
  refine s_iload_n (k0 := 3) (x := i) (show decode (am_cc mL) 504 = .ok (.iload_n 3, 1) by decide +kernel) rfl ?_
  refine s_iconst (show decode (am_cc mL) 505 = .ok (.iconst 1, 1) by decide +kernel) (by unfold am_i32; omega) ?_
  refine s_iadd (show decode (am_cc mL) 506 = .ok (.iadd, 1) by decide +kernel) (by unfold am_i32; omega) ?_
  refine s_sload rfl (show decode (am_cc mL) 507 = .ok (.iaload, 1) by decide +kernel) (by omega) (by rw [hn2]; omega) ?_
  refine s_aload_n (k0 := 0) (x := -2) (show decode (am_cc mL) 508 = .ok (.aload_n 0, 1) by decide +kernel) rfl ?_
  refine s_iload_n (k0 := 3) (x := i) (show decode (am_cc mL) 509 = .ok (.iload_n 3, 1) by decide +kernel) rfl ?_
  refine s_iconst (show decode (am_cc mL) 510 = .ok (.iconst 2, 1) by decide +kernel) (by unfold am_i32; omega) ?_
  refine s_iadd (show decode (am_cc mL) 511 = .ok (.iadd, 1) by decide +kernel) (by unfold am_i32; omega) ?_
  refine s_sload rfl (show decode (am_cc mL) 512 = .ok (.iaload, 1) by decide +kernel) (by omega) (by rw [hn2]; omega) ?_
  refine s_aload_n (k0 := 0) (x := -2) (show decode (am_cc mL) 513 = .ok (.aload_n 0, 1) by decide +kernel) rfl ?_
  refine s_iload_n (k0 := 3) (x := i) (show decode (am_cc mL) 514 = .ok (.iload_n 3, 1) by decide +kernel) rfl ?_
  refine s_iconst (show decode (am_cc mL) 515 = .ok (.iconst 3, 1) by decide +kernel) (by unfold am_i32; omega) ?_
  refine s_iadd (show decode (am_cc mL) 516 = .ok (.iadd, 1) by decide +kernel) (by unfold am_i32; omega) ?_
  refine s_sload rfl (show decode (am_cc mL) 517 = .ok (.iaload, 1) by decide +kernel) (by omega) (by rw [hn2]; omega) ?_
  refine s_aload_n (k0 := 0) (x := -2) (show decode (am_cc mL) 518 = .ok (.aload_n 0, 1) by decide +kernel) rfl ?_
  refine s_iload_n (k0 := 3) (x := i) (show decode (am_cc mL) 519 = .ok (.iload_n 3, 1) by decide +kernel) rfl ?_
  refine s_iconst (show decode (am_cc mL) 520 = .ok (.iconst 4, 1) by decide +kernel) (by unfold am_i32; omega) ?_
  refine s_iadd (show decode (am_cc mL) 521 = .ok (.iadd, 1) by decide +kernel) (by unfold am_i32; omega) ?_
  refine s_sload rfl (show decode (am_cc mL) 522 = .ok (.iaload, 1) by decide +kernel) (by omega) (by rw [hn2]; omega) ?_
  refine s_aload_n (k0 := 0) (x := -2) (show decode (am_cc mL) 523 = .ok (.aload_n 0, 1) by decide +kernel) rfl ?_
  refine s_iload_n (k0 := 3) (x := i) (show decode (am_cc mL) 524 = .ok (.iload_n 3, 1) by decide +kernel) rfl ?_
  refine s_iconst (show decode (am_cc mL) 525 = .ok (.iconst 5, 1) by decide +kernel) (by unfold am_i32; omega) ?_
  refine s_iadd (show decode (am_cc mL) 526 = .ok (.iadd, 1) by decide +kernel) (by unfold am_i32; omega) ?_
  refine s_sload rfl (show decode (am_cc mL) 527 = .ok (.iaload, 1) by decide +kernel) (by omega) (by rw [hn2]; omega) ?_
  refine n_callV (as := [vi _, vi _, vi _, vi _, vi _]) (a := 86) (stk := [vi x]) (show decode (am_cc mL) 528 = .ok (.invokevirtual 50, 3) by decide +kernel) lk_RL_50 kdL86 (by decide) rfl rfl (by decide) (Nat.le_of_ble_eq_true rfl) ⟨rfl, rfl⟩ ?_
  try simp only [hn2]
  refine am_CallN_mono (fun r' M2 h2 => ?_) (am_CallN_neg (am_CallKS rfl h))
  obtain ⟨⟨rfl, hI2⟩, hn3⟩ := h2
  show am_At mL 531 _ [vi x, vi x] _ M2 Q
  exact s_icmp_eq (tgt := 1506) (show decode (am_cc mL) 531 = .ok (.if_icmp .eq 975, 3) by decide +kernel) (by decide) (fun _ => k M2 hI2 (by rw [hn3 _ _ (by omega), hn2])) (fun q => absurd rfl q)
theorem L_8 (hI : Inv S M) (h0 : 0 ≤ i) (h6 : i + 6 ≤ M (-2) (-1)) (hL : M (-2) (-1) ≤ 3072) (k : ∀ M2, Inv S M2 → M2 (-2) (-1) = M (-2) (-1) → am_At mL 1506 [some (vr (-2)), some (vr 0), some (vr 86), some (vi i)] [] (SH, 113, 141272) M2 Q) : am_At mL 536 [some (vr (-2)), some (vr 0), some (vr 86), some (vi i)] [] (SH, 113, 141272) M Q := by
  refine s_aload_n (k0 := 1) (x := 0) (show decode (am_cc mL) 536 = .ok (.aload_n 1, 1) by decide +kernel) rfl ?_
  refine s_aload_n (k0 := 0) (x := -2) (show decode (am_cc mL) 537 = .ok (.aload_n 0, 1) by decide +kernel) rfl ?_
  refine s_iload_n (k0 := 3) (x := i) (show decode (am_cc mL) 538 = .ok (.iload_n 3, 1) by decide +kernel) rfl ?_
  refine s_iconst (show decode (am_cc mL) 539 = .ok (.iconst 1, 1) by decide +kernel) (by unfold am_i32; omega) ?_
  refine s_iadd (show decode (am_cc mL) 540 = .ok (.iadd, 1) by decide +kernel) (by unfold am_i32; omega) ?_
  refine s_sload rfl (show decode (am_cc mL) 541 = .ok (.iaload, 1) by decide +kernel) (by omega) (by omega) ?_
  refine s_aload_n (k0 := 0) (x := -2) (show decode (am_cc mL) 542 = .ok (.aload_n 0, 1) by decide +kernel) rfl ?_
  refine s_iload_n (k0 := 3) (x := i) (show decode (am_cc mL) 543 = .ok (.iload_n 3, 1) by decide +kernel) rfl ?_
  refine s_iconst (show decode (am_cc mL) 544 = .ok (.iconst 2, 1) by decide +kernel) (by unfold am_i32; omega) ?_
  refine s_iadd (show decode (am_cc mL) 545 = .ok (.iadd, 1) by decide +kernel) (by unfold am_i32; omega) ?_
  refine s_sload rfl (show decode (am_cc mL) 546 = .ok (.iaload, 1) by decide +kernel) (by omega) (by omega) ?_
  refine s_aload_n (k0 := 0) (x := -2) (show decode (am_cc mL) 547 = .ok (.aload_n 0, 1) by decide +kernel) rfl ?_
  refine s_iload_n (k0 := 3) (x := i) (show decode (am_cc mL) 548 = .ok (.iload_n 3, 1) by decide +kernel) rfl ?_
  refine s_iconst (show decode (am_cc mL) 549 = .ok (.iconst 3, 1) by decide +kernel) (by unfold am_i32; omega) ?_
  refine s_iadd (show decode (am_cc mL) 550 = .ok (.iadd, 1) by decide +kernel) (by unfold am_i32; omega) ?_
  refine s_sload rfl (show decode (am_cc mL) 551 = .ok (.iaload, 1) by decide +kernel) (by omega) (by omega) ?_
  refine n_callV (as := [vi _, vi _, vi _]) (a := 0) (stk := []) (show decode (am_cc mL) 552 = .ok (.invokevirtual 51, 3) by decide +kernel) lk_RL_51 kdL0 (by decide) rfl rfl (by decide) (Nat.le_of_ble_eq_true rfl) ⟨rfl, rfl⟩ ?_
  refine am_CallN_mono (fun r M1 h => ?_) (am_CallN_neg (am_CallKS rfl (e_end hI)))
  obtain ⟨⟨h, hs⟩, hn⟩ := h
  obtain ⟨x, rfl⟩ := hs.1 rfl
  have hn2 : ∀ j : Int, M1 (-2) j = M (-2) j := fun j => hn _ j (by omega)
  show am_At mL 555 _ [vi x] _ M1 Q
  refine s_aload_n (k0 := 2) (x := 86) (show decode (am_cc mL) 555 = .ok (.aload_n 2, 1) by decide +kernel) rfl ?_
  refine s_aload_n (k0 := 0) (x := -2) (show decode (am_cc mL) 556 = .ok (.aload_n 0, 1) by decide +kernel) rfl ?_
  refine s_iload_n (k0 := 3) (x := i) (show decode (am_cc mL) 557 = .ok (.iload_n 3, 1) by decide +kernel) rfl ?_
  refine s_iconst (show decode (am_cc mL) 558 = .ok (.iconst 1, 1) by decide +kernel) (by unfold am_i32; omega) ?_
  refine s_iadd (show decode (am_cc mL) 559 = .ok (.iadd, 1) by decide +kernel) (by unfold am_i32; omega) ?_
  refine s_sload rfl (show decode (am_cc mL) 560 = .ok (.iaload, 1) by decide +kernel) (by omega) (by rw [hn2]; omega) ?_
  refine s_aload_n (k0 := 0) (x := -2) (show decode (am_cc mL) 561 = .ok (.aload_n 0, 1) by decide +kernel) rfl ?_
  refine s_iload_n (k0 := 3) (x := i) (show decode (am_cc mL) 562 = .ok (.iload_n 3, 1) by decide +kernel) rfl ?_
  refine s_iconst (show decode (am_cc mL) 563 = .ok (.iconst 2, 1) by decide +kernel) (by unfold am_i32; omega) ?_
  refine s_iadd (show decode (am_cc mL) 564 = .ok (.iadd, 1) by decide +kernel) (by unfold am_i32; omega) ?_
  refine s_sload rfl (show decode (am_cc mL) 565 = .ok (.iaload, 1) by decide +kernel) (by omega) (by rw [hn2]; omega) ?_
  refine s_aload_n (k0 := 0) (x := -2) (show decode (am_cc mL) 566 = .ok (.aload_n 0, 1) by decide +kernel) rfl ?_
  refine s_iload_n (k0 := 3) (x := i) (show decode (am_cc mL) 567 = .ok (.iload_n 3, 1) by decide +kernel) rfl ?_
  refine s_iconst (show decode (am_cc mL) 568 = .ok (.iconst 3, 1) by decide +kernel) (by unfold am_i32; omega) ?_
  refine s_iadd (show decode (am_cc mL) 569 = .ok (.iadd, 1) by decide +kernel) (by unfold am_i32; omega) ?_
  refine s_sload rfl (show decode (am_cc mL) 570 = .ok (.iaload, 1) by decide +kernel) (by omega) (by rw [hn2]; omega) ?_
  refine n_callV (as := [vi _, vi _, vi _]) (a := 86) (stk := [vi x]) (show decode (am_cc mL) 571 = .ok (.invokevirtual 54, 3) by decide +kernel) lk_RL_54 kdL86 (by decide) rfl rfl (by decide) (Nat.le_of_ble_eq_true rfl) ⟨rfl, rfl⟩ ?_
  try simp only [hn2]
  refine am_CallN_mono (fun r' M2 h2 => ?_) (am_CallN_neg (am_CallKS rfl h))
  obtain ⟨⟨rfl, hI2⟩, hn3⟩ := h2
  show am_At mL 574 _ [vi x, vi x] _ M2 Q
  exact s_icmp_eq (tgt := 1506) (show decode (am_cc mL) 574 = .ok (.if_icmp .eq 932, 3) by decide +kernel) (by decide) (fun _ => k M2 hI2 (by rw [hn3 _ _ (by omega), hn2])) (fun q => absurd rfl q)
theorem L_9 (hI : Inv S M) (h0 : 0 ≤ i) (h6 : i + 6 ≤ M (-2) (-1)) (hL : M (-2) (-1) ≤ 3072) (k : ∀ M2, Inv S M2 → M2 (-2) (-1) = M (-2) (-1) → am_At mL 1506 [some (vr (-2)), some (vr 0), some (vr 86), some (vi i)] [] (SH, 113, 141272) M2 Q) : am_At mL 579 [some (vr (-2)), some (vr 0), some (vr 86), some (vi i)] [] (SH, 113, 141272) M Q := by
  refine s_aload_n (k0 := 1) (x := 0) (show decode (am_cc mL) 579 = .ok (.aload_n 1, 1) by decide +kernel) rfl ?_
  refine s_aload_n (k0 := 0) (x := -2) (show decode (am_cc mL) 580 = .ok (.aload_n 0, 1) by decide +kernel) rfl ?_
  refine s_iload_n (k0 := 3) (x := i) (show decode (am_cc mL) 581 = .ok (.iload_n 3, 1) by decide +kernel) rfl ?_
  refine s_iconst (show decode (am_cc mL) 582 = .ok (.iconst 1, 1) by decide +kernel) (by unfold am_i32; omega) ?_
  refine s_iadd (show decode (am_cc mL) 583 = .ok (.iadd, 1) by decide +kernel) (by unfold am_i32; omega) ?_
  refine s_sload rfl (show decode (am_cc mL) 584 = .ok (.iaload, 1) by decide +kernel) (by omega) (by omega) ?_
  refine s_aload_n (k0 := 0) (x := -2) (show decode (am_cc mL) 585 = .ok (.aload_n 0, 1) by decide +kernel) rfl ?_
  refine s_iload_n (k0 := 3) (x := i) (show decode (am_cc mL) 586 = .ok (.iload_n 3, 1) by decide +kernel) rfl ?_
  refine s_iconst (show decode (am_cc mL) 587 = .ok (.iconst 2, 1) by decide +kernel) (by unfold am_i32; omega) ?_
  refine s_iadd (show decode (am_cc mL) 588 = .ok (.iadd, 1) by decide +kernel) (by unfold am_i32; omega) ?_
  refine s_sload rfl (show decode (am_cc mL) 589 = .ok (.iaload, 1) by decide +kernel) (by omega) (by omega) ?_
  refine s_aload_n (k0 := 0) (x := -2) (show decode (am_cc mL) 590 = .ok (.aload_n 0, 1) by decide +kernel) rfl ?_
  refine s_iload_n (k0 := 3) (x := i) (show decode (am_cc mL) 591 = .ok (.iload_n 3, 1) by decide +kernel) rfl ?_
  refine s_iconst (show decode (am_cc mL) 592 = .ok (.iconst 3, 1) by decide +kernel) (by unfold am_i32; omega) ?_
  refine s_iadd (show decode (am_cc mL) 593 = .ok (.iadd, 1) by decide +kernel) (by unfold am_i32; omega) ?_
  refine s_sload rfl (show decode (am_cc mL) 594 = .ok (.iaload, 1) by decide +kernel) (by omega) (by omega) ?_
  refine s_aload_n (k0 := 0) (x := -2) (show decode (am_cc mL) 595 = .ok (.aload_n 0, 1) by decide +kernel) rfl ?_
  refine s_iload_n (k0 := 3) (x := i) (show decode (am_cc mL) 596 = .ok (.iload_n 3, 1) by decide +kernel) rfl ?_
  refine s_iconst (show decode (am_cc mL) 597 = .ok (.iconst 4, 1) by decide +kernel) (by unfold am_i32; omega) ?_
  refine s_iadd (show decode (am_cc mL) 598 = .ok (.iadd, 1) by decide +kernel) (by unfold am_i32; omega) ?_
  refine s_sload rfl (show decode (am_cc mL) 599 = .ok (.iaload, 1) by decide +kernel) (by omega) (by omega) ?_
  refine n_callV (as := [vi _, vi _, vi _, vi _]) (a := 0) (stk := []) (show decode (am_cc mL) 600 = .ok (.invokevirtual 55, 3) by decide +kernel) lk_RL_55 kdL0 (by decide) rfl rfl (by decide) (Nat.le_of_ble_eq_true rfl) ⟨rfl, rfl⟩ ?_
  refine am_CallN_mono (fun r M1 h => ?_) (am_CallN_neg (am_CallKS rfl (e_of hI)))
  obtain ⟨⟨h, hs⟩, hn⟩ := h
  obtain ⟨x, rfl⟩ := hs.1 rfl
  have hn2 : ∀ j : Int, M1 (-2) j = M (-2) j := fun j => hn _ j (by omega)
  show am_At mL 603 _ [vi x] _ M1 Q
  refine s_aload_n (k0 := 2) (x := 86) (show decode (am_cc mL) 603 = .ok (.aload_n 2, 1) by decide +kernel) rfl ?_
  refine s_aload_n (k0 := 0) (x := -2) (show decode (am_cc mL) 604 = .ok (.aload_n 0, 1) by decide +kernel) rfl ?_
  refine s_iload_n (k0 := 3) (x := i) (show decode (am_cc mL) 605 = .ok (.iload_n 3, 1) by decide +kernel) rfl ?_
  refine s_iconst (show decode (am_cc mL) 606 = .ok (.iconst 1, 1) by decide +kernel) (by unfold am_i32; omega) ?_
  refine s_iadd (show decode (am_cc mL) 607 = .ok (.iadd, 1) by decide +kernel) (by unfold am_i32; omega) ?_
  refine s_sload rfl (show decode (am_cc mL) 608 = .ok (.iaload, 1) by decide +kernel) (by omega) (by rw [hn2]; omega) ?_
  refine s_aload_n (k0 := 0) (x := -2) (show decode (am_cc mL) 609 = .ok (.aload_n 0, 1) by decide +kernel) rfl ?_
  refine s_iload_n (k0 := 3) (x := i) (show decode (am_cc mL) 610 = .ok (.iload_n 3, 1) by decide +kernel) rfl ?_
  refine s_iconst (show decode (am_cc mL) 611 = .ok (.iconst 2, 1) by decide +kernel) (by unfold am_i32; omega) ?_
  refine s_iadd (show decode (am_cc mL) 612 = .ok (.iadd, 1) by decide +kernel) (by unfold am_i32; omega) ?_
  refine s_sload rfl (show decode (am_cc mL) 613 = .ok (.iaload, 1) by decide +kernel) (by omega) (by rw [hn2]; omega) ?_
  refine s_aload_n (k0 := 0) (x := -2) (show decode (am_cc mL) 614 = .ok (.aload_n 0, 1) by decide +kernel) rfl ?_
  refine s_iload_n (k0 := 3) (x := i) (show decode (am_cc mL) 615 = .ok (.iload_n 3, 1) by decide +kernel) rfl ?_
  refine s_iconst (show decode (am_cc mL) 616 = .ok (.iconst 3, 1) by decide +kernel) (by unfold am_i32; omega) ?_
  refine s_iadd (show decode (am_cc mL) 617 = .ok (.iadd, 1) by decide +kernel) (by unfold am_i32; omega) ?_
  refine s_sload rfl (show decode (am_cc mL) 618 = .ok (.iaload, 1) by decide +kernel) (by omega) (by rw [hn2]; omega) ?_
  refine s_aload_n (k0 := 0) (x := -2) (show decode (am_cc mL) 619 = .ok (.aload_n 0, 1) by decide +kernel) rfl ?_
  refine s_iload_n (k0 := 3) (x := i) (show decode (am_cc mL) 620 = .ok (.iload_n 3, 1) by decide +kernel) rfl ?_
  refine s_iconst (show decode (am_cc mL) 621 = .ok (.iconst 4, 1) by decide +kernel) (by unfold am_i32; omega) ?_
  refine s_iadd (show decode (am_cc mL) 622 = .ok (.iadd, 1) by decide +kernel) (by unfold am_i32; omega) ?_
  refine s_sload rfl (show decode (am_cc mL) 623 = .ok (.iaload, 1) by decide +kernel) (by omega) (by rw [hn2]; omega) ?_
  refine n_callV (as := [vi _, vi _, vi _, vi _]) (a := 86) (stk := [vi x]) (show decode (am_cc mL) 624 = .ok (.invokevirtual 58, 3) by decide +kernel) lk_RL_58 kdL86 (by decide) rfl rfl (by decide) (Nat.le_of_ble_eq_true rfl) ⟨rfl, rfl⟩ ?_
  try simp only [hn2]
  refine am_CallN_mono (fun r' M2 h2 => ?_) (am_CallN_neg (am_CallKS rfl h))
  obtain ⟨⟨rfl, hI2⟩, hn3⟩ := h2
  show am_At mL 627 _ [vi x, vi x] _ M2 Q
  exact s_icmp_eq (tgt := 1506) (show decode (am_cc mL) 627 = .ok (.if_icmp .eq 879, 3) by decide +kernel) (by decide) (fun _ => k M2 hI2 (by rw [hn3 _ _ (by omega), hn2])) (fun q => absurd rfl q)
theorem L_10 (hI : Inv S M) (h0 : 0 ≤ i) (h6 : i + 6 ≤ M (-2) (-1)) (hL : M (-2) (-1) ≤ 3072) (k : ∀ M2, Inv S M2 → M2 (-2) (-1) = M (-2) (-1) → am_At mL 1506 [some (vr (-2)), some (vr 0), some (vr 86), some (vi i)] [] (SH, 113, 141272) M2 Q) : am_At mL 632 [some (vr (-2)), some (vr 0), some (vr 86), some (vi i)] [] (SH, 113, 141272) M Q := by
  refine s_aload_n (k0 := 1) (x := 0) (show decode (am_cc mL) 632 = .ok (.aload_n 1, 1) by decide +kernel) rfl ?_
  refine s_aload_n (k0 := 0) (x := -2) (show decode (am_cc mL) 633 = .ok (.aload_n 0, 1) by decide +kernel) rfl ?_
  refine s_iload_n (k0 := 3) (x := i) (show decode (am_cc mL) 634 = .ok (.iload_n 3, 1) by decide +kernel) rfl ?_
  refine s_iconst (show decode (am_cc mL) 635 = .ok (.iconst 1, 1) by decide +kernel) (by unfold am_i32; omega) ?_
  refine s_iadd (show decode (am_cc mL) 636 = .ok (.iadd, 1) by decide +kernel) (by unfold am_i32; omega) ?_
  refine s_sload rfl (show decode (am_cc mL) 637 = .ok (.iaload, 1) by decide +kernel) (by omega) (by omega) ?_
  refine s_aload_n (k0 := 0) (x := -2) (show decode (am_cc mL) 638 = .ok (.aload_n 0, 1) by decide +kernel) rfl ?_
  refine s_iload_n (k0 := 3) (x := i) (show decode (am_cc mL) 639 = .ok (.iload_n 3, 1) by decide +kernel) rfl ?_
  refine s_iconst (show decode (am_cc mL) 640 = .ok (.iconst 2, 1) by decide +kernel) (by unfold am_i32; omega) ?_
  refine s_iadd (show decode (am_cc mL) 641 = .ok (.iadd, 1) by decide +kernel) (by unfold am_i32; omega) ?_
  refine s_sload rfl (show decode (am_cc mL) 642 = .ok (.iaload, 1) by decide +kernel) (by omega) (by omega) ?_
  refine s_aload_n (k0 := 0) (x := -2) (show decode (am_cc mL) 643 = .ok (.aload_n 0, 1) by decide +kernel) rfl ?_
  refine s_iload_n (k0 := 3) (x := i) (show decode (am_cc mL) 644 = .ok (.iload_n 3, 1) by decide +kernel) rfl ?_
  refine s_iconst (show decode (am_cc mL) 645 = .ok (.iconst 3, 1) by decide +kernel) (by unfold am_i32; omega) ?_
  refine s_iadd (show decode (am_cc mL) 646 = .ok (.iadd, 1) by decide +kernel) (by unfold am_i32; omega) ?_
  refine s_sload rfl (show decode (am_cc mL) 647 = .ok (.iaload, 1) by decide +kernel) (by omega) (by omega) ?_
  refine s_aload_n (k0 := 0) (x := -2) (show decode (am_cc mL) 648 = .ok (.aload_n 0, 1) by decide +kernel) rfl ?_
  refine s_iload_n (k0 := 3) (x := i) (show decode (am_cc mL) 649 = .ok (.iload_n 3, 1) by decide +kernel) rfl ?_
  refine s_iconst (show decode (am_cc mL) 650 = .ok (.iconst 4, 1) by decide +kernel) (by unfold am_i32; omega) ?_
  refine s_iadd (show decode (am_cc mL) 651 = .ok (.iadd, 1) by decide +kernel) (by unfold am_i32; omega) ?_
  refine s_sload rfl (show decode (am_cc mL) 652 = .ok (.iaload, 1) by decide +kernel) (by omega) (by omega) ?_
  refine n_callV (as := [vi _, vi _, vi _, vi _]) (a := 0) (stk := []) (show decode (am_cc mL) 653 = .ok (.invokevirtual 59, 3) by decide +kernel) lk_RL_59 kdL0 (by decide) rfl rfl (by decide) (Nat.le_of_ble_eq_true rfl) ⟨rfl, rfl⟩ ?_
  refine am_CallN_mono (fun r M1 h => ?_) (am_CallN_neg (am_CallKS rfl (e_claim hI)))
  obtain ⟨⟨h, hs⟩, hn⟩ := h
  obtain ⟨x, rfl⟩ := hs.1 rfl
  have hn2 : ∀ j : Int, M1 (-2) j = M (-2) j := fun j => hn _ j (by omega)
  show am_At mL 656 _ [vi x] _ M1 Q
  refine s_aload_n (k0 := 2) (x := 86) (show decode (am_cc mL) 656 = .ok (.aload_n 2, 1) by decide +kernel) rfl ?_
  refine s_aload_n (k0 := 0) (x := -2) (show decode (am_cc mL) 657 = .ok (.aload_n 0, 1) by decide +kernel) rfl ?_
  refine s_iload_n (k0 := 3) (x := i) (show decode (am_cc mL) 658 = .ok (.iload_n 3, 1) by decide +kernel) rfl ?_
  refine s_iconst (show decode (am_cc mL) 659 = .ok (.iconst 1, 1) by decide +kernel) (by unfold am_i32; omega) ?_
  refine s_iadd (show decode (am_cc mL) 660 = .ok (.iadd, 1) by decide +kernel) (by unfold am_i32; omega) ?_
  refine s_sload rfl (show decode (am_cc mL) 661 = .ok (.iaload, 1) by decide +kernel) (by omega) (by rw [hn2]; omega) ?_
  refine s_aload_n (k0 := 0) (x := -2) (show decode (am_cc mL) 662 = .ok (.aload_n 0, 1) by decide +kernel) rfl ?_
  refine s_iload_n (k0 := 3) (x := i) (show decode (am_cc mL) 663 = .ok (.iload_n 3, 1) by decide +kernel) rfl ?_
  refine s_iconst (show decode (am_cc mL) 664 = .ok (.iconst 2, 1) by decide +kernel) (by unfold am_i32; omega) ?_
  refine s_iadd (show decode (am_cc mL) 665 = .ok (.iadd, 1) by decide +kernel) (by unfold am_i32; omega) ?_
  refine s_sload rfl (show decode (am_cc mL) 666 = .ok (.iaload, 1) by decide +kernel) (by omega) (by rw [hn2]; omega) ?_
  refine s_aload_n (k0 := 0) (x := -2) (show decode (am_cc mL) 667 = .ok (.aload_n 0, 1) by decide +kernel) rfl ?_
  refine s_iload_n (k0 := 3) (x := i) (show decode (am_cc mL) 668 = .ok (.iload_n 3, 1) by decide +kernel) rfl ?_
  refine s_iconst (show decode (am_cc mL) 669 = .ok (.iconst 3, 1) by decide +kernel) (by unfold am_i32; omega) ?_
  refine s_iadd (show decode (am_cc mL) 670 = .ok (.iadd, 1) by decide +kernel) (by unfold am_i32; omega) ?_
  refine s_sload rfl (show decode (am_cc mL) 671 = .ok (.iaload, 1) by decide +kernel) (by omega) (by rw [hn2]; omega) ?_
  refine s_aload_n (k0 := 0) (x := -2) (show decode (am_cc mL) 672 = .ok (.aload_n 0, 1) by decide +kernel) rfl ?_
  refine s_iload_n (k0 := 3) (x := i) (show decode (am_cc mL) 673 = .ok (.iload_n 3, 1) by decide +kernel) rfl ?_
  refine s_iconst (show decode (am_cc mL) 674 = .ok (.iconst 4, 1) by decide +kernel) (by unfold am_i32; omega) ?_
  refine s_iadd (show decode (am_cc mL) 675 = .ok (.iadd, 1) by decide +kernel) (by unfold am_i32; omega) ?_
  refine s_sload rfl (show decode (am_cc mL) 676 = .ok (.iaload, 1) by decide +kernel) (by omega) (by rw [hn2]; omega) ?_
  refine n_callV (as := [vi _, vi _, vi _, vi _]) (a := 86) (stk := [vi x]) (show decode (am_cc mL) 677 = .ok (.invokevirtual 62, 3) by decide +kernel) lk_RL_62 kdL86 (by decide) rfl rfl (by decide) (Nat.le_of_ble_eq_true rfl) ⟨rfl, rfl⟩ ?_
  try simp only [hn2]
  refine am_CallN_mono (fun r' M2 h2 => ?_) (am_CallN_neg (am_CallKS rfl h))
  obtain ⟨⟨rfl, hI2⟩, hn3⟩ := h2
  show am_At mL 680 _ [vi x, vi x] _ M2 Q
  exact s_icmp_eq (tgt := 1506) (show decode (am_cc mL) 680 = .ok (.if_icmp .eq 826, 3) by decide +kernel) (by decide) (fun _ => k M2 hI2 (by rw [hn3 _ _ (by omega), hn2])) (fun q => absurd rfl q)
theorem L_11 (hI : Inv S M) (h0 : 0 ≤ i) (h6 : i + 6 ≤ M (-2) (-1)) (hL : M (-2) (-1) ≤ 3072) (k : ∀ M2, Inv S M2 → M2 (-2) (-1) = M (-2) (-1) → am_At mL 1506 [some (vr (-2)), some (vr 0), some (vr 86), some (vi i)] [] (SH, 113, 141272) M2 Q) : am_At mL 685 [some (vr (-2)), some (vr 0), some (vr 86), some (vi i)] [] (SH, 113, 141272) M Q := by
  refine s_aload_n (k0 := 1) (x := 0) (show decode (am_cc mL) 685 = .ok (.aload_n 1, 1) by decide +kernel) rfl ?_
  refine s_aload_n (k0 := 0) (x := -2) (show decode (am_cc mL) 686 = .ok (.aload_n 0, 1) by decide +kernel) rfl ?_
  refine s_iload_n (k0 := 3) (x := i) (show decode (am_cc mL) 687 = .ok (.iload_n 3, 1) by decide +kernel) rfl ?_
  refine s_iconst (show decode (am_cc mL) 688 = .ok (.iconst 1, 1) by decide +kernel) (by unfold am_i32; omega) ?_
  refine s_iadd (show decode (am_cc mL) 689 = .ok (.iadd, 1) by decide +kernel) (by unfold am_i32; omega) ?_
  refine s_sload rfl (show decode (am_cc mL) 690 = .ok (.iaload, 1) by decide +kernel) (by omega) (by omega) ?_
  refine s_aload_n (k0 := 0) (x := -2) (show decode (am_cc mL) 691 = .ok (.aload_n 0, 1) by decide +kernel) rfl ?_
  refine s_iload_n (k0 := 3) (x := i) (show decode (am_cc mL) 692 = .ok (.iload_n 3, 1) by decide +kernel) rfl ?_
  refine s_iconst (show decode (am_cc mL) 693 = .ok (.iconst 2, 1) by decide +kernel) (by unfold am_i32; omega) ?_
  refine s_iadd (show decode (am_cc mL) 694 = .ok (.iadd, 1) by decide +kernel) (by unfold am_i32; omega) ?_
  refine s_sload rfl (show decode (am_cc mL) 695 = .ok (.iaload, 1) by decide +kernel) (by omega) (by omega) ?_
  refine s_aload_n (k0 := 0) (x := -2) (show decode (am_cc mL) 696 = .ok (.aload_n 0, 1) by decide +kernel) rfl ?_
  refine s_iload_n (k0 := 3) (x := i) (show decode (am_cc mL) 697 = .ok (.iload_n 3, 1) by decide +kernel) rfl ?_
  refine s_iconst (show decode (am_cc mL) 698 = .ok (.iconst 3, 1) by decide +kernel) (by unfold am_i32; omega) ?_
  refine s_iadd (show decode (am_cc mL) 699 = .ok (.iadd, 1) by decide +kernel) (by unfold am_i32; omega) ?_
  refine s_sload rfl (show decode (am_cc mL) 700 = .ok (.iaload, 1) by decide +kernel) (by omega) (by omega) ?_
  refine s_aload_n (k0 := 0) (x := -2) (show decode (am_cc mL) 701 = .ok (.aload_n 0, 1) by decide +kernel) rfl ?_
  refine s_iload_n (k0 := 3) (x := i) (show decode (am_cc mL) 702 = .ok (.iload_n 3, 1) by decide +kernel) rfl ?_
  refine s_iconst (show decode (am_cc mL) 703 = .ok (.iconst 4, 1) by decide +kernel) (by unfold am_i32; omega) ?_
  refine s_iadd (show decode (am_cc mL) 704 = .ok (.iadd, 1) by decide +kernel) (by unfold am_i32; omega) ?_
  refine s_sload rfl (show decode (am_cc mL) 705 = .ok (.iaload, 1) by decide +kernel) (by omega) (by omega) ?_
  refine s_aload_n (k0 := 0) (x := -2) (show decode (am_cc mL) 706 = .ok (.aload_n 0, 1) by decide +kernel) rfl ?_
  refine s_iload_n (k0 := 3) (x := i) (show decode (am_cc mL) 707 = .ok (.iload_n 3, 1) by decide +kernel) rfl ?_
  refine s_iconst (show decode (am_cc mL) 708 = .ok (.iconst 5, 1) by decide +kernel) (by unfold am_i32; omega) ?_
  refine s_iadd (show decode (am_cc mL) 709 = .ok (.iadd, 1) by decide +kernel) (by unfold am_i32; omega) ?_
  refine s_sload rfl (show decode (am_cc mL) 710 = .ok (.iaload, 1) by decide +kernel) (by omega) (by omega) ?_
  refine n_callV (as := [vi _, vi _, vi _, vi _, vi _]) (a := 0) (stk := []) (show decode (am_cc mL) 711 = .ok (.invokevirtual 63, 3) by decide +kernel) lk_RL_63 kdL0 (by decide) rfl rfl (by decide) (Nat.le_of_ble_eq_true rfl) ⟨rfl, rfl⟩ ?_
  refine am_CallN_mono (fun r M1 h => ?_) (am_CallN_neg (am_CallKS rfl (e_picture hI)))
  obtain ⟨⟨h, hs⟩, hn⟩ := h
  obtain ⟨x, rfl⟩ := hs.1 rfl
  have hn2 : ∀ j : Int, M1 (-2) j = M (-2) j := fun j => hn _ j (by omega)
  show am_At mL 714 _ [vi x] _ M1 Q
  refine s_aload_n (k0 := 2) (x := 86) (show decode (am_cc mL) 714 = .ok (.aload_n 2, 1) by decide +kernel) rfl ?_
  refine s_aload_n (k0 := 0) (x := -2) (show decode (am_cc mL) 715 = .ok (.aload_n 0, 1) by decide +kernel) rfl ?_
  refine s_iload_n (k0 := 3) (x := i) (show decode (am_cc mL) 716 = .ok (.iload_n 3, 1) by decide +kernel) rfl ?_
  refine s_iconst (show decode (am_cc mL) 717 = .ok (.iconst 1, 1) by decide +kernel) (by unfold am_i32; omega) ?_
  refine s_iadd (show decode (am_cc mL) 718 = .ok (.iadd, 1) by decide +kernel) (by unfold am_i32; omega) ?_
  refine s_sload rfl (show decode (am_cc mL) 719 = .ok (.iaload, 1) by decide +kernel) (by omega) (by rw [hn2]; omega) ?_
  refine s_aload_n (k0 := 0) (x := -2) (show decode (am_cc mL) 720 = .ok (.aload_n 0, 1) by decide +kernel) rfl ?_
  refine s_iload_n (k0 := 3) (x := i) (show decode (am_cc mL) 721 = .ok (.iload_n 3, 1) by decide +kernel) rfl ?_
  refine s_iconst (show decode (am_cc mL) 722 = .ok (.iconst 2, 1) by decide +kernel) (by unfold am_i32; omega) ?_
  refine s_iadd (show decode (am_cc mL) 723 = .ok (.iadd, 1) by decide +kernel) (by unfold am_i32; omega) ?_
  refine s_sload rfl (show decode (am_cc mL) 724 = .ok (.iaload, 1) by decide +kernel) (by omega) (by rw [hn2]; omega) ?_
  refine s_aload_n (k0 := 0) (x := -2) (show decode (am_cc mL) 725 = .ok (.aload_n 0, 1) by decide +kernel) rfl ?_
  refine s_iload_n (k0 := 3) (x := i) (show decode (am_cc mL) 726 = .ok (.iload_n 3, 1) by decide +kernel) rfl ?_
  refine s_iconst (show decode (am_cc mL) 727 = .ok (.iconst 3, 1) by decide +kernel) (by unfold am_i32; omega) ?_
  refine s_iadd (show decode (am_cc mL) 728 = .ok (.iadd, 1) by decide +kernel) (by unfold am_i32; omega) ?_
  refine s_sload rfl (show decode (am_cc mL) 729 = .ok (.iaload, 1) by decide +kernel) (by omega) (by rw [hn2]; omega) ?_
  refine s_aload_n (k0 := 0) (x := -2) (show decode (am_cc mL) 730 = .ok (.aload_n 0, 1) by decide +kernel) rfl ?_
  refine s_iload_n (k0 := 3) (x := i) (show decode (am_cc mL) 731 = .ok (.iload_n 3, 1) by decide +kernel) rfl ?_
  refine s_iconst (show decode (am_cc mL) 732 = .ok (.iconst 4, 1) by decide +kernel) (by unfold am_i32; omega) ?_
  refine s_iadd (show decode (am_cc mL) 733 = .ok (.iadd, 1) by decide +kernel) (by unfold am_i32; omega) ?_
  refine s_sload rfl (show decode (am_cc mL) 734 = .ok (.iaload, 1) by decide +kernel) (by omega) (by rw [hn2]; omega) ?_
  refine s_aload_n (k0 := 0) (x := -2) (show decode (am_cc mL) 735 = .ok (.aload_n 0, 1) by decide +kernel) rfl ?_
  refine s_iload_n (k0 := 3) (x := i) (show decode (am_cc mL) 736 = .ok (.iload_n 3, 1) by decide +kernel) rfl ?_
  refine s_iconst (show decode (am_cc mL) 737 = .ok (.iconst 5, 1) by decide +kernel) (by unfold am_i32; omega) ?_
  refine s_iadd (show decode (am_cc mL) 738 = .ok (.iadd, 1) by decide +kernel) (by unfold am_i32; omega) ?_
  refine s_sload rfl (show decode (am_cc mL) 739 = .ok (.iaload, 1) by decide +kernel) (by omega) (by rw [hn2]; omega) ?_
  refine n_callV (as := [vi _, vi _, vi _, vi _, vi _]) (a := 86) (stk := [vi x]) (show decode (am_cc mL) 740 = .ok (.invokevirtual 66, 3) by decide +kernel) lk_RL_66 kdL86 (by decide) rfl rfl (by decide) (Nat.le_of_ble_eq_true rfl) ⟨rfl, rfl⟩ ?_
  try simp only [hn2]
  refine am_CallN_mono (fun r' M2 h2 => ?_) (am_CallN_neg (am_CallKS rfl h))
  obtain ⟨⟨rfl, hI2⟩, hn3⟩ := h2
  show am_At mL 743 _ [vi x, vi x] _ M2 Q
  exact s_icmp_eq (tgt := 1506) (show decode (am_cc mL) 743 = .ok (.if_icmp .eq 763, 3) by decide +kernel) (by decide) (fun _ => k M2 hI2 (by rw [hn3 _ _ (by omega), hn2])) (fun q => absurd rfl q)
theorem L_12 (hI : Inv S M) (h0 : 0 ≤ i) (h6 : i + 6 ≤ M (-2) (-1)) (hL : M (-2) (-1) ≤ 3072) (k : ∀ M2, Inv S M2 → M2 (-2) (-1) = M (-2) (-1) → am_At mL 1506 [some (vr (-2)), some (vr 0), some (vr 86), some (vi i)] [] (SH, 113, 141272) M2 Q) : am_At mL 748 [some (vr (-2)), some (vr 0), some (vr 86), some (vi i)] [] (SH, 113, 141272) M Q := by
  refine s_aload_n (k0 := 1) (x := 0) (show decode (am_cc mL) 748 = .ok (.aload_n 1, 1) by decide +kernel) rfl ?_
  refine s_aload_n (k0 := 0) (x := -2) (show decode (am_cc mL) 749 = .ok (.aload_n 0, 1) by decide +kernel) rfl ?_
  refine s_iload_n (k0 := 3) (x := i) (show decode (am_cc mL) 750 = .ok (.iload_n 3, 1) by decide +kernel) rfl ?_
  refine s_iconst (show decode (am_cc mL) 751 = .ok (.iconst 1, 1) by decide +kernel) (by unfold am_i32; omega) ?_
  refine s_iadd (show decode (am_cc mL) 752 = .ok (.iadd, 1) by decide +kernel) (by unfold am_i32; omega) ?_
  refine s_sload rfl (show decode (am_cc mL) 753 = .ok (.iaload, 1) by decide +kernel) (by omega) (by omega) ?_
  refine s_aload_n (k0 := 0) (x := -2) (show decode (am_cc mL) 754 = .ok (.aload_n 0, 1) by decide +kernel) rfl ?_
  refine s_iload_n (k0 := 3) (x := i) (show decode (am_cc mL) 755 = .ok (.iload_n 3, 1) by decide +kernel) rfl ?_
  refine s_iconst (show decode (am_cc mL) 756 = .ok (.iconst 2, 1) by decide +kernel) (by unfold am_i32; omega) ?_
  refine s_iadd (show decode (am_cc mL) 757 = .ok (.iadd, 1) by decide +kernel) (by unfold am_i32; omega) ?_
  refine s_sload rfl (show decode (am_cc mL) 758 = .ok (.iaload, 1) by decide +kernel) (by omega) (by omega) ?_
  refine s_aload_n (k0 := 0) (x := -2) (show decode (am_cc mL) 759 = .ok (.aload_n 0, 1) by decide +kernel) rfl ?_
  refine s_iload_n (k0 := 3) (x := i) (show decode (am_cc mL) 760 = .ok (.iload_n 3, 1) by decide +kernel) rfl ?_
  refine s_iconst (show decode (am_cc mL) 761 = .ok (.iconst 3, 1) by decide +kernel) (by unfold am_i32; omega) ?_
  refine s_iadd (show decode (am_cc mL) 762 = .ok (.iadd, 1) by decide +kernel) (by unfold am_i32; omega) ?_
  refine s_sload rfl (show decode (am_cc mL) 763 = .ok (.iaload, 1) by decide +kernel) (by omega) (by omega) ?_
  refine s_aload_n (k0 := 0) (x := -2) (show decode (am_cc mL) 764 = .ok (.aload_n 0, 1) by decide +kernel) rfl ?_
  refine s_iload_n (k0 := 3) (x := i) (show decode (am_cc mL) 765 = .ok (.iload_n 3, 1) by decide +kernel) rfl ?_
  refine s_iconst (show decode (am_cc mL) 766 = .ok (.iconst 4, 1) by decide +kernel) (by unfold am_i32; omega) ?_
  refine s_iadd (show decode (am_cc mL) 767 = .ok (.iadd, 1) by decide +kernel) (by unfold am_i32; omega) ?_
  refine s_sload rfl (show decode (am_cc mL) 768 = .ok (.iaload, 1) by decide +kernel) (by omega) (by omega) ?_
  refine n_callV (as := [vi _, vi _, vi _, vi _]) (a := 0) (stk := []) (show decode (am_cc mL) 769 = .ok (.invokevirtual 67, 3) by decide +kernel) lk_RL_67 kdL0 (by decide) rfl rfl (by decide) (Nat.le_of_ble_eq_true rfl) ⟨rfl, rfl⟩ ?_
  refine am_CallN_mono (fun r M1 h => ?_) (am_CallN_neg (am_CallKS rfl (e_met hI)))
  obtain ⟨⟨h, hs⟩, hn⟩ := h
  obtain ⟨x, rfl⟩ := hs.1 rfl
  have hn2 : ∀ j : Int, M1 (-2) j = M (-2) j := fun j => hn _ j (by omega)
  show am_At mL 772 _ [vi x] _ M1 Q
  refine s_aload_n (k0 := 2) (x := 86) (show decode (am_cc mL) 772 = .ok (.aload_n 2, 1) by decide +kernel) rfl ?_
  refine s_aload_n (k0 := 0) (x := -2) (show decode (am_cc mL) 773 = .ok (.aload_n 0, 1) by decide +kernel) rfl ?_
  refine s_iload_n (k0 := 3) (x := i) (show decode (am_cc mL) 774 = .ok (.iload_n 3, 1) by decide +kernel) rfl ?_
  refine s_iconst (show decode (am_cc mL) 775 = .ok (.iconst 1, 1) by decide +kernel) (by unfold am_i32; omega) ?_
  refine s_iadd (show decode (am_cc mL) 776 = .ok (.iadd, 1) by decide +kernel) (by unfold am_i32; omega) ?_
  refine s_sload rfl (show decode (am_cc mL) 777 = .ok (.iaload, 1) by decide +kernel) (by omega) (by rw [hn2]; omega) ?_
  refine s_aload_n (k0 := 0) (x := -2) (show decode (am_cc mL) 778 = .ok (.aload_n 0, 1) by decide +kernel) rfl ?_
  refine s_iload_n (k0 := 3) (x := i) (show decode (am_cc mL) 779 = .ok (.iload_n 3, 1) by decide +kernel) rfl ?_
  refine s_iconst (show decode (am_cc mL) 780 = .ok (.iconst 2, 1) by decide +kernel) (by unfold am_i32; omega) ?_
  refine s_iadd (show decode (am_cc mL) 781 = .ok (.iadd, 1) by decide +kernel) (by unfold am_i32; omega) ?_
  refine s_sload rfl (show decode (am_cc mL) 782 = .ok (.iaload, 1) by decide +kernel) (by omega) (by rw [hn2]; omega) ?_
  refine s_aload_n (k0 := 0) (x := -2) (show decode (am_cc mL) 783 = .ok (.aload_n 0, 1) by decide +kernel) rfl ?_
  refine s_iload_n (k0 := 3) (x := i) (show decode (am_cc mL) 784 = .ok (.iload_n 3, 1) by decide +kernel) rfl ?_
  refine s_iconst (show decode (am_cc mL) 785 = .ok (.iconst 3, 1) by decide +kernel) (by unfold am_i32; omega) ?_
  refine s_iadd (show decode (am_cc mL) 786 = .ok (.iadd, 1) by decide +kernel) (by unfold am_i32; omega) ?_
  refine s_sload rfl (show decode (am_cc mL) 787 = .ok (.iaload, 1) by decide +kernel) (by omega) (by rw [hn2]; omega) ?_
  refine s_aload_n (k0 := 0) (x := -2) (show decode (am_cc mL) 788 = .ok (.aload_n 0, 1) by decide +kernel) rfl ?_
  refine s_iload_n (k0 := 3) (x := i) (show decode (am_cc mL) 789 = .ok (.iload_n 3, 1) by decide +kernel) rfl ?_
  refine s_iconst (show decode (am_cc mL) 790 = .ok (.iconst 4, 1) by decide +kernel) (by unfold am_i32; omega) ?_
  refine s_iadd (show decode (am_cc mL) 791 = .ok (.iadd, 1) by decide +kernel) (by unfold am_i32; omega) ?_
  refine s_sload rfl (show decode (am_cc mL) 792 = .ok (.iaload, 1) by decide +kernel) (by omega) (by rw [hn2]; omega) ?_
  refine n_callV (as := [vi _, vi _, vi _, vi _]) (a := 86) (stk := [vi x]) (show decode (am_cc mL) 793 = .ok (.invokevirtual 70, 3) by decide +kernel) lk_RL_70 kdL86 (by decide) rfl rfl (by decide) (Nat.le_of_ble_eq_true rfl) ⟨rfl, rfl⟩ ?_
  try simp only [hn2]
  refine am_CallN_mono (fun r' M2 h2 => ?_) (am_CallN_neg (am_CallKS rfl h))
  obtain ⟨⟨rfl, hI2⟩, hn3⟩ := h2
  show am_At mL 796 _ [vi x, vi x] _ M2 Q
  exact s_icmp_eq (tgt := 1506) (show decode (am_cc mL) 796 = .ok (.if_icmp .eq 710, 3) by decide +kernel) (by decide) (fun _ => k M2 hI2 (by rw [hn3 _ _ (by omega), hn2])) (fun q => absurd rfl q)
theorem L_13 (hI : Inv S M) (h0 : 0 ≤ i) (h6 : i + 6 ≤ M (-2) (-1)) (hL : M (-2) (-1) ≤ 3072) (k : ∀ M2, Inv S M2 → M2 (-2) (-1) = M (-2) (-1) → am_At mL 1506 [some (vr (-2)), some (vr 0), some (vr 86), some (vi i)] [] (SH, 113, 141272) M2 Q) : am_At mL 801 [some (vr (-2)), some (vr 0), some (vr 86), some (vi i)] [] (SH, 113, 141272) M Q := by
  refine s_aload_n (k0 := 1) (x := 0) (show decode (am_cc mL) 801 = .ok (.aload_n 1, 1) by decide +kernel) rfl ?_
  refine s_aload_n (k0 := 0) (x := -2) (show decode (am_cc mL) 802 = .ok (.aload_n 0, 1) by decide +kernel) rfl ?_
  refine s_iload_n (k0 := 3) (x := i) (show decode (am_cc mL) 803 = .ok (.iload_n 3, 1) by decide +kernel) rfl ?_
  refine s_iconst (show decode (am_cc mL) 804 = .ok (.iconst 1, 1) by decide +kernel) (by unfold am_i32; omega) ?_
  refine s_iadd (show decode (am_cc mL) 805 = .ok (.iadd, 1) by decide +kernel) (by unfold am_i32; omega) ?_
  refine s_sload rfl (show decode (am_cc mL) 806 = .ok (.iaload, 1) by decide +kernel) (by omega) (by omega) ?_
  refine s_aload_n (k0 := 0) (x := -2) (show decode (am_cc mL) 807 = .ok (.aload_n 0, 1) by decide +kernel) rfl ?_
  refine s_iload_n (k0 := 3) (x := i) (show decode (am_cc mL) 808 = .ok (.iload_n 3, 1) by decide +kernel) rfl ?_
  refine s_iconst (show decode (am_cc mL) 809 = .ok (.iconst 2, 1) by decide +kernel) (by unfold am_i32; omega) ?_
  refine s_iadd (show decode (am_cc mL) 810 = .ok (.iadd, 1) by decide +kernel) (by unfold am_i32; omega) ?_
  refine s_sload rfl (show decode (am_cc mL) 811 = .ok (.iaload, 1) by decide +kernel) (by omega) (by omega) ?_
  refine s_aload_n (k0 := 0) (x := -2) (show decode (am_cc mL) 812 = .ok (.aload_n 0, 1) by decide +kernel) rfl ?_
  refine s_iload_n (k0 := 3) (x := i) (show decode (am_cc mL) 813 = .ok (.iload_n 3, 1) by decide +kernel) rfl ?_
  refine s_iconst (show decode (am_cc mL) 814 = .ok (.iconst 3, 1) by decide +kernel) (by unfold am_i32; omega) ?_
  refine s_iadd (show decode (am_cc mL) 815 = .ok (.iadd, 1) by decide +kernel) (by unfold am_i32; omega) ?_
  refine s_sload rfl (show decode (am_cc mL) 816 = .ok (.iaload, 1) by decide +kernel) (by omega) (by omega) ?_
  refine s_aload_n (k0 := 0) (x := -2) (show decode (am_cc mL) 817 = .ok (.aload_n 0, 1) by decide +kernel) rfl ?_
  refine s_iload_n (k0 := 3) (x := i) (show decode (am_cc mL) 818 = .ok (.iload_n 3, 1) by decide +kernel) rfl ?_
  refine s_iconst (show decode (am_cc mL) 819 = .ok (.iconst 4, 1) by decide +kernel) (by unfold am_i32; omega) ?_
  refine s_iadd (show decode (am_cc mL) 820 = .ok (.iadd, 1) by decide +kernel) (by unfold am_i32; omega) ?_
  refine s_sload rfl (show decode (am_cc mL) 821 = .ok (.iaload, 1) by decide +kernel) (by omega) (by omega) ?_
  refine s_aload_n (k0 := 0) (x := -2) (show decode (am_cc mL) 822 = .ok (.aload_n 0, 1) by decide +kernel) rfl ?_
  refine s_iload_n (k0 := 3) (x := i) (show decode (am_cc mL) 823 = .ok (.iload_n 3, 1) by decide +kernel) rfl ?_
  refine s_iconst (show decode (am_cc mL) 824 = .ok (.iconst 5, 1) by decide +kernel) (by unfold am_i32; omega) ?_
  refine s_iadd (show decode (am_cc mL) 825 = .ok (.iadd, 1) by decide +kernel) (by unfold am_i32; omega) ?_
  refine s_sload rfl (show decode (am_cc mL) 826 = .ok (.iaload, 1) by decide +kernel) (by omega) (by omega) ?_
  refine n_callV (as := [vi _, vi _, vi _, vi _, vi _]) (a := 0) (stk := []) (show decode (am_cc mL) 827 = .ok (.invokevirtual 71, 3) by decide +kernel) lk_RL_71 kdL0 (by decide) rfl rfl (by decide) (Nat.le_of_ble_eq_true rfl) ⟨rfl, rfl⟩ ?_
  refine am_CallN_mono (fun r M1 h => ?_) (am_CallN_neg (am_CallKS rfl (e_place hI)))
  obtain ⟨⟨h, hs⟩, hn⟩ := h
  obtain ⟨x, rfl⟩ := hs.1 rfl
  have hn2 : ∀ j : Int, M1 (-2) j = M (-2) j := fun j => hn _ j (by omega)
  show am_At mL 830 _ [vi x] _ M1 Q
  refine s_aload_n (k0 := 2) (x := 86) (show decode (am_cc mL) 830 = .ok (.aload_n 2, 1) by decide +kernel) rfl ?_
  refine s_aload_n (k0 := 0) (x := -2) (show decode (am_cc mL) 831 = .ok (.aload_n 0, 1) by decide +kernel) rfl ?_
  refine s_iload_n (k0 := 3) (x := i) (show decode (am_cc mL) 832 = .ok (.iload_n 3, 1) by decide +kernel) rfl ?_
  refine s_iconst (show decode (am_cc mL) 833 = .ok (.iconst 1, 1) by decide +kernel) (by unfold am_i32; omega) ?_
  refine s_iadd (show decode (am_cc mL) 834 = .ok (.iadd, 1) by decide +kernel) (by unfold am_i32; omega) ?_
  refine s_sload rfl (show decode (am_cc mL) 835 = .ok (.iaload, 1) by decide +kernel) (by omega) (by rw [hn2]; omega) ?_
  refine s_aload_n (k0 := 0) (x := -2) (show decode (am_cc mL) 836 = .ok (.aload_n 0, 1) by decide +kernel) rfl ?_
  refine s_iload_n (k0 := 3) (x := i) (show decode (am_cc mL) 837 = .ok (.iload_n 3, 1) by decide +kernel) rfl ?_
  refine s_iconst (show decode (am_cc mL) 838 = .ok (.iconst 2, 1) by decide +kernel) (by unfold am_i32; omega) ?_
  refine s_iadd (show decode (am_cc mL) 839 = .ok (.iadd, 1) by decide +kernel) (by unfold am_i32; omega) ?_
  refine s_sload rfl (show decode (am_cc mL) 840 = .ok (.iaload, 1) by decide +kernel) (by omega) (by rw [hn2]; omega) ?_
  refine s_aload_n (k0 := 0) (x := -2) (show decode (am_cc mL) 841 = .ok (.aload_n 0, 1) by decide +kernel) rfl ?_
  refine s_iload_n (k0 := 3) (x := i) (show decode (am_cc mL) 842 = .ok (.iload_n 3, 1) by decide +kernel) rfl ?_
  refine s_iconst (show decode (am_cc mL) 843 = .ok (.iconst 3, 1) by decide +kernel) (by unfold am_i32; omega) ?_
  refine s_iadd (show decode (am_cc mL) 844 = .ok (.iadd, 1) by decide +kernel) (by unfold am_i32; omega) ?_
  refine s_sload rfl (show decode (am_cc mL) 845 = .ok (.iaload, 1) by decide +kernel) (by omega) (by rw [hn2]; omega) ?_
  refine s_aload_n (k0 := 0) (x := -2) (show decode (am_cc mL) 846 = .ok (.aload_n 0, 1) by decide +kernel) rfl ?_
  refine s_iload_n (k0 := 3) (x := i) (show decode (am_cc mL) 847 = .ok (.iload_n 3, 1) by decide +kernel) rfl ?_
  refine s_iconst (show decode (am_cc mL) 848 = .ok (.iconst 4, 1) by decide +kernel) (by unfold am_i32; omega) ?_
  refine s_iadd (show decode (am_cc mL) 849 = .ok (.iadd, 1) by decide +kernel) (by unfold am_i32; omega) ?_
  refine s_sload rfl (show decode (am_cc mL) 850 = .ok (.iaload, 1) by decide +kernel) (by omega) (by rw [hn2]; omega) ?_
  refine s_aload_n (k0 := 0) (x := -2) (show decode (am_cc mL) 851 = .ok (.aload_n 0, 1) by decide +kernel) rfl ?_
  refine s_iload_n (k0 := 3) (x := i) (show decode (am_cc mL) 852 = .ok (.iload_n 3, 1) by decide +kernel) rfl ?_
  refine s_iconst (show decode (am_cc mL) 853 = .ok (.iconst 5, 1) by decide +kernel) (by unfold am_i32; omega) ?_
  refine s_iadd (show decode (am_cc mL) 854 = .ok (.iadd, 1) by decide +kernel) (by unfold am_i32; omega) ?_
  refine s_sload rfl (show decode (am_cc mL) 855 = .ok (.iaload, 1) by decide +kernel) (by omega) (by rw [hn2]; omega) ?_
  refine n_callV (as := [vi _, vi _, vi _, vi _, vi _]) (a := 86) (stk := [vi x]) (show decode (am_cc mL) 856 = .ok (.invokevirtual 74, 3) by decide +kernel) lk_RL_74 kdL86 (by decide) rfl rfl (by decide) (Nat.le_of_ble_eq_true rfl) ⟨rfl, rfl⟩ ?_
  try simp only [hn2]
  refine am_CallN_mono (fun r' M2 h2 => ?_) (am_CallN_neg (am_CallKS rfl h))
  obtain ⟨⟨rfl, hI2⟩, hn3⟩ := h2
  show am_At mL 859 _ [vi x, vi x] _ M2 Q
  exact s_icmp_eq (tgt := 1506) (show decode (am_cc mL) 859 = .ok (.if_icmp .eq 647, 3) by decide +kernel) (by decide) (fun _ => k M2 hI2 (by rw [hn3 _ _ (by omega), hn2])) (fun q => absurd rfl q)
theorem L_14 (hI : Inv S M) (h0 : 0 ≤ i) (h6 : i + 6 ≤ M (-2) (-1)) (hL : M (-2) (-1) ≤ 3072) (k : ∀ M2, Inv S M2 → M2 (-2) (-1) = M (-2) (-1) → am_At mL 1506 [some (vr (-2)), some (vr 0), some (vr 86), some (vi i)] [] (SH, 113, 141272) M2 Q) : am_At mL 864 [some (vr (-2)), some (vr 0), some (vr 86), some (vi i)] [] (SH, 113, 141272) M Q := by
  by_cases hz : M (-2) (i + 2) = 0
  · refine s_aload_n (k0 := 1) (x := 0) (show decode (am_cc mL) 864 = .ok (.aload_n 1, 1) by decide +kernel) rfl ?_
    refine s_aload_n (k0 := 0) (x := -2) (show decode (am_cc mL) 865 = .ok (.aload_n 0, 1) by decide +kernel) rfl ?_
    refine s_iload_n (k0 := 3) (x := i) (show decode (am_cc mL) 866 = .ok (.iload_n 3, 1) by decide +kernel) rfl ?_
    refine s_iconst (show decode (am_cc mL) 867 = .ok (.iconst 1, 1) by decide +kernel) (by unfold am_i32; omega) ?_
    refine s_iadd (show decode (am_cc mL) 868 = .ok (.iadd, 1) by decide +kernel) (by unfold am_i32; omega) ?_
    refine s_sload rfl (show decode (am_cc mL) 869 = .ok (.iaload, 1) by decide +kernel) (by omega) (by omega) ?_
    refine s_aload_n (k0 := 0) (x := -2) (show decode (am_cc mL) 870 = .ok (.aload_n 0, 1) by decide +kernel) rfl ?_
    refine s_iload_n (k0 := 3) (x := i) (show decode (am_cc mL) 871 = .ok (.iload_n 3, 1) by decide +kernel) rfl ?_
    refine s_iconst (show decode (am_cc mL) 872 = .ok (.iconst 2, 1) by decide +kernel) (by unfold am_i32; omega) ?_
    refine s_iadd (show decode (am_cc mL) 873 = .ok (.iadd, 1) by decide +kernel) (by unfold am_i32; omega) ?_
    refine s_sload rfl (show decode (am_cc mL) 874 = .ok (.iaload, 1) by decide +kernel) (by omega) (by omega) ?_
    refine s_if_eq (tgt := 882) (show decode (am_cc mL) 875 = .ok (.ifCond .eq 7, 3) by decide +kernel) (by decide) (fun _ => ?_) (fun q => absurd hz q)
    refine s_iconst (show decode (am_cc mL) 882 = .ok (.iconst 0, 1) by decide +kernel) (by unfold am_i32; omega) ?_
    refine n_callV (as := [vi _, vi 0]) (a := 0) (stk := []) (show decode (am_cc mL) 883 = .ok (.invokevirtual 75, 3) by decide +kernel) lk_RL_75 kdL0 (by decide) rfl rfl (by decide) (Nat.le_of_ble_eq_true rfl) ⟨rfl, rfl⟩ ?_
    refine am_CallN_mono (fun r M1 h => ?_) (am_CallN_neg (am_CallKS rfl (e_sheet hI (by omega))))
    obtain ⟨⟨h, hs⟩, hn⟩ := h
    obtain ⟨x, rfl⟩ := hs.1 rfl
    have hn2 : ∀ j : Int, M1 (-2) j = M (-2) j := fun j => hn _ j (by omega)
    show am_At mL 886 _ [vi x] _ M1 Q
    refine s_aload_n (k0 := 2) (x := 86) (show decode (am_cc mL) 886 = .ok (.aload_n 2, 1) by decide +kernel) rfl ?_
    refine s_aload_n (k0 := 0) (x := -2) (show decode (am_cc mL) 887 = .ok (.aload_n 0, 1) by decide +kernel) rfl ?_
    refine s_iload_n (k0 := 3) (x := i) (show decode (am_cc mL) 888 = .ok (.iload_n 3, 1) by decide +kernel) rfl ?_
    refine s_iconst (show decode (am_cc mL) 889 = .ok (.iconst 1, 1) by decide +kernel) (by unfold am_i32; omega) ?_
    refine s_iadd (show decode (am_cc mL) 890 = .ok (.iadd, 1) by decide +kernel) (by unfold am_i32; omega) ?_
    refine s_sload rfl (show decode (am_cc mL) 891 = .ok (.iaload, 1) by decide +kernel) (by omega) (by rw [hn2]; omega) ?_
    refine s_aload_n (k0 := 0) (x := -2) (show decode (am_cc mL) 892 = .ok (.aload_n 0, 1) by decide +kernel) rfl ?_
    refine s_iload_n (k0 := 3) (x := i) (show decode (am_cc mL) 893 = .ok (.iload_n 3, 1) by decide +kernel) rfl ?_
    refine s_iconst (show decode (am_cc mL) 894 = .ok (.iconst 2, 1) by decide +kernel) (by unfold am_i32; omega) ?_
    refine s_iadd (show decode (am_cc mL) 895 = .ok (.iadd, 1) by decide +kernel) (by unfold am_i32; omega) ?_
    refine s_sload rfl (show decode (am_cc mL) 896 = .ok (.iaload, 1) by decide +kernel) (by omega) (by rw [hn2]; omega) ?_
    refine s_if_eq (tgt := 904) (show decode (am_cc mL) 897 = .ok (.ifCond .eq 7, 3) by decide +kernel) (by decide) (fun _ => ?_) (fun q => absurd (by rw [hn2]; exact hz) q)
    refine s_iconst (show decode (am_cc mL) 904 = .ok (.iconst 0, 1) by decide +kernel) (by unfold am_i32; omega) ?_
    refine n_callV (as := [vi _, vi 0]) (a := 86) (stk := [vi x]) (show decode (am_cc mL) 905 = .ok (.invokevirtual 79, 3) by decide +kernel) lk_RL_79 kdL86 (by decide) rfl rfl (by decide) (Nat.le_of_ble_eq_true rfl) ⟨rfl, rfl⟩ ?_
    try simp only [hn2]
    refine am_CallN_mono (fun r' M2 h2 => ?_) (am_CallN_neg (am_CallKS rfl h))
    obtain ⟨⟨rfl, hI2⟩, hn3⟩ := h2
    show am_At mL 908 _ [vi x, vi x] _ M2 Q
    exact s_icmp_eq (tgt := 1506) (show decode (am_cc mL) 908 = .ok (.if_icmp .eq 598, 3) by decide +kernel) (by decide) (fun _ => k M2 hI2 (by rw [hn3 _ _ (by omega), hn2])) (fun q => absurd rfl q)
  · refine s_aload_n (k0 := 1) (x := 0) (show decode (am_cc mL) 864 = .ok (.aload_n 1, 1) by decide +kernel) rfl ?_
    refine s_aload_n (k0 := 0) (x := -2) (show decode (am_cc mL) 865 = .ok (.aload_n 0, 1) by decide +kernel) rfl ?_
    refine s_iload_n (k0 := 3) (x := i) (show decode (am_cc mL) 866 = .ok (.iload_n 3, 1) by decide +kernel) rfl ?_
    refine s_iconst (show decode (am_cc mL) 867 = .ok (.iconst 1, 1) by decide +kernel) (by unfold am_i32; omega) ?_
    refine s_iadd (show decode (am_cc mL) 868 = .ok (.iadd, 1) by decide +kernel) (by unfold am_i32; omega) ?_
    refine s_sload rfl (show decode (am_cc mL) 869 = .ok (.iaload, 1) by decide +kernel) (by omega) (by omega) ?_
    refine s_aload_n (k0 := 0) (x := -2) (show decode (am_cc mL) 870 = .ok (.aload_n 0, 1) by decide +kernel) rfl ?_
    refine s_iload_n (k0 := 3) (x := i) (show decode (am_cc mL) 871 = .ok (.iload_n 3, 1) by decide +kernel) rfl ?_
    refine s_iconst (show decode (am_cc mL) 872 = .ok (.iconst 2, 1) by decide +kernel) (by unfold am_i32; omega) ?_
    refine s_iadd (show decode (am_cc mL) 873 = .ok (.iadd, 1) by decide +kernel) (by unfold am_i32; omega) ?_
    refine s_sload rfl (show decode (am_cc mL) 874 = .ok (.iaload, 1) by decide +kernel) (by omega) (by omega) ?_
    refine s_if_eq (tgt := 882) (show decode (am_cc mL) 875 = .ok (.ifCond .eq 7, 3) by decide +kernel) (by decide) (fun q => absurd q hz) (fun _ => ?_)
    refine s_iconst (show decode (am_cc mL) 878 = .ok (.iconst 1, 1) by decide +kernel) (by unfold am_i32; omega) ?_
    refine s_goto (tgt := 883) (show decode (am_cc mL) 879 = .ok (.goto 4, 3) by decide +kernel) (by decide) ?_
    refine n_callV (as := [vi _, vi 1]) (a := 0) (stk := []) (show decode (am_cc mL) 883 = .ok (.invokevirtual 75, 3) by decide +kernel) lk_RL_75 kdL0 (by decide) rfl rfl (by decide) (Nat.le_of_ble_eq_true rfl) ⟨rfl, rfl⟩ ?_
    refine am_CallN_mono (fun r M1 h => ?_) (am_CallN_neg (am_CallKS rfl (e_sheet hI (by omega))))
    obtain ⟨⟨h, hs⟩, hn⟩ := h
    obtain ⟨x, rfl⟩ := hs.1 rfl
    have hn2 : ∀ j : Int, M1 (-2) j = M (-2) j := fun j => hn _ j (by omega)
    show am_At mL 886 _ [vi x] _ M1 Q
    refine s_aload_n (k0 := 2) (x := 86) (show decode (am_cc mL) 886 = .ok (.aload_n 2, 1) by decide +kernel) rfl ?_
    refine s_aload_n (k0 := 0) (x := -2) (show decode (am_cc mL) 887 = .ok (.aload_n 0, 1) by decide +kernel) rfl ?_
    refine s_iload_n (k0 := 3) (x := i) (show decode (am_cc mL) 888 = .ok (.iload_n 3, 1) by decide +kernel) rfl ?_
    refine s_iconst (show decode (am_cc mL) 889 = .ok (.iconst 1, 1) by decide +kernel) (by unfold am_i32; omega) ?_
    refine s_iadd (show decode (am_cc mL) 890 = .ok (.iadd, 1) by decide +kernel) (by unfold am_i32; omega) ?_
    refine s_sload rfl (show decode (am_cc mL) 891 = .ok (.iaload, 1) by decide +kernel) (by omega) (by rw [hn2]; omega) ?_
    refine s_aload_n (k0 := 0) (x := -2) (show decode (am_cc mL) 892 = .ok (.aload_n 0, 1) by decide +kernel) rfl ?_
    refine s_iload_n (k0 := 3) (x := i) (show decode (am_cc mL) 893 = .ok (.iload_n 3, 1) by decide +kernel) rfl ?_
    refine s_iconst (show decode (am_cc mL) 894 = .ok (.iconst 2, 1) by decide +kernel) (by unfold am_i32; omega) ?_
    refine s_iadd (show decode (am_cc mL) 895 = .ok (.iadd, 1) by decide +kernel) (by unfold am_i32; omega) ?_
    refine s_sload rfl (show decode (am_cc mL) 896 = .ok (.iaload, 1) by decide +kernel) (by omega) (by rw [hn2]; omega) ?_
    refine s_if_eq (tgt := 904) (show decode (am_cc mL) 897 = .ok (.ifCond .eq 7, 3) by decide +kernel) (by decide) (fun q => absurd (by rw [hn2] at q; exact q) hz) (fun _ => ?_)
    refine s_iconst (show decode (am_cc mL) 900 = .ok (.iconst 1, 1) by decide +kernel) (by unfold am_i32; omega) ?_
    refine s_goto (tgt := 905) (show decode (am_cc mL) 901 = .ok (.goto 4, 3) by decide +kernel) (by decide) ?_
    refine n_callV (as := [vi _, vi 1]) (a := 86) (stk := [vi x]) (show decode (am_cc mL) 905 = .ok (.invokevirtual 79, 3) by decide +kernel) lk_RL_79 kdL86 (by decide) rfl rfl (by decide) (Nat.le_of_ble_eq_true rfl) ⟨rfl, rfl⟩ ?_
    try simp only [hn2]
    refine am_CallN_mono (fun r' M2 h2 => ?_) (am_CallN_neg (am_CallKS rfl h))
    obtain ⟨⟨rfl, hI2⟩, hn3⟩ := h2
    show am_At mL 908 _ [vi x, vi x] _ M2 Q
    exact s_icmp_eq (tgt := 1506) (show decode (am_cc mL) 908 = .ok (.if_icmp .eq 598, 3) by decide +kernel) (by decide) (fun _ => k M2 hI2 (by rw [hn3 _ _ (by omega), hn2])) (fun q => absurd rfl q)
theorem L_15 (hI : Inv S M) (h0 : 0 ≤ i) (h6 : i + 6 ≤ M (-2) (-1)) (hL : M (-2) (-1) ≤ 3072) (k : ∀ M2, Inv S M2 → M2 (-2) (-1) = M (-2) (-1) → am_At mL 1506 [some (vr (-2)), some (vr 0), some (vr 86), some (vi i)] [] (SH, 113, 141272) M2 Q) : am_At mL 913 [some (vr (-2)), some (vr 0), some (vr 86), some (vi i)] [] (SH, 113, 141272) M Q := by
  refine s_aload_n (k0 := 1) (x := 0) (show decode (am_cc mL) 913 = .ok (.aload_n 1, 1) by decide +kernel) rfl ?_
  refine s_aload_n (k0 := 0) (x := -2) (show decode (am_cc mL) 914 = .ok (.aload_n 0, 1) by decide +kernel) rfl ?_
  refine s_iload_n (k0 := 3) (x := i) (show decode (am_cc mL) 915 = .ok (.iload_n 3, 1) by decide +kernel) rfl ?_
  refine s_iconst (show decode (am_cc mL) 916 = .ok (.iconst 1, 1) by decide +kernel) (by unfold am_i32; omega) ?_
  refine s_iadd (show decode (am_cc mL) 917 = .ok (.iadd, 1) by decide +kernel) (by unfold am_i32; omega) ?_
  refine s_sload rfl (show decode (am_cc mL) 918 = .ok (.iaload, 1) by decide +kernel) (by omega) (by omega) ?_
  refine s_aload_n (k0 := 0) (x := -2) (show decode (am_cc mL) 919 = .ok (.aload_n 0, 1) by decide +kernel) rfl ?_
  refine s_iload_n (k0 := 3) (x := i) (show decode (am_cc mL) 920 = .ok (.iload_n 3, 1) by decide +kernel) rfl ?_
  refine s_iconst (show decode (am_cc mL) 921 = .ok (.iconst 2, 1) by decide +kernel) (by unfold am_i32; omega) ?_
  refine s_iadd (show decode (am_cc mL) 922 = .ok (.iadd, 1) by decide +kernel) (by unfold am_i32; omega) ?_
  refine s_sload rfl (show decode (am_cc mL) 923 = .ok (.iaload, 1) by decide +kernel) (by omega) (by omega) ?_
  refine s_aload_n (k0 := 0) (x := -2) (show decode (am_cc mL) 924 = .ok (.aload_n 0, 1) by decide +kernel) rfl ?_
  refine s_iload_n (k0 := 3) (x := i) (show decode (am_cc mL) 925 = .ok (.iload_n 3, 1) by decide +kernel) rfl ?_
  refine s_iconst (show decode (am_cc mL) 926 = .ok (.iconst 3, 1) by decide +kernel) (by unfold am_i32; omega) ?_
  refine s_iadd (show decode (am_cc mL) 927 = .ok (.iadd, 1) by decide +kernel) (by unfold am_i32; omega) ?_
  refine s_sload rfl (show decode (am_cc mL) 928 = .ok (.iaload, 1) by decide +kernel) (by omega) (by omega) ?_
  refine s_aload_n (k0 := 0) (x := -2) (show decode (am_cc mL) 929 = .ok (.aload_n 0, 1) by decide +kernel) rfl ?_
  refine s_iload_n (k0 := 3) (x := i) (show decode (am_cc mL) 930 = .ok (.iload_n 3, 1) by decide +kernel) rfl ?_
  refine s_iconst (show decode (am_cc mL) 931 = .ok (.iconst 4, 1) by decide +kernel) (by unfold am_i32; omega) ?_
  refine s_iadd (show decode (am_cc mL) 932 = .ok (.iadd, 1) by decide +kernel) (by unfold am_i32; omega) ?_
  refine s_sload rfl (show decode (am_cc mL) 933 = .ok (.iaload, 1) by decide +kernel) (by omega) (by omega) ?_
  refine n_callV (as := [vi _, vi _, vi _, vi _]) (a := 0) (stk := []) (show decode (am_cc mL) 934 = .ok (.invokevirtual 80, 3) by decide +kernel) lk_RL_80 kdL0 (by decide) rfl rfl (by decide) (Nat.le_of_ble_eq_true rfl) ⟨rfl, rfl⟩ ?_
  refine am_CallN_mono (fun r M1 h => ?_) (am_CallN_neg (am_CallKS rfl (e_write hI)))
  obtain ⟨⟨h, hs⟩, hn⟩ := h
  obtain ⟨x, rfl⟩ := hs.1 rfl
  have hn2 : ∀ j : Int, M1 (-2) j = M (-2) j := fun j => hn _ j (by omega)
  show am_At mL 937 _ [vi x] _ M1 Q
  refine s_aload_n (k0 := 2) (x := 86) (show decode (am_cc mL) 937 = .ok (.aload_n 2, 1) by decide +kernel) rfl ?_
  refine s_aload_n (k0 := 0) (x := -2) (show decode (am_cc mL) 938 = .ok (.aload_n 0, 1) by decide +kernel) rfl ?_
  refine s_iload_n (k0 := 3) (x := i) (show decode (am_cc mL) 939 = .ok (.iload_n 3, 1) by decide +kernel) rfl ?_
  refine s_iconst (show decode (am_cc mL) 940 = .ok (.iconst 1, 1) by decide +kernel) (by unfold am_i32; omega) ?_
  refine s_iadd (show decode (am_cc mL) 941 = .ok (.iadd, 1) by decide +kernel) (by unfold am_i32; omega) ?_
  refine s_sload rfl (show decode (am_cc mL) 942 = .ok (.iaload, 1) by decide +kernel) (by omega) (by rw [hn2]; omega) ?_
  refine s_aload_n (k0 := 0) (x := -2) (show decode (am_cc mL) 943 = .ok (.aload_n 0, 1) by decide +kernel) rfl ?_
  refine s_iload_n (k0 := 3) (x := i) (show decode (am_cc mL) 944 = .ok (.iload_n 3, 1) by decide +kernel) rfl ?_
  refine s_iconst (show decode (am_cc mL) 945 = .ok (.iconst 2, 1) by decide +kernel) (by unfold am_i32; omega) ?_
  refine s_iadd (show decode (am_cc mL) 946 = .ok (.iadd, 1) by decide +kernel) (by unfold am_i32; omega) ?_
  refine s_sload rfl (show decode (am_cc mL) 947 = .ok (.iaload, 1) by decide +kernel) (by omega) (by rw [hn2]; omega) ?_
  refine s_aload_n (k0 := 0) (x := -2) (show decode (am_cc mL) 948 = .ok (.aload_n 0, 1) by decide +kernel) rfl ?_
  refine s_iload_n (k0 := 3) (x := i) (show decode (am_cc mL) 949 = .ok (.iload_n 3, 1) by decide +kernel) rfl ?_
  refine s_iconst (show decode (am_cc mL) 950 = .ok (.iconst 3, 1) by decide +kernel) (by unfold am_i32; omega) ?_
  refine s_iadd (show decode (am_cc mL) 951 = .ok (.iadd, 1) by decide +kernel) (by unfold am_i32; omega) ?_
  refine s_sload rfl (show decode (am_cc mL) 952 = .ok (.iaload, 1) by decide +kernel) (by omega) (by rw [hn2]; omega) ?_
  refine s_aload_n (k0 := 0) (x := -2) (show decode (am_cc mL) 953 = .ok (.aload_n 0, 1) by decide +kernel) rfl ?_
  refine s_iload_n (k0 := 3) (x := i) (show decode (am_cc mL) 954 = .ok (.iload_n 3, 1) by decide +kernel) rfl ?_
  refine s_iconst (show decode (am_cc mL) 955 = .ok (.iconst 4, 1) by decide +kernel) (by unfold am_i32; omega) ?_
  refine s_iadd (show decode (am_cc mL) 956 = .ok (.iadd, 1) by decide +kernel) (by unfold am_i32; omega) ?_
  refine s_sload rfl (show decode (am_cc mL) 957 = .ok (.iaload, 1) by decide +kernel) (by omega) (by rw [hn2]; omega) ?_
  refine n_callV (as := [vi _, vi _, vi _, vi _]) (a := 86) (stk := [vi x]) (show decode (am_cc mL) 958 = .ok (.invokevirtual 83, 3) by decide +kernel) lk_RL_83 kdL86 (by decide) rfl rfl (by decide) (Nat.le_of_ble_eq_true rfl) ⟨rfl, rfl⟩ ?_
  try simp only [hn2]
  refine am_CallN_mono (fun r' M2 h2 => ?_) (am_CallN_neg (am_CallKS rfl h))
  obtain ⟨⟨rfl, hI2⟩, hn3⟩ := h2
  show am_At mL 961 _ [vi x, vi x] _ M2 Q
  exact s_icmp_eq (tgt := 1506) (show decode (am_cc mL) 961 = .ok (.if_icmp .eq 545, 3) by decide +kernel) (by decide) (fun _ => k M2 hI2 (by rw [hn3 _ _ (by omega), hn2])) (fun q => absurd rfl q)
theorem L_16 (hI : Inv S M) (h0 : 0 ≤ i) (h6 : i + 6 ≤ M (-2) (-1)) (hL : M (-2) (-1) ≤ 3072) (k : ∀ M2, Inv S M2 → M2 (-2) (-1) = M (-2) (-1) → am_At mL 1506 [some (vr (-2)), some (vr 0), some (vr 86), some (vi i)] [] (SH, 113, 141272) M2 Q) : am_At mL 966 [some (vr (-2)), some (vr 0), some (vr 86), some (vi i)] [] (SH, 113, 141272) M Q := by
  refine s_aload_n (k0 := 1) (x := 0) (show decode (am_cc mL) 966 = .ok (.aload_n 1, 1) by decide +kernel) rfl ?_
  refine s_aload_n (k0 := 0) (x := -2) (show decode (am_cc mL) 967 = .ok (.aload_n 0, 1) by decide +kernel) rfl ?_
  refine s_iload_n (k0 := 3) (x := i) (show decode (am_cc mL) 968 = .ok (.iload_n 3, 1) by decide +kernel) rfl ?_
  refine s_iconst (show decode (am_cc mL) 969 = .ok (.iconst 1, 1) by decide +kernel) (by unfold am_i32; omega) ?_
  refine s_iadd (show decode (am_cc mL) 970 = .ok (.iadd, 1) by decide +kernel) (by unfold am_i32; omega) ?_
  refine s_sload rfl (show decode (am_cc mL) 971 = .ok (.iaload, 1) by decide +kernel) (by omega) (by omega) ?_
  refine s_aload_n (k0 := 0) (x := -2) (show decode (am_cc mL) 972 = .ok (.aload_n 0, 1) by decide +kernel) rfl ?_
  refine s_iload_n (k0 := 3) (x := i) (show decode (am_cc mL) 973 = .ok (.iload_n 3, 1) by decide +kernel) rfl ?_
  refine s_iconst (show decode (am_cc mL) 974 = .ok (.iconst 2, 1) by decide +kernel) (by unfold am_i32; omega) ?_
  refine s_iadd (show decode (am_cc mL) 975 = .ok (.iadd, 1) by decide +kernel) (by unfold am_i32; omega) ?_
  refine s_sload rfl (show decode (am_cc mL) 976 = .ok (.iaload, 1) by decide +kernel) (by omega) (by omega) ?_
  refine s_aload_n (k0 := 0) (x := -2) (show decode (am_cc mL) 977 = .ok (.aload_n 0, 1) by decide +kernel) rfl ?_
  refine s_iload_n (k0 := 3) (x := i) (show decode (am_cc mL) 978 = .ok (.iload_n 3, 1) by decide +kernel) rfl ?_
  refine s_iconst (show decode (am_cc mL) 979 = .ok (.iconst 3, 1) by decide +kernel) (by unfold am_i32; omega) ?_
  refine s_iadd (show decode (am_cc mL) 980 = .ok (.iadd, 1) by decide +kernel) (by unfold am_i32; omega) ?_
  refine s_sload rfl (show decode (am_cc mL) 981 = .ok (.iaload, 1) by decide +kernel) (by omega) (by omega) ?_
  refine s_aload_n (k0 := 0) (x := -2) (show decode (am_cc mL) 982 = .ok (.aload_n 0, 1) by decide +kernel) rfl ?_
  refine s_iload_n (k0 := 3) (x := i) (show decode (am_cc mL) 983 = .ok (.iload_n 3, 1) by decide +kernel) rfl ?_
  refine s_iconst (show decode (am_cc mL) 984 = .ok (.iconst 4, 1) by decide +kernel) (by unfold am_i32; omega) ?_
  refine s_iadd (show decode (am_cc mL) 985 = .ok (.iadd, 1) by decide +kernel) (by unfold am_i32; omega) ?_
  refine s_sload rfl (show decode (am_cc mL) 986 = .ok (.iaload, 1) by decide +kernel) (by omega) (by omega) ?_
  refine n_callV (as := [vi _, vi _, vi _, vi _]) (a := 0) (stk := []) (show decode (am_cc mL) 987 = .ok (.invokevirtual 84, 3) by decide +kernel) lk_RL_84 kdL0 (by decide) rfl rfl (by decide) (Nat.le_of_ble_eq_true rfl) ⟨rfl, rfl⟩ ?_
  refine am_CallN_mono (fun r M1 h => ?_) (am_CallN_neg (am_CallKS rfl (e_check hI)))
  obtain ⟨⟨h, hs⟩, hn⟩ := h
  obtain ⟨x, rfl⟩ := hs.1 rfl
  have hn2 : ∀ j : Int, M1 (-2) j = M (-2) j := fun j => hn _ j (by omega)
  show am_At mL 990 _ [vi x] _ M1 Q
  refine s_aload_n (k0 := 2) (x := 86) (show decode (am_cc mL) 990 = .ok (.aload_n 2, 1) by decide +kernel) rfl ?_
  refine s_aload_n (k0 := 0) (x := -2) (show decode (am_cc mL) 991 = .ok (.aload_n 0, 1) by decide +kernel) rfl ?_
  refine s_iload_n (k0 := 3) (x := i) (show decode (am_cc mL) 992 = .ok (.iload_n 3, 1) by decide +kernel) rfl ?_
  refine s_iconst (show decode (am_cc mL) 993 = .ok (.iconst 1, 1) by decide +kernel) (by unfold am_i32; omega) ?_
  refine s_iadd (show decode (am_cc mL) 994 = .ok (.iadd, 1) by decide +kernel) (by unfold am_i32; omega) ?_
  refine s_sload rfl (show decode (am_cc mL) 995 = .ok (.iaload, 1) by decide +kernel) (by omega) (by rw [hn2]; omega) ?_
  refine s_aload_n (k0 := 0) (x := -2) (show decode (am_cc mL) 996 = .ok (.aload_n 0, 1) by decide +kernel) rfl ?_
  refine s_iload_n (k0 := 3) (x := i) (show decode (am_cc mL) 997 = .ok (.iload_n 3, 1) by decide +kernel) rfl ?_
  refine s_iconst (show decode (am_cc mL) 998 = .ok (.iconst 2, 1) by decide +kernel) (by unfold am_i32; omega) ?_
  refine s_iadd (show decode (am_cc mL) 999 = .ok (.iadd, 1) by decide +kernel) (by unfold am_i32; omega) ?_
  refine s_sload rfl (show decode (am_cc mL) 1000 = .ok (.iaload, 1) by decide +kernel) (by omega) (by rw [hn2]; omega) ?_
  refine s_aload_n (k0 := 0) (x := -2) (show decode (am_cc mL) 1001 = .ok (.aload_n 0, 1) by decide +kernel) rfl ?_
  refine s_iload_n (k0 := 3) (x := i) (show decode (am_cc mL) 1002 = .ok (.iload_n 3, 1) by decide +kernel) rfl ?_
  refine s_iconst (show decode (am_cc mL) 1003 = .ok (.iconst 3, 1) by decide +kernel) (by unfold am_i32; omega) ?_
  refine s_iadd (show decode (am_cc mL) 1004 = .ok (.iadd, 1) by decide +kernel) (by unfold am_i32; omega) ?_
  refine s_sload rfl (show decode (am_cc mL) 1005 = .ok (.iaload, 1) by decide +kernel) (by omega) (by rw [hn2]; omega) ?_
  refine s_aload_n (k0 := 0) (x := -2) (show decode (am_cc mL) 1006 = .ok (.aload_n 0, 1) by decide +kernel) rfl ?_
  refine s_iload_n (k0 := 3) (x := i) (show decode (am_cc mL) 1007 = .ok (.iload_n 3, 1) by decide +kernel) rfl ?_
  refine s_iconst (show decode (am_cc mL) 1008 = .ok (.iconst 4, 1) by decide +kernel) (by unfold am_i32; omega) ?_
  refine s_iadd (show decode (am_cc mL) 1009 = .ok (.iadd, 1) by decide +kernel) (by unfold am_i32; omega) ?_
  refine s_sload rfl (show decode (am_cc mL) 1010 = .ok (.iaload, 1) by decide +kernel) (by omega) (by rw [hn2]; omega) ?_
  refine n_callV (as := [vi _, vi _, vi _, vi _]) (a := 86) (stk := [vi x]) (show decode (am_cc mL) 1011 = .ok (.invokevirtual 87, 3) by decide +kernel) lk_RL_87 kdL86 (by decide) rfl rfl (by decide) (Nat.le_of_ble_eq_true rfl) ⟨rfl, rfl⟩ ?_
  try simp only [hn2]
  refine am_CallN_mono (fun r' M2 h2 => ?_) (am_CallN_neg (am_CallKS rfl h))
  obtain ⟨⟨rfl, hI2⟩, hn3⟩ := h2
  show am_At mL 1014 _ [vi x, vi x] _ M2 Q
  exact s_icmp_eq (tgt := 1506) (show decode (am_cc mL) 1014 = .ok (.if_icmp .eq 492, 3) by decide +kernel) (by decide) (fun _ => k M2 hI2 (by rw [hn3 _ _ (by omega), hn2])) (fun q => absurd rfl q)
theorem L_17 (hI : Inv S M) (h0 : 0 ≤ i) (h6 : i + 6 ≤ M (-2) (-1)) (hL : M (-2) (-1) ≤ 3072) (k : ∀ M2, Inv S M2 → M2 (-2) (-1) = M (-2) (-1) → am_At mL 1506 [some (vr (-2)), some (vr 0), some (vr 86), some (vi i)] [] (SH, 113, 141272) M2 Q) : am_At mL 1019 [some (vr (-2)), some (vr 0), some (vr 86), some (vi i)] [] (SH, 113, 141272) M Q := by
  refine s_aload_n (k0 := 1) (x := 0) (show decode (am_cc mL) 1019 = .ok (.aload_n 1, 1) by decide +kernel) rfl ?_
  refine s_aload_n (k0 := 0) (x := -2) (show decode (am_cc mL) 1020 = .ok (.aload_n 0, 1) by decide +kernel) rfl ?_
  refine s_iload_n (k0 := 3) (x := i) (show decode (am_cc mL) 1021 = .ok (.iload_n 3, 1) by decide +kernel) rfl ?_
  refine s_iconst (show decode (am_cc mL) 1022 = .ok (.iconst 1, 1) by decide +kernel) (by unfold am_i32; omega) ?_
  refine s_iadd (show decode (am_cc mL) 1023 = .ok (.iadd, 1) by decide +kernel) (by unfold am_i32; omega) ?_
  refine s_sload rfl (show decode (am_cc mL) 1024 = .ok (.iaload, 1) by decide +kernel) (by omega) (by omega) ?_
  refine s_aload_n (k0 := 0) (x := -2) (show decode (am_cc mL) 1025 = .ok (.aload_n 0, 1) by decide +kernel) rfl ?_
  refine s_iload_n (k0 := 3) (x := i) (show decode (am_cc mL) 1026 = .ok (.iload_n 3, 1) by decide +kernel) rfl ?_
  refine s_iconst (show decode (am_cc mL) 1027 = .ok (.iconst 2, 1) by decide +kernel) (by unfold am_i32; omega) ?_
  refine s_iadd (show decode (am_cc mL) 1028 = .ok (.iadd, 1) by decide +kernel) (by unfold am_i32; omega) ?_
  refine s_sload rfl (show decode (am_cc mL) 1029 = .ok (.iaload, 1) by decide +kernel) (by omega) (by omega) ?_
  refine s_aload_n (k0 := 0) (x := -2) (show decode (am_cc mL) 1030 = .ok (.aload_n 0, 1) by decide +kernel) rfl ?_
  refine s_iload_n (k0 := 3) (x := i) (show decode (am_cc mL) 1031 = .ok (.iload_n 3, 1) by decide +kernel) rfl ?_
  refine s_iconst (show decode (am_cc mL) 1032 = .ok (.iconst 3, 1) by decide +kernel) (by unfold am_i32; omega) ?_
  refine s_iadd (show decode (am_cc mL) 1033 = .ok (.iadd, 1) by decide +kernel) (by unfold am_i32; omega) ?_
  refine s_sload rfl (show decode (am_cc mL) 1034 = .ok (.iaload, 1) by decide +kernel) (by omega) (by omega) ?_
  refine n_callV (as := [vi _, vi _, vi _]) (a := 0) (stk := []) (show decode (am_cc mL) 1035 = .ok (.invokevirtual 88, 3) by decide +kernel) lk_RL_88 kdL0 (by decide) rfl rfl (by decide) (Nat.le_of_ble_eq_true rfl) ⟨rfl, rfl⟩ ?_
  refine am_CallN_mono (fun r M1 h => ?_) (am_CallN_neg (am_CallKS rfl (e_stays hI)))
  obtain ⟨⟨h, hs⟩, hn⟩ := h
  obtain ⟨x, rfl⟩ := hs.1 rfl
  have hn2 : ∀ j : Int, M1 (-2) j = M (-2) j := fun j => hn _ j (by omega)
  show am_At mL 1038 _ [vi x] _ M1 Q
  refine s_aload_n (k0 := 2) (x := 86) (show decode (am_cc mL) 1038 = .ok (.aload_n 2, 1) by decide +kernel) rfl ?_
  refine s_aload_n (k0 := 0) (x := -2) (show decode (am_cc mL) 1039 = .ok (.aload_n 0, 1) by decide +kernel) rfl ?_
  refine s_iload_n (k0 := 3) (x := i) (show decode (am_cc mL) 1040 = .ok (.iload_n 3, 1) by decide +kernel) rfl ?_
  refine s_iconst (show decode (am_cc mL) 1041 = .ok (.iconst 1, 1) by decide +kernel) (by unfold am_i32; omega) ?_
  refine s_iadd (show decode (am_cc mL) 1042 = .ok (.iadd, 1) by decide +kernel) (by unfold am_i32; omega) ?_
  refine s_sload rfl (show decode (am_cc mL) 1043 = .ok (.iaload, 1) by decide +kernel) (by omega) (by rw [hn2]; omega) ?_
  refine s_aload_n (k0 := 0) (x := -2) (show decode (am_cc mL) 1044 = .ok (.aload_n 0, 1) by decide +kernel) rfl ?_
  refine s_iload_n (k0 := 3) (x := i) (show decode (am_cc mL) 1045 = .ok (.iload_n 3, 1) by decide +kernel) rfl ?_
  refine s_iconst (show decode (am_cc mL) 1046 = .ok (.iconst 2, 1) by decide +kernel) (by unfold am_i32; omega) ?_
  refine s_iadd (show decode (am_cc mL) 1047 = .ok (.iadd, 1) by decide +kernel) (by unfold am_i32; omega) ?_
  refine s_sload rfl (show decode (am_cc mL) 1048 = .ok (.iaload, 1) by decide +kernel) (by omega) (by rw [hn2]; omega) ?_
  refine s_aload_n (k0 := 0) (x := -2) (show decode (am_cc mL) 1049 = .ok (.aload_n 0, 1) by decide +kernel) rfl ?_
  refine s_iload_n (k0 := 3) (x := i) (show decode (am_cc mL) 1050 = .ok (.iload_n 3, 1) by decide +kernel) rfl ?_
  refine s_iconst (show decode (am_cc mL) 1051 = .ok (.iconst 3, 1) by decide +kernel) (by unfold am_i32; omega) ?_
  refine s_iadd (show decode (am_cc mL) 1052 = .ok (.iadd, 1) by decide +kernel) (by unfold am_i32; omega) ?_
  refine s_sload rfl (show decode (am_cc mL) 1053 = .ok (.iaload, 1) by decide +kernel) (by omega) (by rw [hn2]; omega) ?_
  refine n_callV (as := [vi _, vi _, vi _]) (a := 86) (stk := [vi x]) (show decode (am_cc mL) 1054 = .ok (.invokevirtual 91, 3) by decide +kernel) lk_RL_91 kdL86 (by decide) rfl rfl (by decide) (Nat.le_of_ble_eq_true rfl) ⟨rfl, rfl⟩ ?_
  try simp only [hn2]
  refine am_CallN_mono (fun r' M2 h2 => ?_) (am_CallN_neg (am_CallKS rfl h))
  obtain ⟨⟨rfl, hI2⟩, hn3⟩ := h2
  show am_At mL 1057 _ [vi x, vi x] _ M2 Q
  exact s_icmp_eq (tgt := 1506) (show decode (am_cc mL) 1057 = .ok (.if_icmp .eq 449, 3) by decide +kernel) (by decide) (fun _ => k M2 hI2 (by rw [hn3 _ _ (by omega), hn2])) (fun q => absurd rfl q)
theorem L_18 (hI : Inv S M) (h0 : 0 ≤ i) (h6 : i + 6 ≤ M (-2) (-1)) (hL : M (-2) (-1) ≤ 3072) (k : ∀ M2, Inv S M2 → M2 (-2) (-1) = M (-2) (-1) → am_At mL 1506 [some (vr (-2)), some (vr 0), some (vr 86), some (vi i)] [] (SH, 113, 141272) M2 Q) : am_At mL 1062 [some (vr (-2)), some (vr 0), some (vr 86), some (vi i)] [] (SH, 113, 141272) M Q := by
  refine s_aload_n (k0 := 1) (x := 0) (show decode (am_cc mL) 1062 = .ok (.aload_n 1, 1) by decide +kernel) rfl ?_
  refine s_aload_n (k0 := 0) (x := -2) (show decode (am_cc mL) 1063 = .ok (.aload_n 0, 1) by decide +kernel) rfl ?_
  refine s_iload_n (k0 := 3) (x := i) (show decode (am_cc mL) 1064 = .ok (.iload_n 3, 1) by decide +kernel) rfl ?_
  refine s_iconst (show decode (am_cc mL) 1065 = .ok (.iconst 1, 1) by decide +kernel) (by unfold am_i32; omega) ?_
  refine s_iadd (show decode (am_cc mL) 1066 = .ok (.iadd, 1) by decide +kernel) (by unfold am_i32; omega) ?_
  refine s_sload rfl (show decode (am_cc mL) 1067 = .ok (.iaload, 1) by decide +kernel) (by omega) (by omega) ?_
  refine s_aload_n (k0 := 0) (x := -2) (show decode (am_cc mL) 1068 = .ok (.aload_n 0, 1) by decide +kernel) rfl ?_
  refine s_iload_n (k0 := 3) (x := i) (show decode (am_cc mL) 1069 = .ok (.iload_n 3, 1) by decide +kernel) rfl ?_
  refine s_iconst (show decode (am_cc mL) 1070 = .ok (.iconst 2, 1) by decide +kernel) (by unfold am_i32; omega) ?_
  refine s_iadd (show decode (am_cc mL) 1071 = .ok (.iadd, 1) by decide +kernel) (by unfold am_i32; omega) ?_
  refine s_sload rfl (show decode (am_cc mL) 1072 = .ok (.iaload, 1) by decide +kernel) (by omega) (by omega) ?_
  refine s_aload_n (k0 := 0) (x := -2) (show decode (am_cc mL) 1073 = .ok (.aload_n 0, 1) by decide +kernel) rfl ?_
  refine s_iload_n (k0 := 3) (x := i) (show decode (am_cc mL) 1074 = .ok (.iload_n 3, 1) by decide +kernel) rfl ?_
  refine s_iconst (show decode (am_cc mL) 1075 = .ok (.iconst 3, 1) by decide +kernel) (by unfold am_i32; omega) ?_
  refine s_iadd (show decode (am_cc mL) 1076 = .ok (.iadd, 1) by decide +kernel) (by unfold am_i32; omega) ?_
  refine s_sload rfl (show decode (am_cc mL) 1077 = .ok (.iaload, 1) by decide +kernel) (by omega) (by omega) ?_
  refine n_callV (as := [vi _, vi _, vi _]) (a := 0) (stk := []) (show decode (am_cc mL) 1078 = .ok (.invokevirtual 92, 3) by decide +kernel) lk_RL_92 kdL0 (by decide) rfl rfl (by decide) (Nat.le_of_ble_eq_true rfl) ⟨rfl, rfl⟩ ?_
  refine am_CallN_mono (fun r M1 h => ?_) (am_CallN_neg (am_CallKS rfl (e_witness hI)))
  obtain ⟨⟨h, hs⟩, hn⟩ := h
  obtain ⟨x, rfl⟩ := hs.1 rfl
  have hn2 : ∀ j : Int, M1 (-2) j = M (-2) j := fun j => hn _ j (by omega)
  show am_At mL 1081 _ [vi x] _ M1 Q
  refine s_aload_n (k0 := 2) (x := 86) (show decode (am_cc mL) 1081 = .ok (.aload_n 2, 1) by decide +kernel) rfl ?_
  refine s_aload_n (k0 := 0) (x := -2) (show decode (am_cc mL) 1082 = .ok (.aload_n 0, 1) by decide +kernel) rfl ?_
  refine s_iload_n (k0 := 3) (x := i) (show decode (am_cc mL) 1083 = .ok (.iload_n 3, 1) by decide +kernel) rfl ?_
  refine s_iconst (show decode (am_cc mL) 1084 = .ok (.iconst 1, 1) by decide +kernel) (by unfold am_i32; omega) ?_
  refine s_iadd (show decode (am_cc mL) 1085 = .ok (.iadd, 1) by decide +kernel) (by unfold am_i32; omega) ?_
  refine s_sload rfl (show decode (am_cc mL) 1086 = .ok (.iaload, 1) by decide +kernel) (by omega) (by rw [hn2]; omega) ?_
  refine s_aload_n (k0 := 0) (x := -2) (show decode (am_cc mL) 1087 = .ok (.aload_n 0, 1) by decide +kernel) rfl ?_
  refine s_iload_n (k0 := 3) (x := i) (show decode (am_cc mL) 1088 = .ok (.iload_n 3, 1) by decide +kernel) rfl ?_
  refine s_iconst (show decode (am_cc mL) 1089 = .ok (.iconst 2, 1) by decide +kernel) (by unfold am_i32; omega) ?_
  refine s_iadd (show decode (am_cc mL) 1090 = .ok (.iadd, 1) by decide +kernel) (by unfold am_i32; omega) ?_
  refine s_sload rfl (show decode (am_cc mL) 1091 = .ok (.iaload, 1) by decide +kernel) (by omega) (by rw [hn2]; omega) ?_
  refine s_aload_n (k0 := 0) (x := -2) (show decode (am_cc mL) 1092 = .ok (.aload_n 0, 1) by decide +kernel) rfl ?_
  refine s_iload_n (k0 := 3) (x := i) (show decode (am_cc mL) 1093 = .ok (.iload_n 3, 1) by decide +kernel) rfl ?_
  refine s_iconst (show decode (am_cc mL) 1094 = .ok (.iconst 3, 1) by decide +kernel) (by unfold am_i32; omega) ?_
  refine s_iadd (show decode (am_cc mL) 1095 = .ok (.iadd, 1) by decide +kernel) (by unfold am_i32; omega) ?_
  refine s_sload rfl (show decode (am_cc mL) 1096 = .ok (.iaload, 1) by decide +kernel) (by omega) (by rw [hn2]; omega) ?_
  refine n_callV (as := [vi _, vi _, vi _]) (a := 86) (stk := [vi x]) (show decode (am_cc mL) 1097 = .ok (.invokevirtual 95, 3) by decide +kernel) lk_RL_95 kdL86 (by decide) rfl rfl (by decide) (Nat.le_of_ble_eq_true rfl) ⟨rfl, rfl⟩ ?_
  try simp only [hn2]
  refine am_CallN_mono (fun r' M2 h2 => ?_) (am_CallN_neg (am_CallKS rfl h))
  obtain ⟨⟨rfl, hI2⟩, hn3⟩ := h2
  show am_At mL 1100 _ [vi x, vi x] _ M2 Q
  exact s_icmp_eq (tgt := 1506) (show decode (am_cc mL) 1100 = .ok (.if_icmp .eq 406, 3) by decide +kernel) (by decide) (fun _ => k M2 hI2 (by rw [hn3 _ _ (by omega), hn2])) (fun q => absurd rfl q)
theorem L_19 (hI : Inv S M) (h0 : 0 ≤ i) (h6 : i + 6 ≤ M (-2) (-1)) (hL : M (-2) (-1) ≤ 3072) (k : ∀ M2, Inv S M2 → M2 (-2) (-1) = M (-2) (-1) → am_At mL 1506 [some (vr (-2)), some (vr 0), some (vr 86), some (vi i)] [] (SH, 113, 141272) M2 Q) : am_At mL 1105 [some (vr (-2)), some (vr 0), some (vr 86), some (vi i)] [] (SH, 113, 141272) M Q := by
  refine s_aload_n (k0 := 1) (x := 0) (show decode (am_cc mL) 1105 = .ok (.aload_n 1, 1) by decide +kernel) rfl ?_
  refine s_aload_n (k0 := 0) (x := -2) (show decode (am_cc mL) 1106 = .ok (.aload_n 0, 1) by decide +kernel) rfl ?_
  refine s_iload_n (k0 := 3) (x := i) (show decode (am_cc mL) 1107 = .ok (.iload_n 3, 1) by decide +kernel) rfl ?_
  refine s_iconst (show decode (am_cc mL) 1108 = .ok (.iconst 1, 1) by decide +kernel) (by unfold am_i32; omega) ?_
  refine s_iadd (show decode (am_cc mL) 1109 = .ok (.iadd, 1) by decide +kernel) (by unfold am_i32; omega) ?_
  refine s_sload rfl (show decode (am_cc mL) 1110 = .ok (.iaload, 1) by decide +kernel) (by omega) (by omega) ?_
  refine s_aload_n (k0 := 0) (x := -2) (show decode (am_cc mL) 1111 = .ok (.aload_n 0, 1) by decide +kernel) rfl ?_
  refine s_iload_n (k0 := 3) (x := i) (show decode (am_cc mL) 1112 = .ok (.iload_n 3, 1) by decide +kernel) rfl ?_
  refine s_iconst (show decode (am_cc mL) 1113 = .ok (.iconst 2, 1) by decide +kernel) (by unfold am_i32; omega) ?_
  refine s_iadd (show decode (am_cc mL) 1114 = .ok (.iadd, 1) by decide +kernel) (by unfold am_i32; omega) ?_
  refine s_sload rfl (show decode (am_cc mL) 1115 = .ok (.iaload, 1) by decide +kernel) (by omega) (by omega) ?_
  refine s_aload_n (k0 := 0) (x := -2) (show decode (am_cc mL) 1116 = .ok (.aload_n 0, 1) by decide +kernel) rfl ?_
  refine s_iload_n (k0 := 3) (x := i) (show decode (am_cc mL) 1117 = .ok (.iload_n 3, 1) by decide +kernel) rfl ?_
  refine s_iconst (show decode (am_cc mL) 1118 = .ok (.iconst 3, 1) by decide +kernel) (by unfold am_i32; omega) ?_
  refine s_iadd (show decode (am_cc mL) 1119 = .ok (.iadd, 1) by decide +kernel) (by unfold am_i32; omega) ?_
  refine s_sload rfl (show decode (am_cc mL) 1120 = .ok (.iaload, 1) by decide +kernel) (by omega) (by omega) ?_
  refine n_callV (as := [vi _, vi _, vi _]) (a := 0) (stk := []) (show decode (am_cc mL) 1121 = .ok (.invokevirtual 96, 3) by decide +kernel) lk_RL_96 kdL0 (by decide) rfl rfl (by decide) (Nat.le_of_ble_eq_true rfl) ⟨rfl, rfl⟩ ?_
  refine am_CallN_mono (fun r M1 h => ?_) (am_CallN_neg (am_CallKS rfl (e_agree hI)))
  obtain ⟨⟨h, hs⟩, hn⟩ := h
  obtain ⟨x, rfl⟩ := hs.1 rfl
  have hn2 : ∀ j : Int, M1 (-2) j = M (-2) j := fun j => hn _ j (by omega)
  show am_At mL 1124 _ [vi x] _ M1 Q
  refine s_aload_n (k0 := 2) (x := 86) (show decode (am_cc mL) 1124 = .ok (.aload_n 2, 1) by decide +kernel) rfl ?_
  refine s_aload_n (k0 := 0) (x := -2) (show decode (am_cc mL) 1125 = .ok (.aload_n 0, 1) by decide +kernel) rfl ?_
  refine s_iload_n (k0 := 3) (x := i) (show decode (am_cc mL) 1126 = .ok (.iload_n 3, 1) by decide +kernel) rfl ?_
  refine s_iconst (show decode (am_cc mL) 1127 = .ok (.iconst 1, 1) by decide +kernel) (by unfold am_i32; omega) ?_
  refine s_iadd (show decode (am_cc mL) 1128 = .ok (.iadd, 1) by decide +kernel) (by unfold am_i32; omega) ?_
  refine s_sload rfl (show decode (am_cc mL) 1129 = .ok (.iaload, 1) by decide +kernel) (by omega) (by rw [hn2]; omega) ?_
  refine s_aload_n (k0 := 0) (x := -2) (show decode (am_cc mL) 1130 = .ok (.aload_n 0, 1) by decide +kernel) rfl ?_
  refine s_iload_n (k0 := 3) (x := i) (show decode (am_cc mL) 1131 = .ok (.iload_n 3, 1) by decide +kernel) rfl ?_
  refine s_iconst (show decode (am_cc mL) 1132 = .ok (.iconst 2, 1) by decide +kernel) (by unfold am_i32; omega) ?_
  refine s_iadd (show decode (am_cc mL) 1133 = .ok (.iadd, 1) by decide +kernel) (by unfold am_i32; omega) ?_
  refine s_sload rfl (show decode (am_cc mL) 1134 = .ok (.iaload, 1) by decide +kernel) (by omega) (by rw [hn2]; omega) ?_
  refine s_aload_n (k0 := 0) (x := -2) (show decode (am_cc mL) 1135 = .ok (.aload_n 0, 1) by decide +kernel) rfl ?_
  refine s_iload_n (k0 := 3) (x := i) (show decode (am_cc mL) 1136 = .ok (.iload_n 3, 1) by decide +kernel) rfl ?_
  refine s_iconst (show decode (am_cc mL) 1137 = .ok (.iconst 3, 1) by decide +kernel) (by unfold am_i32; omega) ?_
  refine s_iadd (show decode (am_cc mL) 1138 = .ok (.iadd, 1) by decide +kernel) (by unfold am_i32; omega) ?_
  refine s_sload rfl (show decode (am_cc mL) 1139 = .ok (.iaload, 1) by decide +kernel) (by omega) (by rw [hn2]; omega) ?_
  refine n_callV (as := [vi _, vi _, vi _]) (a := 86) (stk := [vi x]) (show decode (am_cc mL) 1140 = .ok (.invokevirtual 99, 3) by decide +kernel) lk_RL_99 kdL86 (by decide) rfl rfl (by decide) (Nat.le_of_ble_eq_true rfl) ⟨rfl, rfl⟩ ?_
  try simp only [hn2]
  refine am_CallN_mono (fun r' M2 h2 => ?_) (am_CallN_neg (am_CallKS rfl h))
  obtain ⟨⟨rfl, hI2⟩, hn3⟩ := h2
  show am_At mL 1143 _ [vi x, vi x] _ M2 Q
  exact s_icmp_eq (tgt := 1506) (show decode (am_cc mL) 1143 = .ok (.if_icmp .eq 363, 3) by decide +kernel) (by decide) (fun _ => k M2 hI2 (by rw [hn3 _ _ (by omega), hn2])) (fun q => absurd rfl q)
theorem L_20 (hI : Inv S M) (h0 : 0 ≤ i) (h6 : i + 6 ≤ M (-2) (-1)) (hL : M (-2) (-1) ≤ 3072) (k : ∀ M2, Inv S M2 → M2 (-2) (-1) = M (-2) (-1) → am_At mL 1506 [some (vr (-2)), some (vr 0), some (vr 86), some (vi i)] [] (SH, 113, 141272) M2 Q) : am_At mL 1148 [some (vr (-2)), some (vr 0), some (vr 86), some (vi i)] [] (SH, 113, 141272) M Q := by
  refine s_aload_n (k0 := 1) (x := 0) (show decode (am_cc mL) 1148 = .ok (.aload_n 1, 1) by decide +kernel) rfl ?_
  refine s_aload_n (k0 := 0) (x := -2) (show decode (am_cc mL) 1149 = .ok (.aload_n 0, 1) by decide +kernel) rfl ?_
  refine s_iload_n (k0 := 3) (x := i) (show decode (am_cc mL) 1150 = .ok (.iload_n 3, 1) by decide +kernel) rfl ?_
  refine s_iconst (show decode (am_cc mL) 1151 = .ok (.iconst 1, 1) by decide +kernel) (by unfold am_i32; omega) ?_
  refine s_iadd (show decode (am_cc mL) 1152 = .ok (.iadd, 1) by decide +kernel) (by unfold am_i32; omega) ?_
  refine s_sload rfl (show decode (am_cc mL) 1153 = .ok (.iaload, 1) by decide +kernel) (by omega) (by omega) ?_
  refine s_aload_n (k0 := 0) (x := -2) (show decode (am_cc mL) 1154 = .ok (.aload_n 0, 1) by decide +kernel) rfl ?_
  refine s_iload_n (k0 := 3) (x := i) (show decode (am_cc mL) 1155 = .ok (.iload_n 3, 1) by decide +kernel) rfl ?_
  refine s_iconst (show decode (am_cc mL) 1156 = .ok (.iconst 2, 1) by decide +kernel) (by unfold am_i32; omega) ?_
  refine s_iadd (show decode (am_cc mL) 1157 = .ok (.iadd, 1) by decide +kernel) (by unfold am_i32; omega) ?_
  refine s_sload rfl (show decode (am_cc mL) 1158 = .ok (.iaload, 1) by decide +kernel) (by omega) (by omega) ?_
  refine n_callV (as := [vi _, vi _]) (a := 0) (stk := []) (show decode (am_cc mL) 1159 = .ok (.invokevirtual 100, 3) by decide +kernel) lk_RL_100 kdL0 (by decide) rfl rfl (by decide) (Nat.le_of_ble_eq_true rfl) ⟨rfl, rfl⟩ ?_
  refine am_CallN_mono (fun r M1 h => ?_) (am_CallN_neg (am_CallKS rfl (e_follows hI)))
  obtain ⟨⟨h, hs⟩, hn⟩ := h
  obtain ⟨x, rfl⟩ := hs.1 rfl
  have hn2 : ∀ j : Int, M1 (-2) j = M (-2) j := fun j => hn _ j (by omega)
  show am_At mL 1162 _ [vi x] _ M1 Q
  refine s_aload_n (k0 := 2) (x := 86) (show decode (am_cc mL) 1162 = .ok (.aload_n 2, 1) by decide +kernel) rfl ?_
  refine s_aload_n (k0 := 0) (x := -2) (show decode (am_cc mL) 1163 = .ok (.aload_n 0, 1) by decide +kernel) rfl ?_
  refine s_iload_n (k0 := 3) (x := i) (show decode (am_cc mL) 1164 = .ok (.iload_n 3, 1) by decide +kernel) rfl ?_
  refine s_iconst (show decode (am_cc mL) 1165 = .ok (.iconst 1, 1) by decide +kernel) (by unfold am_i32; omega) ?_
  refine s_iadd (show decode (am_cc mL) 1166 = .ok (.iadd, 1) by decide +kernel) (by unfold am_i32; omega) ?_
  refine s_sload rfl (show decode (am_cc mL) 1167 = .ok (.iaload, 1) by decide +kernel) (by omega) (by rw [hn2]; omega) ?_
  refine s_aload_n (k0 := 0) (x := -2) (show decode (am_cc mL) 1168 = .ok (.aload_n 0, 1) by decide +kernel) rfl ?_
  refine s_iload_n (k0 := 3) (x := i) (show decode (am_cc mL) 1169 = .ok (.iload_n 3, 1) by decide +kernel) rfl ?_
  refine s_iconst (show decode (am_cc mL) 1170 = .ok (.iconst 2, 1) by decide +kernel) (by unfold am_i32; omega) ?_
  refine s_iadd (show decode (am_cc mL) 1171 = .ok (.iadd, 1) by decide +kernel) (by unfold am_i32; omega) ?_
  refine s_sload rfl (show decode (am_cc mL) 1172 = .ok (.iaload, 1) by decide +kernel) (by omega) (by rw [hn2]; omega) ?_
  refine n_callV (as := [vi _, vi _]) (a := 86) (stk := [vi x]) (show decode (am_cc mL) 1173 = .ok (.invokevirtual 103, 3) by decide +kernel) lk_RL_103 kdL86 (by decide) rfl rfl (by decide) (Nat.le_of_ble_eq_true rfl) ⟨rfl, rfl⟩ ?_
  try simp only [hn2]
  refine am_CallN_mono (fun r' M2 h2 => ?_) (am_CallN_neg (am_CallKS rfl h))
  obtain ⟨⟨rfl, hI2⟩, hn3⟩ := h2
  show am_At mL 1176 _ [vi x, vi x] _ M2 Q
  exact s_icmp_eq (tgt := 1506) (show decode (am_cc mL) 1176 = .ok (.if_icmp .eq 330, 3) by decide +kernel) (by decide) (fun _ => k M2 hI2 (by rw [hn3 _ _ (by omega), hn2])) (fun q => absurd rfl q)
theorem L_21 (hI : Inv S M) (h0 : 0 ≤ i) (h6 : i + 6 ≤ M (-2) (-1)) (hL : M (-2) (-1) ≤ 3072) (k : ∀ M2, Inv S M2 → M2 (-2) (-1) = M (-2) (-1) → am_At mL 1506 [some (vr (-2)), some (vr 0), some (vr 86), some (vi i)] [] (SH, 113, 141272) M2 Q) : am_At mL 1181 [some (vr (-2)), some (vr 0), some (vr 86), some (vi i)] [] (SH, 113, 141272) M Q := by
  refine s_aload_n (k0 := 1) (x := 0) (show decode (am_cc mL) 1181 = .ok (.aload_n 1, 1) by decide +kernel) rfl ?_
  refine s_aload_n (k0 := 0) (x := -2) (show decode (am_cc mL) 1182 = .ok (.aload_n 0, 1) by decide +kernel) rfl ?_
  refine s_iload_n (k0 := 3) (x := i) (show decode (am_cc mL) 1183 = .ok (.iload_n 3, 1) by decide +kernel) rfl ?_
  refine s_iconst (show decode (am_cc mL) 1184 = .ok (.iconst 1, 1) by decide +kernel) (by unfold am_i32; omega) ?_
  refine s_iadd (show decode (am_cc mL) 1185 = .ok (.iadd, 1) by decide +kernel) (by unfold am_i32; omega) ?_
  refine s_sload rfl (show decode (am_cc mL) 1186 = .ok (.iaload, 1) by decide +kernel) (by omega) (by omega) ?_
  refine s_aload_n (k0 := 0) (x := -2) (show decode (am_cc mL) 1187 = .ok (.aload_n 0, 1) by decide +kernel) rfl ?_
  refine s_iload_n (k0 := 3) (x := i) (show decode (am_cc mL) 1188 = .ok (.iload_n 3, 1) by decide +kernel) rfl ?_
  refine s_iconst (show decode (am_cc mL) 1189 = .ok (.iconst 2, 1) by decide +kernel) (by unfold am_i32; omega) ?_
  refine s_iadd (show decode (am_cc mL) 1190 = .ok (.iadd, 1) by decide +kernel) (by unfold am_i32; omega) ?_
  refine s_sload rfl (show decode (am_cc mL) 1191 = .ok (.iaload, 1) by decide +kernel) (by omega) (by omega) ?_
  refine s_aload_n (k0 := 0) (x := -2) (show decode (am_cc mL) 1192 = .ok (.aload_n 0, 1) by decide +kernel) rfl ?_
  refine s_iload_n (k0 := 3) (x := i) (show decode (am_cc mL) 1193 = .ok (.iload_n 3, 1) by decide +kernel) rfl ?_
  refine s_iconst (show decode (am_cc mL) 1194 = .ok (.iconst 3, 1) by decide +kernel) (by unfold am_i32; omega) ?_
  refine s_iadd (show decode (am_cc mL) 1195 = .ok (.iadd, 1) by decide +kernel) (by unfold am_i32; omega) ?_
  refine s_sload rfl (show decode (am_cc mL) 1196 = .ok (.iaload, 1) by decide +kernel) (by omega) (by omega) ?_
  refine n_callV (as := [vi _, vi _, vi _]) (a := 0) (stk := []) (show decode (am_cc mL) 1197 = .ok (.invokevirtual 104, 3) by decide +kernel) lk_RL_104 kdL0 (by decide) rfl rfl (by decide) (Nat.le_of_ble_eq_true rfl) ⟨rfl, rfl⟩ ?_
  refine am_CallN_mono (fun r M1 h => ?_) (am_CallN_neg (am_CallKS rfl (e_unless hI)))
  obtain ⟨⟨h, hs⟩, hn⟩ := h
  obtain ⟨x, rfl⟩ := hs.1 rfl
  have hn2 : ∀ j : Int, M1 (-2) j = M (-2) j := fun j => hn _ j (by omega)
  show am_At mL 1200 _ [vi x] _ M1 Q
  refine s_aload_n (k0 := 2) (x := 86) (show decode (am_cc mL) 1200 = .ok (.aload_n 2, 1) by decide +kernel) rfl ?_
  refine s_aload_n (k0 := 0) (x := -2) (show decode (am_cc mL) 1201 = .ok (.aload_n 0, 1) by decide +kernel) rfl ?_
  refine s_iload_n (k0 := 3) (x := i) (show decode (am_cc mL) 1202 = .ok (.iload_n 3, 1) by decide +kernel) rfl ?_
  refine s_iconst (show decode (am_cc mL) 1203 = .ok (.iconst 1, 1) by decide +kernel) (by unfold am_i32; omega) ?_
  refine s_iadd (show decode (am_cc mL) 1204 = .ok (.iadd, 1) by decide +kernel) (by unfold am_i32; omega) ?_
  refine s_sload rfl (show decode (am_cc mL) 1205 = .ok (.iaload, 1) by decide +kernel) (by omega) (by rw [hn2]; omega) ?_
  refine s_aload_n (k0 := 0) (x := -2) (show decode (am_cc mL) 1206 = .ok (.aload_n 0, 1) by decide +kernel) rfl ?_
  refine s_iload_n (k0 := 3) (x := i) (show decode (am_cc mL) 1207 = .ok (.iload_n 3, 1) by decide +kernel) rfl ?_
  refine s_iconst (show decode (am_cc mL) 1208 = .ok (.iconst 2, 1) by decide +kernel) (by unfold am_i32; omega) ?_
  refine s_iadd (show decode (am_cc mL) 1209 = .ok (.iadd, 1) by decide +kernel) (by unfold am_i32; omega) ?_
  refine s_sload rfl (show decode (am_cc mL) 1210 = .ok (.iaload, 1) by decide +kernel) (by omega) (by rw [hn2]; omega) ?_
  refine s_aload_n (k0 := 0) (x := -2) (show decode (am_cc mL) 1211 = .ok (.aload_n 0, 1) by decide +kernel) rfl ?_
  refine s_iload_n (k0 := 3) (x := i) (show decode (am_cc mL) 1212 = .ok (.iload_n 3, 1) by decide +kernel) rfl ?_
  refine s_iconst (show decode (am_cc mL) 1213 = .ok (.iconst 3, 1) by decide +kernel) (by unfold am_i32; omega) ?_
  refine s_iadd (show decode (am_cc mL) 1214 = .ok (.iadd, 1) by decide +kernel) (by unfold am_i32; omega) ?_
  refine s_sload rfl (show decode (am_cc mL) 1215 = .ok (.iaload, 1) by decide +kernel) (by omega) (by rw [hn2]; omega) ?_
  refine n_callV (as := [vi _, vi _, vi _]) (a := 86) (stk := [vi x]) (show decode (am_cc mL) 1216 = .ok (.invokevirtual 107, 3) by decide +kernel) lk_RL_107 kdL86 (by decide) rfl rfl (by decide) (Nat.le_of_ble_eq_true rfl) ⟨rfl, rfl⟩ ?_
  try simp only [hn2]
  refine am_CallN_mono (fun r' M2 h2 => ?_) (am_CallN_neg (am_CallKS rfl h))
  obtain ⟨⟨rfl, hI2⟩, hn3⟩ := h2
  show am_At mL 1219 _ [vi x, vi x] _ M2 Q
  exact s_icmp_eq (tgt := 1506) (show decode (am_cc mL) 1219 = .ok (.if_icmp .eq 287, 3) by decide +kernel) (by decide) (fun _ => k M2 hI2 (by rw [hn3 _ _ (by omega), hn2])) (fun q => absurd rfl q)
theorem L_22 (hI : Inv S M) (h0 : 0 ≤ i) (h6 : i + 6 ≤ M (-2) (-1)) (hL : M (-2) (-1) ≤ 3072) (k : ∀ M2, Inv S M2 → M2 (-2) (-1) = M (-2) (-1) → am_At mL 1506 [some (vr (-2)), some (vr 0), some (vr 86), some (vi i)] [] (SH, 113, 141272) M2 Q) : am_At mL 1224 [some (vr (-2)), some (vr 0), some (vr 86), some (vi i)] [] (SH, 113, 141272) M Q := by
  refine s_aload_n (k0 := 1) (x := 0) (show decode (am_cc mL) 1224 = .ok (.aload_n 1, 1) by decide +kernel) rfl ?_
  refine s_aload_n (k0 := 0) (x := -2) (show decode (am_cc mL) 1225 = .ok (.aload_n 0, 1) by decide +kernel) rfl ?_
  refine s_iload_n (k0 := 3) (x := i) (show decode (am_cc mL) 1226 = .ok (.iload_n 3, 1) by decide +kernel) rfl ?_
  refine s_iconst (show decode (am_cc mL) 1227 = .ok (.iconst 1, 1) by decide +kernel) (by unfold am_i32; omega) ?_
  refine s_iadd (show decode (am_cc mL) 1228 = .ok (.iadd, 1) by decide +kernel) (by unfold am_i32; omega) ?_
  refine s_sload rfl (show decode (am_cc mL) 1229 = .ok (.iaload, 1) by decide +kernel) (by omega) (by omega) ?_
  refine s_aload_n (k0 := 0) (x := -2) (show decode (am_cc mL) 1230 = .ok (.aload_n 0, 1) by decide +kernel) rfl ?_
  refine s_iload_n (k0 := 3) (x := i) (show decode (am_cc mL) 1231 = .ok (.iload_n 3, 1) by decide +kernel) rfl ?_
  refine s_iconst (show decode (am_cc mL) 1232 = .ok (.iconst 2, 1) by decide +kernel) (by unfold am_i32; omega) ?_
  refine s_iadd (show decode (am_cc mL) 1233 = .ok (.iadd, 1) by decide +kernel) (by unfold am_i32; omega) ?_
  refine s_sload rfl (show decode (am_cc mL) 1234 = .ok (.iaload, 1) by decide +kernel) (by omega) (by omega) ?_
  refine n_callV (as := [vi _, vi _]) (a := 0) (stk := []) (show decode (am_cc mL) 1235 = .ok (.invokevirtual 108, 3) by decide +kernel) lk_RL_108 kdL0 (by decide) rfl rfl (by decide) (Nat.le_of_ble_eq_true rfl) ⟨rfl, rfl⟩ ?_
  refine am_CallN_mono (fun r M1 h => ?_) (am_CallN_neg (am_CallKS rfl (e_rows hI)))
  obtain ⟨⟨h, hs⟩, hn⟩ := h
  obtain ⟨x, rfl⟩ := hs.2 rfl
  have hn2 : ∀ j : Int, M1 (-2) j = M (-2) j := fun j => hn _ j (by omega)
  show am_At mL 1238 _ [vl x] _ M1 Q
  refine s_aload_n (k0 := 2) (x := 86) (show decode (am_cc mL) 1238 = .ok (.aload_n 2, 1) by decide +kernel) rfl ?_
  refine s_aload_n (k0 := 0) (x := -2) (show decode (am_cc mL) 1239 = .ok (.aload_n 0, 1) by decide +kernel) rfl ?_
  refine s_iload_n (k0 := 3) (x := i) (show decode (am_cc mL) 1240 = .ok (.iload_n 3, 1) by decide +kernel) rfl ?_
  refine s_iconst (show decode (am_cc mL) 1241 = .ok (.iconst 1, 1) by decide +kernel) (by unfold am_i32; omega) ?_
  refine s_iadd (show decode (am_cc mL) 1242 = .ok (.iadd, 1) by decide +kernel) (by unfold am_i32; omega) ?_
  refine s_sload rfl (show decode (am_cc mL) 1243 = .ok (.iaload, 1) by decide +kernel) (by omega) (by rw [hn2]; omega) ?_
  refine s_aload_n (k0 := 0) (x := -2) (show decode (am_cc mL) 1244 = .ok (.aload_n 0, 1) by decide +kernel) rfl ?_
  refine s_iload_n (k0 := 3) (x := i) (show decode (am_cc mL) 1245 = .ok (.iload_n 3, 1) by decide +kernel) rfl ?_
  refine s_iconst (show decode (am_cc mL) 1246 = .ok (.iconst 2, 1) by decide +kernel) (by unfold am_i32; omega) ?_
  refine s_iadd (show decode (am_cc mL) 1247 = .ok (.iadd, 1) by decide +kernel) (by unfold am_i32; omega) ?_
  refine s_sload rfl (show decode (am_cc mL) 1248 = .ok (.iaload, 1) by decide +kernel) (by omega) (by rw [hn2]; omega) ?_
  refine n_callV (as := [vi _, vi _]) (a := 86) (stk := [vl x]) (show decode (am_cc mL) 1249 = .ok (.invokevirtual 112, 3) by decide +kernel) lk_RL_112 kdL86 (by decide) rfl rfl (by decide) (Nat.le_of_ble_eq_true rfl) ⟨rfl, rfl⟩ ?_
  try simp only [hn2]
  refine am_CallN_mono (fun r' M2 h2 => ?_) (am_CallN_neg (am_CallKS rfl h))
  obtain ⟨⟨rfl, hI2⟩, hn3⟩ := h2
  show am_At mL 1252 _ [vl x, vl x] _ M2 Q
  refine s_lcmp (show decode (am_cc mL) 1252 = .ok (.lcmp, 1) by decide +kernel) ?_
  rw [if_neg (Int.lt_irrefl x), if_pos rfl]
  exact s_if_eq (tgt := 1506) (show decode (am_cc mL) 1253 = .ok (.ifCond .eq 253, 3) by decide +kernel) (by decide) (fun _ => k M2 hI2 (by rw [hn3 _ _ (by omega), hn2])) (fun q => absurd rfl q)
theorem L_23 (hI : Inv S M) (h0 : 0 ≤ i) (h6 : i + 6 ≤ M (-2) (-1)) (hL : M (-2) (-1) ≤ 3072) (k : ∀ M2, Inv S M2 → M2 (-2) (-1) = M (-2) (-1) → am_At mL 1506 [some (vr (-2)), some (vr 0), some (vr 86), some (vi i)] [] (SH, 113, 141272) M2 Q) : am_At mL 1258 [some (vr (-2)), some (vr 0), some (vr 86), some (vi i)] [] (SH, 113, 141272) M Q := by
  refine s_aload_n (k0 := 1) (x := 0) (show decode (am_cc mL) 1258 = .ok (.aload_n 1, 1) by decide +kernel) rfl ?_
  refine s_aload_n (k0 := 0) (x := -2) (show decode (am_cc mL) 1259 = .ok (.aload_n 0, 1) by decide +kernel) rfl ?_
  refine s_iload_n (k0 := 3) (x := i) (show decode (am_cc mL) 1260 = .ok (.iload_n 3, 1) by decide +kernel) rfl ?_
  refine s_iconst (show decode (am_cc mL) 1261 = .ok (.iconst 1, 1) by decide +kernel) (by unfold am_i32; omega) ?_
  refine s_iadd (show decode (am_cc mL) 1262 = .ok (.iadd, 1) by decide +kernel) (by unfold am_i32; omega) ?_
  refine s_sload rfl (show decode (am_cc mL) 1263 = .ok (.iaload, 1) by decide +kernel) (by omega) (by omega) ?_
  refine s_aload_n (k0 := 0) (x := -2) (show decode (am_cc mL) 1264 = .ok (.aload_n 0, 1) by decide +kernel) rfl ?_
  refine s_iload_n (k0 := 3) (x := i) (show decode (am_cc mL) 1265 = .ok (.iload_n 3, 1) by decide +kernel) rfl ?_
  refine s_iconst (show decode (am_cc mL) 1266 = .ok (.iconst 2, 1) by decide +kernel) (by unfold am_i32; omega) ?_
  refine s_iadd (show decode (am_cc mL) 1267 = .ok (.iadd, 1) by decide +kernel) (by unfold am_i32; omega) ?_
  refine s_sload rfl (show decode (am_cc mL) 1268 = .ok (.iaload, 1) by decide +kernel) (by omega) (by omega) ?_
  refine s_aload_n (k0 := 0) (x := -2) (show decode (am_cc mL) 1269 = .ok (.aload_n 0, 1) by decide +kernel) rfl ?_
  refine s_iload_n (k0 := 3) (x := i) (show decode (am_cc mL) 1270 = .ok (.iload_n 3, 1) by decide +kernel) rfl ?_
  refine s_iconst (show decode (am_cc mL) 1271 = .ok (.iconst 3, 1) by decide +kernel) (by unfold am_i32; omega) ?_
  refine s_iadd (show decode (am_cc mL) 1272 = .ok (.iadd, 1) by decide +kernel) (by unfold am_i32; omega) ?_
  refine s_sload rfl (show decode (am_cc mL) 1273 = .ok (.iaload, 1) by decide +kernel) (by omega) (by omega) ?_
  refine s_i2l (show decode (am_cc mL) 1274 = .ok (.i2l, 1) by decide +kernel) ?_
  refine s_bipush (show decode (am_cc mL) 1275 = .ok (.bipush 32, 2) by decide +kernel) (by unfold am_i32; omega) (by decide) ?_
  refine s_lshl (show decode (am_cc mL) 1277 = .ok (.lshl, 1) by decide +kernel) ?_
  refine s_aload_n (k0 := 0) (x := -2) (show decode (am_cc mL) 1278 = .ok (.aload_n 0, 1) by decide +kernel) rfl ?_
  refine s_iload_n (k0 := 3) (x := i) (show decode (am_cc mL) 1279 = .ok (.iload_n 3, 1) by decide +kernel) rfl ?_
  refine s_iconst (show decode (am_cc mL) 1280 = .ok (.iconst 4, 1) by decide +kernel) (by unfold am_i32; omega) ?_
  refine s_iadd (show decode (am_cc mL) 1281 = .ok (.iadd, 1) by decide +kernel) (by unfold am_i32; omega) ?_
  refine s_sload rfl (show decode (am_cc mL) 1282 = .ok (.iaload, 1) by decide +kernel) (by omega) (by omega) ?_
  refine s_i2l (show decode (am_cc mL) 1283 = .ok (.i2l, 1) by decide +kernel) ?_
  refine s_ldc2 (v := 4294967295) (show decode (am_cc mL) 1284 = .ok (.ldc2_w 113, 3) by decide +kernel) lc_RL_113 (by unfold am_i64; omega) ?_
  refine s_land (show decode (am_cc mL) 1287 = .ok (.land, 1) by decide +kernel) ?_
  refine s_lor (show decode (am_cc mL) 1288 = .ok (.lor, 1) by decide +kernel) ?_
  refine n_callV (as := [vi _, vi _, vl _]) (a := 0) (stk := []) (show decode (am_cc mL) 1289 = .ok (.invokevirtual 115, 3) by decide +kernel) lk_RL_115 kdL0 (by decide) rfl rfl (by decide) (Nat.le_of_ble_eq_true rfl) ⟨rfl, rfl⟩ ?_
  refine am_CallN_mono (fun r M1 h => ?_) (am_CallN_neg (am_CallKS rfl (e_lay hI)))
  obtain ⟨⟨h, hs⟩, hn⟩ := h
  obtain ⟨x, rfl⟩ := hs.1 rfl
  have hn2 : ∀ j : Int, M1 (-2) j = M (-2) j := fun j => hn _ j (by omega)
  show am_At mL 1292 _ [vi x] _ M1 Q
  refine s_aload_n (k0 := 2) (x := 86) (show decode (am_cc mL) 1292 = .ok (.aload_n 2, 1) by decide +kernel) rfl ?_
  refine s_aload_n (k0 := 0) (x := -2) (show decode (am_cc mL) 1293 = .ok (.aload_n 0, 1) by decide +kernel) rfl ?_
  refine s_iload_n (k0 := 3) (x := i) (show decode (am_cc mL) 1294 = .ok (.iload_n 3, 1) by decide +kernel) rfl ?_
  refine s_iconst (show decode (am_cc mL) 1295 = .ok (.iconst 1, 1) by decide +kernel) (by unfold am_i32; omega) ?_
  refine s_iadd (show decode (am_cc mL) 1296 = .ok (.iadd, 1) by decide +kernel) (by unfold am_i32; omega) ?_
  refine s_sload rfl (show decode (am_cc mL) 1297 = .ok (.iaload, 1) by decide +kernel) (by omega) (by rw [hn2]; omega) ?_
  refine s_aload_n (k0 := 0) (x := -2) (show decode (am_cc mL) 1298 = .ok (.aload_n 0, 1) by decide +kernel) rfl ?_
  refine s_iload_n (k0 := 3) (x := i) (show decode (am_cc mL) 1299 = .ok (.iload_n 3, 1) by decide +kernel) rfl ?_
  refine s_iconst (show decode (am_cc mL) 1300 = .ok (.iconst 2, 1) by decide +kernel) (by unfold am_i32; omega) ?_
  refine s_iadd (show decode (am_cc mL) 1301 = .ok (.iadd, 1) by decide +kernel) (by unfold am_i32; omega) ?_
  refine s_sload rfl (show decode (am_cc mL) 1302 = .ok (.iaload, 1) by decide +kernel) (by omega) (by rw [hn2]; omega) ?_
  refine s_aload_n (k0 := 0) (x := -2) (show decode (am_cc mL) 1303 = .ok (.aload_n 0, 1) by decide +kernel) rfl ?_
  refine s_iload_n (k0 := 3) (x := i) (show decode (am_cc mL) 1304 = .ok (.iload_n 3, 1) by decide +kernel) rfl ?_
  refine s_iconst (show decode (am_cc mL) 1305 = .ok (.iconst 3, 1) by decide +kernel) (by unfold am_i32; omega) ?_
  refine s_iadd (show decode (am_cc mL) 1306 = .ok (.iadd, 1) by decide +kernel) (by unfold am_i32; omega) ?_
  refine s_sload rfl (show decode (am_cc mL) 1307 = .ok (.iaload, 1) by decide +kernel) (by omega) (by rw [hn2]; omega) ?_
  refine s_i2l (show decode (am_cc mL) 1308 = .ok (.i2l, 1) by decide +kernel) ?_
  refine s_bipush (show decode (am_cc mL) 1309 = .ok (.bipush 32, 2) by decide +kernel) (by unfold am_i32; omega) (by decide) ?_
  refine s_lshl (show decode (am_cc mL) 1311 = .ok (.lshl, 1) by decide +kernel) ?_
  refine s_aload_n (k0 := 0) (x := -2) (show decode (am_cc mL) 1312 = .ok (.aload_n 0, 1) by decide +kernel) rfl ?_
  refine s_iload_n (k0 := 3) (x := i) (show decode (am_cc mL) 1313 = .ok (.iload_n 3, 1) by decide +kernel) rfl ?_
  refine s_iconst (show decode (am_cc mL) 1314 = .ok (.iconst 4, 1) by decide +kernel) (by unfold am_i32; omega) ?_
  refine s_iadd (show decode (am_cc mL) 1315 = .ok (.iadd, 1) by decide +kernel) (by unfold am_i32; omega) ?_
  refine s_sload rfl (show decode (am_cc mL) 1316 = .ok (.iaload, 1) by decide +kernel) (by omega) (by rw [hn2]; omega) ?_
  refine s_i2l (show decode (am_cc mL) 1317 = .ok (.i2l, 1) by decide +kernel) ?_
  refine s_ldc2 (v := 4294967295) (show decode (am_cc mL) 1318 = .ok (.ldc2_w 113, 3) by decide +kernel) lc_RL_113 (by unfold am_i64; omega) ?_
  refine s_land (show decode (am_cc mL) 1321 = .ok (.land, 1) by decide +kernel) ?_
  refine s_lor (show decode (am_cc mL) 1322 = .ok (.lor, 1) by decide +kernel) ?_
  refine n_callV (as := [vi _, vi _, vl _]) (a := 86) (stk := [vi x]) (show decode (am_cc mL) 1323 = .ok (.invokevirtual 119, 3) by decide +kernel) lk_RL_119 kdL86 (by decide) rfl rfl (by decide) (Nat.le_of_ble_eq_true rfl) ⟨rfl, rfl⟩ ?_
  try simp only [hn2]
  refine am_CallN_mono (fun r' M2 h2 => ?_) (am_CallN_neg (am_CallKS rfl h))
  obtain ⟨⟨rfl, hI2⟩, hn3⟩ := h2
  show am_At mL 1326 _ [vi x, vi x] _ M2 Q
  exact s_icmp_eq (tgt := 1506) (show decode (am_cc mL) 1326 = .ok (.if_icmp .eq 180, 3) by decide +kernel) (by decide) (fun _ => k M2 hI2 (by rw [hn3 _ _ (by omega), hn2])) (fun q => absurd rfl q)
theorem L_24 (hI : Inv S M) (h0 : 0 ≤ i) (h6 : i + 6 ≤ M (-2) (-1)) (hL : M (-2) (-1) ≤ 3072) (k : ∀ M2, Inv S M2 → M2 (-2) (-1) = M (-2) (-1) → am_At mL 1506 [some (vr (-2)), some (vr 0), some (vr 86), some (vi i)] [] (SH, 113, 141272) M2 Q) : am_At mL 1331 [some (vr (-2)), some (vr 0), some (vr 86), some (vi i)] [] (SH, 113, 141272) M Q := by
  refine s_aload_n (k0 := 1) (x := 0) (show decode (am_cc mL) 1331 = .ok (.aload_n 1, 1) by decide +kernel) rfl ?_
  refine s_aload_n (k0 := 0) (x := -2) (show decode (am_cc mL) 1332 = .ok (.aload_n 0, 1) by decide +kernel) rfl ?_
  refine s_iload_n (k0 := 3) (x := i) (show decode (am_cc mL) 1333 = .ok (.iload_n 3, 1) by decide +kernel) rfl ?_
  refine s_iconst (show decode (am_cc mL) 1334 = .ok (.iconst 1, 1) by decide +kernel) (by unfold am_i32; omega) ?_
  refine s_iadd (show decode (am_cc mL) 1335 = .ok (.iadd, 1) by decide +kernel) (by unfold am_i32; omega) ?_
  refine s_sload rfl (show decode (am_cc mL) 1336 = .ok (.iaload, 1) by decide +kernel) (by omega) (by omega) ?_
  refine n_callV (as := [vi _]) (a := 0) (stk := []) (show decode (am_cc mL) 1337 = .ok (.invokevirtual 120, 3) by decide +kernel) lk_RL_120 kdL0 (by decide) rfl rfl (by decide) (Nat.le_of_ble_eq_true rfl) ⟨rfl, rfl⟩ ?_
  refine am_CallN_mono (fun r M1 h => ?_) (am_CallN_neg (am_CallKS rfl (e_rank hI)))
  obtain ⟨⟨h, hs⟩, hn⟩ := h
  obtain ⟨x, rfl⟩ := hs.2 rfl
  have hn2 : ∀ j : Int, M1 (-2) j = M (-2) j := fun j => hn _ j (by omega)
  show am_At mL 1340 _ [vl x] _ M1 Q
  refine s_aload_n (k0 := 2) (x := 86) (show decode (am_cc mL) 1340 = .ok (.aload_n 2, 1) by decide +kernel) rfl ?_
  refine s_aload_n (k0 := 0) (x := -2) (show decode (am_cc mL) 1341 = .ok (.aload_n 0, 1) by decide +kernel) rfl ?_
  refine s_iload_n (k0 := 3) (x := i) (show decode (am_cc mL) 1342 = .ok (.iload_n 3, 1) by decide +kernel) rfl ?_
  refine s_iconst (show decode (am_cc mL) 1343 = .ok (.iconst 1, 1) by decide +kernel) (by unfold am_i32; omega) ?_
  refine s_iadd (show decode (am_cc mL) 1344 = .ok (.iadd, 1) by decide +kernel) (by unfold am_i32; omega) ?_
  refine s_sload rfl (show decode (am_cc mL) 1345 = .ok (.iaload, 1) by decide +kernel) (by omega) (by rw [hn2]; omega) ?_
  refine n_callV (as := [vi _]) (a := 86) (stk := [vl x]) (show decode (am_cc mL) 1346 = .ok (.invokevirtual 124, 3) by decide +kernel) lk_RL_124 kdL86 (by decide) rfl rfl (by decide) (Nat.le_of_ble_eq_true rfl) ⟨rfl, rfl⟩ ?_
  try simp only [hn2]
  refine am_CallN_mono (fun r' M2 h2 => ?_) (am_CallN_neg (am_CallKS rfl h))
  obtain ⟨⟨rfl, hI2⟩, hn3⟩ := h2
  show am_At mL 1349 _ [vl x, vl x] _ M2 Q
  refine s_lcmp (show decode (am_cc mL) 1349 = .ok (.lcmp, 1) by decide +kernel) ?_
  rw [if_neg (Int.lt_irrefl x), if_pos rfl]
  exact s_if_eq (tgt := 1506) (show decode (am_cc mL) 1350 = .ok (.ifCond .eq 156, 3) by decide +kernel) (by decide) (fun _ => k M2 hI2 (by rw [hn3 _ _ (by omega), hn2])) (fun q => absurd rfl q)
theorem L_25 (hI : Inv S M) (h0 : 0 ≤ i) (h6 : i + 6 ≤ M (-2) (-1)) (hL : M (-2) (-1) ≤ 3072) (k : ∀ M2, Inv S M2 → M2 (-2) (-1) = M (-2) (-1) → am_At mL 1506 [some (vr (-2)), some (vr 0), some (vr 86), some (vi i)] [] (SH, 113, 141272) M2 Q) : am_At mL 1355 [some (vr (-2)), some (vr 0), some (vr 86), some (vi i)] [] (SH, 113, 141272) M Q := by
  refine s_aload_n (k0 := 1) (x := 0) (show decode (am_cc mL) 1355 = .ok (.aload_n 1, 1) by decide +kernel) rfl ?_
  refine s_aload_n (k0 := 0) (x := -2) (show decode (am_cc mL) 1356 = .ok (.aload_n 0, 1) by decide +kernel) rfl ?_
  refine s_iload_n (k0 := 3) (x := i) (show decode (am_cc mL) 1357 = .ok (.iload_n 3, 1) by decide +kernel) rfl ?_
  refine s_iconst (show decode (am_cc mL) 1358 = .ok (.iconst 1, 1) by decide +kernel) (by unfold am_i32; omega) ?_
  refine s_iadd (show decode (am_cc mL) 1359 = .ok (.iadd, 1) by decide +kernel) (by unfold am_i32; omega) ?_
  refine s_sload rfl (show decode (am_cc mL) 1360 = .ok (.iaload, 1) by decide +kernel) (by omega) (by omega) ?_
  refine n_callV (as := [vi _]) (a := 0) (stk := []) (show decode (am_cc mL) 1361 = .ok (.invokevirtual 125, 3) by decide +kernel) lk_RL_125 kdL0 (by decide) rfl rfl (by decide) (Nat.le_of_ble_eq_true rfl) ⟨rfl, rfl⟩ ?_
  refine am_CallN_mono (fun r M1 h => ?_) (am_CallN_neg (am_CallKS rfl (e_letter hI)))
  obtain ⟨⟨h, hs⟩, hn⟩ := h
  obtain ⟨x, rfl⟩ := hs.1 rfl
  have hn2 : ∀ j : Int, M1 (-2) j = M (-2) j := fun j => hn _ j (by omega)
  show am_At mL 1364 _ [vi x] _ M1 Q
  refine s_aload_n (k0 := 2) (x := 86) (show decode (am_cc mL) 1364 = .ok (.aload_n 2, 1) by decide +kernel) rfl ?_
  refine s_aload_n (k0 := 0) (x := -2) (show decode (am_cc mL) 1365 = .ok (.aload_n 0, 1) by decide +kernel) rfl ?_
  refine s_iload_n (k0 := 3) (x := i) (show decode (am_cc mL) 1366 = .ok (.iload_n 3, 1) by decide +kernel) rfl ?_
  refine s_iconst (show decode (am_cc mL) 1367 = .ok (.iconst 1, 1) by decide +kernel) (by unfold am_i32; omega) ?_
  refine s_iadd (show decode (am_cc mL) 1368 = .ok (.iadd, 1) by decide +kernel) (by unfold am_i32; omega) ?_
  refine s_sload rfl (show decode (am_cc mL) 1369 = .ok (.iaload, 1) by decide +kernel) (by omega) (by rw [hn2]; omega) ?_
  refine n_callV (as := [vi _]) (a := 86) (stk := [vi x]) (show decode (am_cc mL) 1370 = .ok (.invokevirtual 128, 3) by decide +kernel) lk_RL_128 kdL86 (by decide) rfl rfl (by decide) (Nat.le_of_ble_eq_true rfl) ⟨rfl, rfl⟩ ?_
  try simp only [hn2]
  refine am_CallN_mono (fun r' M2 h2 => ?_) (am_CallN_neg (am_CallKS rfl h))
  obtain ⟨⟨rfl, hI2⟩, hn3⟩ := h2
  show am_At mL 1373 _ [vi x, vi x] _ M2 Q
  exact s_icmp_eq (tgt := 1506) (show decode (am_cc mL) 1373 = .ok (.if_icmp .eq 133, 3) by decide +kernel) (by decide) (fun _ => k M2 hI2 (by rw [hn3 _ _ (by omega), hn2])) (fun q => absurd rfl q)
theorem L_26 (hI : Inv S M) (h0 : 0 ≤ i) (h6 : i + 6 ≤ M (-2) (-1)) (hL : M (-2) (-1) ≤ 3072) (k : ∀ M2, Inv S M2 → M2 (-2) (-1) = M (-2) (-1) → am_At mL 1506 [some (vr (-2)), some (vr 0), some (vr 86), some (vi i)] [] (SH, 113, 141272) M2 Q) : am_At mL 1378 [some (vr (-2)), some (vr 0), some (vr 86), some (vi i)] [] (SH, 113, 141272) M Q := by
  refine s_aload_n (k0 := 1) (x := 0) (show decode (am_cc mL) 1378 = .ok (.aload_n 1, 1) by decide +kernel) rfl ?_
  refine n_callV (as := []) (a := 0) (stk := []) (show decode (am_cc mL) 1379 = .ok (.invokevirtual 129, 3) by decide +kernel) lk_RL_129 kdL0 (by decide) rfl rfl (by decide) (Nat.le_of_ble_eq_true rfl) ⟨rfl, rfl⟩ ?_
  refine am_CallN_mono (fun r M1 h => ?_) (am_CallN_neg (am_CallKS rfl (e_clear hI)))
  obtain ⟨⟨h, hs⟩, hn⟩ := h
  obtain ⟨x, rfl⟩ := hs.1 rfl
  have hn2 : ∀ j : Int, M1 (-2) j = M (-2) j := fun j => hn _ j (by omega)
  show am_At mL 1382 _ [vi x] _ M1 Q
  refine s_aload_n (k0 := 2) (x := 86) (show decode (am_cc mL) 1382 = .ok (.aload_n 2, 1) by decide +kernel) rfl ?_
  refine n_callV (as := []) (a := 86) (stk := [vi x]) (show decode (am_cc mL) 1383 = .ok (.invokevirtual 133, 3) by decide +kernel) lk_RL_133 kdL86 (by decide) rfl rfl (by decide) (Nat.le_of_ble_eq_true rfl) ⟨rfl, rfl⟩ ?_
  refine am_CallN_mono (fun r' M2 h2 => ?_) (am_CallN_neg (am_CallKS rfl h))
  obtain ⟨⟨rfl, hI2⟩, hn3⟩ := h2
  show am_At mL 1386 _ [vi x, vi x] _ M2 Q
  exact s_icmp_eq (tgt := 1506) (show decode (am_cc mL) 1386 = .ok (.if_icmp .eq 120, 3) by decide +kernel) (by decide) (fun _ => k M2 hI2 (by rw [hn3 _ _ (by omega), hn2])) (fun q => absurd rfl q)
theorem L_27 (hI : Inv S M) (h0 : 0 ≤ i) (h6 : i + 6 ≤ M (-2) (-1)) (hL : M (-2) (-1) ≤ 3072) (k : ∀ M2, Inv S M2 → M2 (-2) (-1) = M (-2) (-1) → am_At mL 1506 [some (vr (-2)), some (vr 0), some (vr 86), some (vi i)] [] (SH, 113, 141272) M2 Q) : am_At mL 1391 [some (vr (-2)), some (vr 0), some (vr 86), some (vi i)] [] (SH, 113, 141272) M Q := by
  refine s_aload_n (k0 := 1) (x := 0) (show decode (am_cc mL) 1391 = .ok (.aload_n 1, 1) by decide +kernel) rfl ?_
  refine s_aload_n (k0 := 0) (x := -2) (show decode (am_cc mL) 1392 = .ok (.aload_n 0, 1) by decide +kernel) rfl ?_
  refine s_iload_n (k0 := 3) (x := i) (show decode (am_cc mL) 1393 = .ok (.iload_n 3, 1) by decide +kernel) rfl ?_
  refine s_iconst (show decode (am_cc mL) 1394 = .ok (.iconst 1, 1) by decide +kernel) (by unfold am_i32; omega) ?_
  refine s_iadd (show decode (am_cc mL) 1395 = .ok (.iadd, 1) by decide +kernel) (by unfold am_i32; omega) ?_
  refine s_sload rfl (show decode (am_cc mL) 1396 = .ok (.iaload, 1) by decide +kernel) (by omega) (by omega) ?_
  refine n_callV (as := [vi _]) (a := 0) (stk := []) (show decode (am_cc mL) 1397 = .ok (.invokevirtual 134, 3) by decide +kernel) lk_RL_134 kdL0 (by decide) rfl rfl (by decide) (Nat.le_of_ble_eq_true rfl) ⟨rfl, rfl⟩ ?_
  refine am_CallN_mono (fun r M1 h => ?_) (am_CallN_neg (am_CallKS rfl (e_at hI)))
  obtain ⟨⟨h, hs⟩, hn⟩ := h
  obtain ⟨x, rfl⟩ := hs.1 rfl
  have hn2 : ∀ j : Int, M1 (-2) j = M (-2) j := fun j => hn _ j (by omega)
  show am_At mL 1400 _ [vi x] _ M1 Q
  refine s_aload_n (k0 := 2) (x := 86) (show decode (am_cc mL) 1400 = .ok (.aload_n 2, 1) by decide +kernel) rfl ?_
  refine s_aload_n (k0 := 0) (x := -2) (show decode (am_cc mL) 1401 = .ok (.aload_n 0, 1) by decide +kernel) rfl ?_
  refine s_iload_n (k0 := 3) (x := i) (show decode (am_cc mL) 1402 = .ok (.iload_n 3, 1) by decide +kernel) rfl ?_
  refine s_iconst (show decode (am_cc mL) 1403 = .ok (.iconst 1, 1) by decide +kernel) (by unfold am_i32; omega) ?_
  refine s_iadd (show decode (am_cc mL) 1404 = .ok (.iadd, 1) by decide +kernel) (by unfold am_i32; omega) ?_
  refine s_sload rfl (show decode (am_cc mL) 1405 = .ok (.iaload, 1) by decide +kernel) (by omega) (by rw [hn2]; omega) ?_
  refine n_callV (as := [vi _]) (a := 86) (stk := [vi x]) (show decode (am_cc mL) 1406 = .ok (.invokevirtual 137, 3) by decide +kernel) lk_RL_137 kdL86 (by decide) rfl rfl (by decide) (Nat.le_of_ble_eq_true rfl) ⟨rfl, rfl⟩ ?_
  try simp only [hn2]
  refine am_CallN_mono (fun r' M2 h2 => ?_) (am_CallN_neg (am_CallKS rfl h))
  obtain ⟨⟨rfl, hI2⟩, hn3⟩ := h2
  show am_At mL 1409 _ [vi x, vi x] _ M2 Q
  exact s_icmp_eq (tgt := 1506) (show decode (am_cc mL) 1409 = .ok (.if_icmp .eq 97, 3) by decide +kernel) (by decide) (fun _ => k M2 hI2 (by rw [hn3 _ _ (by omega), hn2])) (fun q => absurd rfl q)
theorem L_28 (hI : Inv S M) (h0 : 0 ≤ i) (h6 : i + 6 ≤ M (-2) (-1)) (hL : M (-2) (-1) ≤ 3072) (k : ∀ M2, Inv S M2 → M2 (-2) (-1) = M (-2) (-1) → am_At mL 1506 [some (vr (-2)), some (vr 0), some (vr 86), some (vi i)] [] (SH, 113, 141272) M2 Q) : am_At mL 1414 [some (vr (-2)), some (vr 0), some (vr 86), some (vi i)] [] (SH, 113, 141272) M Q := by
  refine s_aload_n (k0 := 1) (x := 0) (show decode (am_cc mL) 1414 = .ok (.aload_n 1, 1) by decide +kernel) rfl ?_
  refine s_aload_n (k0 := 0) (x := -2) (show decode (am_cc mL) 1415 = .ok (.aload_n 0, 1) by decide +kernel) rfl ?_
  refine s_iload_n (k0 := 3) (x := i) (show decode (am_cc mL) 1416 = .ok (.iload_n 3, 1) by decide +kernel) rfl ?_
  refine s_iconst (show decode (am_cc mL) 1417 = .ok (.iconst 1, 1) by decide +kernel) (by unfold am_i32; omega) ?_
  refine s_iadd (show decode (am_cc mL) 1418 = .ok (.iadd, 1) by decide +kernel) (by unfold am_i32; omega) ?_
  refine s_sload rfl (show decode (am_cc mL) 1419 = .ok (.iaload, 1) by decide +kernel) (by omega) (by omega) ?_
  refine n_callV (as := [vi _]) (a := 0) (stk := []) (show decode (am_cc mL) 1420 = .ok (.invokevirtual 138, 3) by decide +kernel) lk_RL_138 kdL0 (by decide) rfl rfl (by decide) (Nat.le_of_ble_eq_true rfl) ⟨rfl, rfl⟩ ?_
  refine am_CallN_mono (fun r M1 h => ?_) (am_CallN_neg (am_CallKS rfl (e_is hI)))
  obtain ⟨⟨h, hs⟩, hn⟩ := h
  obtain ⟨x, rfl⟩ := hs.1 rfl
  have hn2 : ∀ j : Int, M1 (-2) j = M (-2) j := fun j => hn _ j (by omega)
  show am_At mL 1423 _ [vi x] _ M1 Q
  refine s_aload_n (k0 := 2) (x := 86) (show decode (am_cc mL) 1423 = .ok (.aload_n 2, 1) by decide +kernel) rfl ?_
  refine s_aload_n (k0 := 0) (x := -2) (show decode (am_cc mL) 1424 = .ok (.aload_n 0, 1) by decide +kernel) rfl ?_
  refine s_iload_n (k0 := 3) (x := i) (show decode (am_cc mL) 1425 = .ok (.iload_n 3, 1) by decide +kernel) rfl ?_
  refine s_iconst (show decode (am_cc mL) 1426 = .ok (.iconst 1, 1) by decide +kernel) (by unfold am_i32; omega) ?_
  refine s_iadd (show decode (am_cc mL) 1427 = .ok (.iadd, 1) by decide +kernel) (by unfold am_i32; omega) ?_
  refine s_sload rfl (show decode (am_cc mL) 1428 = .ok (.iaload, 1) by decide +kernel) (by omega) (by rw [hn2]; omega) ?_
  refine n_callV (as := [vi _]) (a := 86) (stk := [vi x]) (show decode (am_cc mL) 1429 = .ok (.invokevirtual 141, 3) by decide +kernel) lk_RL_141 kdL86 (by decide) rfl rfl (by decide) (Nat.le_of_ble_eq_true rfl) ⟨rfl, rfl⟩ ?_
  try simp only [hn2]
  refine am_CallN_mono (fun r' M2 h2 => ?_) (am_CallN_neg (am_CallKS rfl h))
  obtain ⟨⟨rfl, hI2⟩, hn3⟩ := h2
  show am_At mL 1432 _ [vi x, vi x] _ M2 Q
  exact s_icmp_eq (tgt := 1506) (show decode (am_cc mL) 1432 = .ok (.if_icmp .eq 74, 3) by decide +kernel) (by decide) (fun _ => k M2 hI2 (by rw [hn3 _ _ (by omega), hn2])) (fun q => absurd rfl q)
theorem L_29 (hI : Inv S M) (h0 : 0 ≤ i) (h6 : i + 6 ≤ M (-2) (-1)) (hL : M (-2) (-1) ≤ 3072) (k : ∀ M2, Inv S M2 → M2 (-2) (-1) = M (-2) (-1) → am_At mL 1506 [some (vr (-2)), some (vr 0), some (vr 86), some (vi i)] [] (SH, 113, 141272) M2 Q) : am_At mL 1437 [some (vr (-2)), some (vr 0), some (vr 86), some (vi i)] [] (SH, 113, 141272) M Q := by
  refine s_aload_n (k0 := 1) (x := 0) (show decode (am_cc mL) 1437 = .ok (.aload_n 1, 1) by decide +kernel) rfl ?_
  refine s_aload_n (k0 := 0) (x := -2) (show decode (am_cc mL) 1438 = .ok (.aload_n 0, 1) by decide +kernel) rfl ?_
  refine s_iload_n (k0 := 3) (x := i) (show decode (am_cc mL) 1439 = .ok (.iload_n 3, 1) by decide +kernel) rfl ?_
  refine s_iconst (show decode (am_cc mL) 1440 = .ok (.iconst 1, 1) by decide +kernel) (by unfold am_i32; omega) ?_
  refine s_iadd (show decode (am_cc mL) 1441 = .ok (.iadd, 1) by decide +kernel) (by unfold am_i32; omega) ?_
  refine s_sload rfl (show decode (am_cc mL) 1442 = .ok (.iaload, 1) by decide +kernel) (by omega) (by omega) ?_
  refine n_callV (as := [vi _]) (a := 0) (stk := []) (show decode (am_cc mL) 1443 = .ok (.invokevirtual 142, 3) by decide +kernel) lk_RL_142 kdL0 (by decide) rfl rfl (by decide) (Nat.le_of_ble_eq_true rfl) ⟨rfl, rfl⟩ ?_
  refine am_CallN_mono (fun r M1 h => ?_) (am_CallN_neg (am_CallKS rfl (e_run hI)))
  obtain ⟨⟨h, hs⟩, hn⟩ := h
  obtain ⟨x, rfl⟩ := hs.1 rfl
  have hn2 : ∀ j : Int, M1 (-2) j = M (-2) j := fun j => hn _ j (by omega)
  show am_At mL 1446 _ [vi x] _ M1 Q
  refine s_aload_n (k0 := 2) (x := 86) (show decode (am_cc mL) 1446 = .ok (.aload_n 2, 1) by decide +kernel) rfl ?_
  refine s_aload_n (k0 := 0) (x := -2) (show decode (am_cc mL) 1447 = .ok (.aload_n 0, 1) by decide +kernel) rfl ?_
  refine s_iload_n (k0 := 3) (x := i) (show decode (am_cc mL) 1448 = .ok (.iload_n 3, 1) by decide +kernel) rfl ?_
  refine s_iconst (show decode (am_cc mL) 1449 = .ok (.iconst 1, 1) by decide +kernel) (by unfold am_i32; omega) ?_
  refine s_iadd (show decode (am_cc mL) 1450 = .ok (.iadd, 1) by decide +kernel) (by unfold am_i32; omega) ?_
  refine s_sload rfl (show decode (am_cc mL) 1451 = .ok (.iaload, 1) by decide +kernel) (by omega) (by rw [hn2]; omega) ?_
  refine n_callV (as := [vi _]) (a := 86) (stk := [vi x]) (show decode (am_cc mL) 1452 = .ok (.invokevirtual 145, 3) by decide +kernel) lk_RL_145 kdL86 (by decide) rfl rfl (by decide) (Nat.le_of_ble_eq_true rfl) ⟨rfl, rfl⟩ ?_
  try simp only [hn2]
  refine am_CallN_mono (fun r' M2 h2 => ?_) (am_CallN_neg (am_CallKS rfl h))
  obtain ⟨⟨rfl, hI2⟩, hn3⟩ := h2
  show am_At mL 1455 _ [vi x, vi x] _ M2 Q
  exact s_icmp_eq (tgt := 1506) (show decode (am_cc mL) 1455 = .ok (.if_icmp .eq 51, 3) by decide +kernel) (by decide) (fun _ => k M2 hI2 (by rw [hn3 _ _ (by omega), hn2])) (fun q => absurd rfl q)
theorem L_30 (hI : Inv S M) (h0 : 0 ≤ i) (h6 : i + 6 ≤ M (-2) (-1)) (hL : M (-2) (-1) ≤ 3072) (k : ∀ M2, Inv S M2 → M2 (-2) (-1) = M (-2) (-1) → am_At mL 1506 [some (vr (-2)), some (vr 0), some (vr 86), some (vi i)] [] (SH, 113, 141272) M2 Q) : am_At mL 1460 [some (vr (-2)), some (vr 0), some (vr 86), some (vi i)] [] (SH, 113, 141272) M Q := by
  refine s_aload_n (k0 := 1) (x := 0) (show decode (am_cc mL) 1460 = .ok (.aload_n 1, 1) by decide +kernel) rfl ?_
  refine s_aload_n (k0 := 0) (x := -2) (show decode (am_cc mL) 1461 = .ok (.aload_n 0, 1) by decide +kernel) rfl ?_
  refine s_iload_n (k0 := 3) (x := i) (show decode (am_cc mL) 1462 = .ok (.iload_n 3, 1) by decide +kernel) rfl ?_
  refine s_iconst (show decode (am_cc mL) 1463 = .ok (.iconst 1, 1) by decide +kernel) (by unfold am_i32; omega) ?_
  refine s_iadd (show decode (am_cc mL) 1464 = .ok (.iadd, 1) by decide +kernel) (by unfold am_i32; omega) ?_
  refine s_sload rfl (show decode (am_cc mL) 1465 = .ok (.iaload, 1) by decide +kernel) (by omega) (by omega) ?_
  refine n_callV (as := [vi _]) (a := 0) (stk := []) (show decode (am_cc mL) 1466 = .ok (.invokevirtual 146, 3) by decide +kernel) lk_RL_146 kdL0 (by decide) rfl rfl (by decide) (Nat.le_of_ble_eq_true rfl) ⟨rfl, rfl⟩ ?_
  refine am_CallN_mono (fun r M1 h => ?_) (am_CallN_neg (am_CallKS rfl (e_rounds hI)))
  obtain ⟨⟨h, hs⟩, hn⟩ := h
  obtain ⟨x, rfl⟩ := hs.1 rfl
  have hn2 : ∀ j : Int, M1 (-2) j = M (-2) j := fun j => hn _ j (by omega)
  show am_At mL 1469 _ [vi x] _ M1 Q
  refine s_aload_n (k0 := 2) (x := 86) (show decode (am_cc mL) 1469 = .ok (.aload_n 2, 1) by decide +kernel) rfl ?_
  refine s_aload_n (k0 := 0) (x := -2) (show decode (am_cc mL) 1470 = .ok (.aload_n 0, 1) by decide +kernel) rfl ?_
  refine s_iload_n (k0 := 3) (x := i) (show decode (am_cc mL) 1471 = .ok (.iload_n 3, 1) by decide +kernel) rfl ?_
  refine s_iconst (show decode (am_cc mL) 1472 = .ok (.iconst 1, 1) by decide +kernel) (by unfold am_i32; omega) ?_
  refine s_iadd (show decode (am_cc mL) 1473 = .ok (.iadd, 1) by decide +kernel) (by unfold am_i32; omega) ?_
  refine s_sload rfl (show decode (am_cc mL) 1474 = .ok (.iaload, 1) by decide +kernel) (by omega) (by rw [hn2]; omega) ?_
  refine n_callV (as := [vi _]) (a := 86) (stk := [vi x]) (show decode (am_cc mL) 1475 = .ok (.invokevirtual 149, 3) by decide +kernel) lk_RL_149 kdL86 (by decide) rfl rfl (by decide) (Nat.le_of_ble_eq_true rfl) ⟨rfl, rfl⟩ ?_
  try simp only [hn2]
  refine am_CallN_mono (fun r' M2 h2 => ?_) (am_CallN_neg (am_CallKS rfl h))
  obtain ⟨⟨rfl, hI2⟩, hn3⟩ := h2
  show am_At mL 1478 _ [vi x, vi x] _ M2 Q
  exact s_icmp_eq (tgt := 1506) (show decode (am_cc mL) 1478 = .ok (.if_icmp .eq 28, 3) by decide +kernel) (by decide) (fun _ => k M2 hI2 (by rw [hn3 _ _ (by omega), hn2])) (fun q => absurd rfl q)
theorem L_31 (hI : Inv S M) (h0 : 0 ≤ i) (h6 : i + 6 ≤ M (-2) (-1)) (hL : M (-2) (-1) ≤ 3072) (k : ∀ M2, Inv S M2 → M2 (-2) (-1) = M (-2) (-1) → am_At mL 1506 [some (vr (-2)), some (vr 0), some (vr 86), some (vi i)] [] (SH, 113, 141272) M2 Q) : am_At mL 1483 [some (vr (-2)), some (vr 0), some (vr 86), some (vi i)] [] (SH, 113, 141272) M Q := by
  refine s_aload_n (k0 := 1) (x := 0) (show decode (am_cc mL) 1483 = .ok (.aload_n 1, 1) by decide +kernel) rfl ?_
  refine s_aload_n (k0 := 0) (x := -2) (show decode (am_cc mL) 1484 = .ok (.aload_n 0, 1) by decide +kernel) rfl ?_
  refine s_iload_n (k0 := 3) (x := i) (show decode (am_cc mL) 1485 = .ok (.iload_n 3, 1) by decide +kernel) rfl ?_
  refine s_iconst (show decode (am_cc mL) 1486 = .ok (.iconst 1, 1) by decide +kernel) (by unfold am_i32; omega) ?_
  refine s_iadd (show decode (am_cc mL) 1487 = .ok (.iadd, 1) by decide +kernel) (by unfold am_i32; omega) ?_
  refine s_sload rfl (show decode (am_cc mL) 1488 = .ok (.iaload, 1) by decide +kernel) (by omega) (by omega) ?_
  refine n_callV (as := [vi _]) (a := 0) (stk := []) (show decode (am_cc mL) 1489 = .ok (.invokevirtual 150, 3) by decide +kernel) lk_RL_150 kdL0 (by decide) rfl rfl (by decide) (Nat.le_of_ble_eq_true rfl) ⟨rfl, rfl⟩ ?_
  refine am_CallN_mono (fun r M1 h => ?_) (am_CallN_neg (am_CallKS rfl (e_count hI)))
  obtain ⟨⟨h, hs⟩, hn⟩ := h
  obtain ⟨x, rfl⟩ := hs.1 rfl
  have hn2 : ∀ j : Int, M1 (-2) j = M (-2) j := fun j => hn _ j (by omega)
  show am_At mL 1492 _ [vi x] _ M1 Q
  refine s_aload_n (k0 := 2) (x := 86) (show decode (am_cc mL) 1492 = .ok (.aload_n 2, 1) by decide +kernel) rfl ?_
  refine s_aload_n (k0 := 0) (x := -2) (show decode (am_cc mL) 1493 = .ok (.aload_n 0, 1) by decide +kernel) rfl ?_
  refine s_iload_n (k0 := 3) (x := i) (show decode (am_cc mL) 1494 = .ok (.iload_n 3, 1) by decide +kernel) rfl ?_
  refine s_iconst (show decode (am_cc mL) 1495 = .ok (.iconst 1, 1) by decide +kernel) (by unfold am_i32; omega) ?_
  refine s_iadd (show decode (am_cc mL) 1496 = .ok (.iadd, 1) by decide +kernel) (by unfold am_i32; omega) ?_
  refine s_sload rfl (show decode (am_cc mL) 1497 = .ok (.iaload, 1) by decide +kernel) (by omega) (by rw [hn2]; omega) ?_
  refine n_callV (as := [vi _]) (a := 86) (stk := [vi x]) (show decode (am_cc mL) 1498 = .ok (.invokevirtual 153, 3) by decide +kernel) lk_RL_153 kdL86 (by decide) rfl rfl (by decide) (Nat.le_of_ble_eq_true rfl) ⟨rfl, rfl⟩ ?_
  try simp only [hn2]
  refine am_CallN_mono (fun r' M2 h2 => ?_) (am_CallN_neg (am_CallKS rfl h))
  obtain ⟨⟨rfl, hI2⟩, hn3⟩ := h2
  show am_At mL 1501 _ [vi x, vi x] _ M2 Q
  exact s_icmp_eq (tgt := 1506) (show decode (am_cc mL) 1501 = .ok (.if_icmp .eq 5, 3) by decide +kernel) (by decide) (fun _ => k M2 hI2 (by rw [hn3 _ _ (by omega), hn2])) (fun q => absurd rfl q)
end
