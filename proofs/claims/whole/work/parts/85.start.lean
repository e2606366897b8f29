/-! THE CLAIM OUT OF ONE WALK OF THE LAW'S BODY. Your part is whole_start (and what it stands on); all else here is the same for every law, but numbers. -/
def R_law : String := "AnyLengthLaw"
def lw_P (b : Addr) (xs : List Int32) (args : Array Value) (s : State) : Prop := args = #[.ref b] ∧ s.IntsAt b xs ∧ xs.length ≤ 3072 ∧ (Jvm.Cond.and given_1 narrow_1).before args s = true
def lw_Q (_ : Array Value) (s : State) (o : Outcome) (t : State) : Prop := o = .returned (some (.int 1)) ∧ Framed s o t [] 600000 7302250
def lw_Z (below : List Frame) (a : Array Value) (s : State) : State → Prop := fun t => ∃ o, t.status = .running ∧ Ended t below o ∧ lw_Q a s o t
/-- the law's own end, with 1 on the stack, nothing written that was there before, its room as the claim has it -/
theorem lw_ret {p : Program} {l : Launch} {e : Env} {s : State} {m : MethodId} {below : List Frame} {meth : Method} {c : Code} {b : Nat} (hx : p.tables.exec = Jvm.exec) (hb : c.code = code) (hr : meth.sig.returnType = ret) (hlocks : meth.locks = false) {pc : Nat} {H : Heap} {ls : Array Slot} (hdg : decode code pc = .ok (.ireturn, 1)) : W p l e room_1 s m #[Value.ref b] below meth c H [] 600000 7302250 (lw_Z below #[Value.ref b] s) (F0 m pc ls [.int 1]) := by
  intro T hT X
  obtain ⟨fs, hret, hrun, hended, hW, hframe⟩ := X.leave (v := some (.int 1)) (hlocks := hlocks) (fun h => by rw [hr] at h; cases h)
  have hmeth' : T.vm.method? m = some meth := X.method'
  refine ⟨T.setFrames fs, ?_, .returned (some (.int 1)), hrun, hended, rfl, ⟨_, rfl⟩, hW, hframe⟩
  jvm_step X.here [X.here.top, hx, hb, hdg, hmeth', hr, ret, narrow_b1]
  (try refine ⟨rfl, ?_⟩); (try refine ⟨rfl, ?_⟩)
  first | (intro acts; rw [hret _ acts rfl rfl rfl]) | rw [hret _ _ rfl rfl rfl]
  exact Steps.refl _
/-- what holds at the law's entry: the machine, the code, the tables' words (any of lw_tbl by 'hts w (by decide +kernel)'), the script of L ints xs at the cell b, what the Statement gives of the start (any of its parts by flat_of_before) -/
def lw_At (p : Program) (s : State) (m : MethodId) (meth : Method) (c : Code) (b L : Nat) (xs : Nat → Int32) : Prop :=
  p.tables.exec = Jvm.exec ∧ c.code = code ∧ meth.sig.returnType = ret ∧ c.maxLocals = 4 ∧ meth.name = "law" ∧ s.vm.findClass R_law = some m.cls ∧ (∀ w ∈ lw_tbl, w.before #[Value.ref b] s = true) ∧ va_X b L xs s s.heap ∧ b < s.heap.size ∧ meth.locks = false ∧ (Jvm.Cond.and given_1 narrow_1).before #[Value.ref b] s = true
-- ===== YOUR PART BEGINS =====
/-- YOUR PART: from the entry, for every script of at most 3072 ints, the law comes to its end with true -/
theorem whole_start {p : Program} {e : Env} {s : State} {m : MethodId} {below : List Frame} {meth : Method} {c : Code} (l : Launch) {b L : Nat} {xs : Nat → Int32} (hL : L ≤ 3072) (C0 : lw_At p s m meth c b L xs) : W p l e room_1 s m #[Value.ref b] below meth c s.heap [] 0 0 (lw_Z below #[Value.ref b] s) (entryFrame m ([Value.ref b] : List Value).toArray 4) := by
  obtain ⟨hx, hb, hr, hml, hnm, hown, hts, hX, hbl, hlocks, hgv⟩ := id C0
  obtain ⟨c0, i0, hk0⟩ := u_known (ws := lw_tbl) (C := RX0) (T := TX0) (N := 11) (n := 11) hts (fun w h => (List.mem_filter.mp (jnX0 w h)).1) (hts _ (List.mem_filter.mp lm_0.1).1)
  obtain ⟨c1, i1, hk1⟩ := u_known (ws := lw_tbl) (C := RX1) (T := TX1) (N := 6) (n := 6) hts (fun w h => (List.mem_filter.mp (jnX1 w h)).1) (hts _ (List.mem_filter.mp lm_1.1).1)
  obtain ⟨c2, i2, hk2⟩ := u_known (ws := lw_tbl) (C := RX2) (T := TX2) (N := 8) (n := 8) hts (fun w h => (List.mem_filter.mp (jnX2 w h)).1) (hts _ (List.mem_filter.mp lm_2.1).1)
  obtain ⟨c3, i3, hk3⟩ := u_known (ws := lw_tbl) (C := RX3) (T := TX3) (N := 4) (n := 4) hts (fun w h => (List.mem_filter.mp (jnX3 w h)).1) (hts _ (List.mem_filter.mp lm_3.1).1)
  obtain ⟨c4, i4, hk4⟩ := u_known (ws := lw_tbl) (C := RX4) (T := TX4) (N := 3) (n := 3) hts (fun w h => (List.mem_filter.mp (jnX4 w h)).1) (hts _ (List.mem_filter.mp lm_4.1).1)
  obtain ⟨c5, i5, hk5⟩ := u_known (ws := lw_tbl) (C := RX5) (T := TX5) (N := 2) (n := 2) hts (fun w h => (List.mem_filter.mp (jnX5 w h)).1) (hts _ (List.mem_filter.mp lm_5.1).1)
  obtain ⟨c6, i6, hk6⟩ := u_known (ws := lw_tbl) (C := RX6) (T := TX6) (N := 2) (n := 2) hts (fun w h => (List.mem_filter.mp (jnX6 w h)).1) (hts _ (List.mem_filter.mp lm_6.1).1)
  obtain ⟨c7, i7, hk7⟩ := u_known (ws := lw_tbl) (C := RX7) (T := TX7) (N := 2) (n := 2) hts (fun w h => (List.mem_filter.mp (jnX7 w h)).1) (hts _ (List.mem_filter.mp lm_7.1).1)
  obtain ⟨c8, i8, hk8⟩ := u_known (ws := lw_tbl) (C := RX8) (T := TX8) (N := 16) (n := 16) hts (fun w h => (List.mem_filter.mp (jnX8 w h)).1) (hts _ (List.mem_filter.mp lm_8.1).1)
  obtain ⟨c9, i9, hk9⟩ := u_known (ws := lw_tbl) (C := RX9) (T := TX9) (N := 36) (n := 36) hts (fun w h => (List.mem_filter.mp (jnX9 w h)).1) (hts _ (List.mem_filter.mp lm_9.1).1)
  obtain ⟨dC, dI, hKc⟩ : ∃ (dC : Nat → ClassId) (dI : Nat → Nat → Nat), ∀ (k : Nat) (q : vw_C), vwCl[k]? = some q → u_Kn s q.1 q.2.1 q.2.2 (dC k) (dI k) := by
    refine ⟨fun k => match k with | 0 => c0 | 1 => c1 | 2 => c2 | 3 => c3 | 4 => c4 | 5 => c5 | 6 => c6 | 7 => c7 | 8 => c8 | _ => c9, fun k => match k with | 0 => i0 | 1 => i1 | 2 => i2 | 3 => i3 | 4 => i4 | 5 => i5 | 6 => i6 | 7 => i7 | 8 => i8 | _ => i9, ?_⟩
    intro k q hq
    match k, hq with
    | 0, hq => cases hq; exact hk0
    | 1, hq => cases hq; exact hk1
    | 2, hq => cases hq; exact hk2
    | 3, hq => cases hq; exact hk3
    | 4, hq => cases hq; exact hk4
    | 5, hq => cases hq; exact hk5
    | 6, hq => cases hq; exact hk6
    | 7, hq => cases hq; exact hk7
    | 8, hq => cases hq; exact hk8
    | 9, hq => cases hq; exact hk9
    | k + 10, hq => simp [vwCl] at hq
  have hbA : ¬ (fun q : Nat => s.heap.size ≤ q) b := Nat.not_le.mpr hbl
  let G : am_G := (fun _ => 0, fun _ => c0, b)
  let M : am_M := fun a j => if a = -2 then (if j = -1 then (L : Int) else (xs j.toNat).toInt) else 0
  have hM : M (-2) (-1) = (L : Int) := by simp [M]
  have hscr : am_scr s (fun q : Nat => s.heap.size ≤ q) b M := by
    refine ⟨L, xs, hX, hbl, hbA, by omega, hM, fun j hj => ?_⟩
    show (if (-2 : Int) = -2 then (if (j : Int) = -1 then (L : Int) else (xs (j : Int).toNat).toInt) else 0) = _
    rw [if_pos rfl, if_neg (by omega), Int.toNat_natCast]
  have hN : ∀ w ∈ am_nests, va_Nw w s := by
    intro w hw
    obtain ⟨h1, h2⟩ := List.mem_filter.mp hw
    cases w <;> first | exact va_Nw.of rfl (hts _ h1) | exact Bool.noConfusion h2
  have hAO : ∀ C ∈ am_aos, va_AO C s := by
    intro C hC
    have : C = "AnyLength$Sentence" ∨ C = "AnyLength$Program" := by simpa [am_aos] using hC
    rcases this with rfl | rfl
    · exact va_AO.of (hts (.arrayOver (.object "AnyLength$Sentence")) (by decide +kernel))
    · exact va_AO.of (hts (.arrayOver (.object "AnyLength$Program")) (by decide +kernel))
  have hlr := am_ent_lr (G := G) (K := ([], 0, 0)) (nL := 4) (as := [vr (-2)]) (by decide) (fun v hv => by rw [List.mem_singleton.mp hv]; exact ⟨by decide, by decide⟩)
  rw [lg_entry_eq]
  refine law_at (Q := fun r _ _ => r = some (vi 1)) (M := M) (len := (L : Int)) hM (by omega) (fun _ _ => rfl) p l e s m #[Value.ref b] below meth c _ (fun q : Nat => s.heap.size ≤ q) (dC, dI) G ([], 0, 0) M G s.heap [] _ ⟨hx, hb, hml, hr, hlocks, hnm, hown, fun w hw => hts w (List.mem_filter.mp hw).1, hN, hAO, fun _ h => h⟩ ⟨⟨⟨hKc, fun k q h => by simp [am_tys] at h⟩, fun k q h => by simp [am_wo] at h, ⟨fun i j p q h => by simp [am_wo] at h, fun k q h => by simp [am_wo] at h⟩, va_S.rf, fun i e h => by simp at h⟩, ⟨Nat.le_refl _, fun _ _ => ⟨rfl, rfl⟩, rfl, fun _ => rfl, fun _ _ _ => rfl⟩, Nat.zero_le _, Nat.zero_le _, fun _ => hscr⟩ hlr (fun v hv => by cases hv) ?_
  intro r K' M' G' H' locs' pc' rl' hQ hY hrok hrd
  subst hQ
  refine va_forget (fun q hq => hY.1.2.2.2.1.2.2 q hq) ?_
  refine W.widen (k := 600000) (n := 7302250) hY.2.2.1 hY.2.2.2.1 ?_
  exact lw_ret hx hb hr hlocks hrd.1
-- ===== YOUR PART ENDS =====
set_option maxHeartbeats 4000000 in
theorem lw_walk (l : Launch) (b : Addr) (xs : List Int32) : MetFree l x (headSpec (Jvm.Cond.code x code maxLocals ret :: tables_1) room_1) (lw_P b xs) (fun _ _ _ _ _ => True) lw_Q := by
  refine MetFree.of_bodyS (code := code) (maxLocals := maxLocals) (ret := ret) (by decide) ?_ ?_
  · intro args s m h hn
    obtain ⟨meth, c, h1, h2, h3, h4, h5, h6, -, -⟩ := Cond.code_spec hn (atoms_spec (ws := Jvm.Cond.code x code maxLocals ret :: tables_1) h _ List.mem_cons_self)
    exact ⟨meth, c, h1, h2, h3, h4, h5, h6⟩
  · intro p e s m args below meth c s₁ B hml0 hP _
    obtain ⟨rfl, hx, hbd, hgv⟩ := hP
    obtain ⟨scr, harrAt, hlist, hof, hsmall⟩ := hx
    obtain ⟨hcb, hkn, -, -⟩ := State.arrayAt?_spec harrAt
    have hown : s.vm.findClass R_law = some m.cls := findClass_of_methodNamed B.named
    have hts0 : ∀ c ∈ (Jvm.Cond.code x code maxLocals ret :: tables_1), c.before #[Value.ref b] s = true := atoms_spec (ws := Jvm.Cond.code x code maxLocals ret :: tables_1) B.pre
    have hts : ∀ w ∈ lw_tbl, w.before #[Value.ref b] s = true := k2_hts_sels lw_privs (fun w hw => hts0 w (List.mem_cons_of_mem _ hw)) lw_privs_ok
    have hml : c.maxLocals = 4 := B.maxLocals_eq (hts0 _ List.mem_cons_self)
    have X₀ : Stand p l e room_1 s m #[Value.ref b] below meth c s₁ [] 0 0 := Stand.of_body B
    have hh0 : s₁.heap = s.heap := by rw [B.state]; rfl
    have hsz : scr.slots.size = xs.length := by rw [← Array.length_toList, hlist, List.length_map]
    have hval : ∀ j : Nat, j < xs.length → scr.slots[j]? = some (.int (xs.getD j 0)) := fun j hj => by
      rw [← Array.getElem?_toList, hlist]
      simp [hj]
    have hbl : b < s.heap.size := (Array.getElem?_eq_some_iff.mp hcb).1
    have hX : va_X b xs.length (fun j => xs.getD j 0) s s.heap := ⟨scr, hcb, hof, hkn, hsz, hval⟩
    have K : W p l e room_1 s m #[Value.ref b] below meth c s₁.heap [] 0 0 (lw_Z below #[Value.ref b] s) (entryFrame m ([Value.ref b] : List Value).toArray 4) := by
      rw [hh0]
      exact whole_start l hbd ⟨B.exec, B.bytes, B.returns, hml, (name_of_methodNamed B.named B.method).1, hown, hts, hX, hbl, B.notSynchronized, hgv⟩
    obtain ⟨t, a1, o, b1, b2, b3⟩ := K s₁ rfl X₀
    exact ⟨t, o, a1, b1, b2, b3⟩
theorem lw_pre_spec {args : Array Value} {s : State} (h : (Jvm.Cond.and given_1 narrow_1).before args s = true) (hr : rest_1_c.before args s = true) : ∃ (b : Addr) (xs : List Int32), lw_P b xs args s := by
  have hs := flat_of_before _ h
  have hq := flat_of_before _ hr
  have hc : (Cond.count 1).before args s = true := hs _ (by decide +kernel)
  have harr : (Cond.arrayOf (.arg 0) .int).before args s = true := hs _ (by decide +kernel)
  have hle : (Cond.le (.length (.arg 0)) (.int 3072)).before args s = true := hs _ (by decide +kernel)
  have hlen : (Cond.isInt (.length (.arg 0))).before args s = true := hq _ (by decide +kernel)
  have hall : (Cond.all (.arg 0) (.isInt (.elem (.arg 0) (.index 0)))).before args s = true := hq _ (by decide +kernel)
  obtain ⟨b, xs, hb, hx⟩ := State.ints_of_pre rfl harr hlen hall
  have hsm : xs.length < 2 ^ 31 := hx.choose_spec.2.2.2
  have hev : (Term.length (.arg 0)).eval args s none [] s = some (.int xs.length.toInt32) := hx.length_eval hb
  have hv := Cond.le_ints hev (show (Term.int 3072).eval args s none [] s = some (.int 3072) from rfl)
  have hd : xs.length.toInt32 ≤ 3072 := by
    simpa [Cond.before, Cond.holds, hv] using hle
  have hN : xs.length ≤ 3072 := (Int32.ofNat_le_ofNat hsm (by decide)).mp (show Int32.ofNat xs.length ≤ Int32.ofNat 3072 from hd)
  exact ⟨b, xs, Cond.one_arg hc (show args[0]? = some (.ref b) from hb), hx, hN, h⟩
theorem lw_comes (l : Launch) : Comes l x (Jvm.Cond.code x code maxLocals ret :: tables_1) room_1 (fun tb e args s => Calls_1 tb e args s ∧ rest_1 tb e args s ∧ Pre_1 tb e args s)
    (fun _ _ args s o t => lw_Q args s o t) := by
  intro p e ha hc hk s m args below hf hfit hheap happ hpre
  obtain ⟨b, xs, hP⟩ := lw_pre_spec hpre.2.2 hpre.2.1
  obtain ⟨k, o, h1, h2, h3, hQ⟩ := lw_walk l b xs p e ha hc hk s m args below hf ((Spec.applies_iff_loose hf).mp happ).1 hP trivial
  exact ⟨k, o, h1, h2, h3, hQ⟩
theorem lw_frame {s t : State} {o : Outcome} {args : Array Value} (h : Framed s o t [] 600000 7302250) :
    Framed s o t (fieldLocs frame_1_writes args s ++ arrayLocs frame_1_arrays args s ++ staticLocs frame_1_statics s) 600000 7302250 := h
theorem lw_limb (L : Cond) (hL : ∀ (args : Array Value) (s t : State), L.after args s (.returned (some (.int 1))) t = true) :
    ArmFor flags0 classFile x code maxLocals ret World_1 tables_1 room_1 Calls_1 rest_1 Pre_1
      (fun tb e a s o t => postC L tb e a s o t ∧ Framed s o t (fieldLocs frame_1_writes a s ++ arrayLocs frame_1_arrays a s ++ staticLocs frame_1_statics s) 600000 7302250) := by
  intro l _ _ _ p e ha hc hk s m args below hf hfit hheap happ hpre
  obtain ⟨k, o, h1, h2, h3, rfl, hF⟩ := lw_comes l p e ha hc hk s m args below hf hfit hheap happ hpre
  exact ⟨k, _, h1, h2, h3, hL args s _, lw_frame hF⟩
theorem i_vc : Claimed_1_1 ∧ Claimed_1_2 := ⟨lw_limb limb_1_1 (fun args s t => by simp [limb_1_1, Cond.after, Cond.holds, Cond.value]), lw_limb limb_1_2 (fun args s t => Cond.after_iff.mpr (by
  first | (rw [show limb_1_2 = Cond.eq .result (.int 1) from rfl, Cond.eq_ints (x := 1) (y := 1) rfl rfl]; simp; done) | (simp [limb_1_2, Cond.value, Term.eval]; done)))⟩

