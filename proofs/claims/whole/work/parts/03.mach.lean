/-! ===== the small machine: values, shapes, memory ===== -/
abbrev am_V : Type := Int ⊕ Int ⊕ Int
abbrev vi (x : Int) : am_V := Sum.inl x
abbrev vl (x : Int) : am_V := Sum.inr (Sum.inl x)
abbrev vr (a : Int) : am_V := Sum.inr (Sum.inr a)
/-- a cell's shape: tag (0 to 9 an object by its number in vwCl; 11 int, 12 boolean, 13 long, 14 and 15 rows of references), how many, what its fixed references are -/
abbrev am_C : Type := Nat × Nat × List Int
/-- shapes, cells and slots made so far -/
abbrev am_K : Type := List am_C × Nat × Nat
abbrev am_M : Type := Int → Int → Int
abbrev am_L : Type := List (Option am_V)
abbrev am_Q : Type := Option am_V → am_K → am_M → Prop
/-- a method: own, name, code, locals, answer; frames, cells, slots, locals' words; whether it reads the script -/
abbrev am_I : Type := (String × MethodName × ByteArray × Nat × Option FieldType) × (Nat × Nat × Nat × Nat) × Bool
abbrev am_own (mi : am_I) : String := mi.1.1
abbrev am_y (mi : am_I) : MethodName := mi.1.2.1
abbrev am_cc (mi : am_I) : ByteArray := mi.1.2.2.1
abbrev am_ml (mi : am_I) : Nat := mi.1.2.2.2.1
abbrev am_rt (mi : am_I) : Option FieldType := mi.1.2.2.2.2
abbrev am_fr (mi : am_I) : Nat := mi.2.1.1
abbrev am_mc (mi : am_I) : Nat := mi.2.1.2.1
abbrev am_ms (mi : am_I) : Nat := mi.2.1.2.2.1
abbrev am_lo (mi : am_I) : Nat := mi.2.1.2.2.2
abbrev am_sc (mi : am_I) : Bool := mi.2.2
abbrev am_rm (mi : am_I) : Room := { frames := am_fr mi, cells := am_mc mi, slots := am_ms mi, locals := am_lo mi }
def am_i32 (x : Int) : Prop := -2147483648 ≤ x ∧ x ≤ 2147483647
def am_i64 (x : Int) : Prop := -9223372036854775808 ≤ x ∧ x ≤ 9223372036854775807
def am_kd (K : am_K) (a : Int) : Option am_C := if a < 0 then none else K.1[a.toNat]?
abbrev am_G : Type := (Nat → Nat) × (Nat → ClassId) × Nat
def am_rf (G : am_G) (a : Int) : Option Nat := if a < 0 then none else some (G.1 a.toNat)
def am_cv (G : am_G) : am_V → Value
  | .inl x => .int (Int32.ofInt x)
  | .inr (.inl x) => .long (Int64.ofInt x)
  | .inr (.inr a) => if a = -2 then .ref G.2.2 else va_rf (am_rf G a)
/-- a field's kind: 0 int, 1 boolean, 2 a reference that moves, 3 a reference that is fixed -/
def am_fk (ci k : Nat) : Nat := match ci with
  | 0 => if k = 2 ∨ k = 10 then 0 else if 7 ≤ k then 2 else 3
  | 1 => if k = 5 then 0 else 3
  | 2 => if k = 2 ∨ k = 7 then 0 else if 3 ≤ k then 2 else 3
  | 3 => if k = 3 then 0 else 3
  | 4 => 3
  | 5 => if k = 1 then 0 else 3
  | 6 => 3
  | 7 => if k = 1 then 0 else 3
  | 8 => if k = 0 ∨ k = 1 then 0 else 3
  | 9 => if k = 0 ∨ k = 1 ∨ k = 15 ∨ k = 16 ∨ k = 17 ∨ k = 27 ∨ k = 28 ∨ k = 31 ∨ k = 33 then 0 else if k = 18 then 1 else 3
  | _ => 0
def am_fv (G : am_G) (M : am_M) (i : Nat) (e : am_C) (k : Nat) : Value :=
  if am_fk e.1 k = 2 then va_rf (am_rf G (M i k)) else if am_fk e.1 k = 3 then va_rf (am_rf G (e.2.2.getD k (-1))) else .int (Int32.ofInt (M i k))
def am_en (G : am_G) (M : am_M) (i : Nat) (e : am_C) : va_E :=
  if e.1 < 10 then .inr (e.1, (List.range e.2.1).map (am_fv G M i e))
  else if e.1 = 13 then .inl (G.2.1 i, e.2.1, .inr (.inl (fun j => Int64.ofInt (M i j))))
  else if e.1 < 13 then .inl (G.2.1 i, e.2.1, .inl (fun j => Int32.ofInt (M i j)))
  else .inl (G.2.1 i, e.2.1, .inr (.inr (.inr (.inr (fun j => am_rf G (e.2.2.getD j (-1)))))))
def am_wo (G : am_G) (K : am_K) (M : am_M) : va_W := (List.range K.1.length).map (fun i => (G.1 i, am_en G M i (K.1.getD i (0, 0, []))))
def am_ty (tag : Nat) : Option FieldType := match tag with
  | 11 => some .int
  | 12 => some .boolean
  | 13 => some .long
  | 14 => some (.object "AnyLength$Sentence")
  | 15 => some (.object "AnyLength$Program")
  | _ => none
def am_tys (G : am_G) (K : am_K) : List (ClassId × FieldType) := (List.range K.1.length).filterMap (fun i => (am_ty (K.1.getD i (0, 0, [])).1).map (fun t => (G.2.1 i, t)))
def am_mok (K : am_K) (M : am_M) : Prop := ∀ (i : Nat) (e : am_C), K.1[i]? = some e →
  (∀ r ∈ e.2.2, -1 ≤ r ∧ r < (K.1.length : Int)) ∧ (∀ j : Int, am_i64 (M i j) ∧ (e.1 ≠ 13 → am_i32 (M i j))) ∧ (∀ k : Nat, e.1 < 10 → am_fk e.1 k = 2 → -1 ≤ M i k ∧ M i k < (K.1.length : Int))
def am_ok (K : am_K) : am_V → Prop
  | .inl x => am_i32 x
  | .inr (.inl x) => am_i64 x
  | .inr (.inr a) => -2 ≤ a ∧ a < (K.1.length : Int)
def am_lr (G : am_G) (K : am_K) (nL : Nat) (ls : am_L) (rl : Array Slot) : Prop :=
  ls.length = nL ∧ rl.size = nL ∧ lv_wf rl ∧ ∀ (i : Nat) (v : am_V), ls[i]? = some (some v) → rl[i]? = some (.val (am_cv G v)) ∧ am_ok K v
/-- one place of the memory anew -/
def am_up (M : am_M) (a i v : Int) : am_M := fun b j => if b = a then (if j = i then v else M b j) else M b j
/-- one cell of the memory anew -/
def am_nw (M : am_M) (a : Int) (f : Int → Int) : am_M := fun b j => if b = a then f j else M b j
/-- the tables' words that every method may use -/
def am_tb : List Cond := lw_tbl.filter goodWord
def am_nests : List Cond := lw_tbl.filter (fun w => match w with | .methodLinkNest _ _ _ _ => true | _ => false)
def am_aos : List String := ["AnyLength$Sentence", "AnyLength$Program"]
def am_S (mi : am_I) (p : Program) (s : State) (m : MethodId) (args : Array Value) (meth : Method) (c : Code) (A : Nat → Prop) : Prop :=
  p.tables.exec = Jvm.exec ∧ c.code = am_cc mi ∧ c.maxLocals = am_ml mi ∧ meth.sig.returnType = am_rt mi ∧ meth.locks = false ∧ meth.name = (am_y mi).name ∧ s.vm.findClass (am_own mi) = some m.cls ∧ (∀ w ∈ am_tb, w.before args s = true) ∧ (∀ w ∈ am_nests, va_Nw w s) ∧ (∀ C ∈ am_aos, va_AO C s) ∧ ∀ q, s.heap.size ≤ q → A q
def am_scr (s : State) (A : Nat → Prop) (b : Nat) (M : am_M) : Prop := ∃ (L : Nat) (xs : Nat → Int32), va_X b L xs s s.heap ∧ b < s.heap.size ∧ ¬ A b ∧ L < 2147483648 ∧ M (-2) (-1) = L ∧ ∀ j : Nat, j < L → M (-2) j = (xs j).toInt
/-- how the machine's heap and the small memory belong together; G0, K0, M0: at the method's start -/
def am_Y (mi : am_I) (s : State) (A : Nat → Prop) (D : va_G) (G0 : am_G) (K0 : am_K) (M0 : am_M) (G : am_G) (K : am_K) (M : am_M) (H : Heap) (locs : List Loc) : Prop :=
  (va_K D vwCl (am_tys G K) s ∧ va_P D vwCl (am_wo G K M) H ∧ va_D A (am_wo G K M) ∧ va_S A s.heap H locs ∧ am_mok K M) ∧
  (K0.1.length ≤ K.1.length ∧ (∀ i, i < K0.1.length → G.1 i = G0.1 i ∧ G.2.1 i = G0.2.1 i) ∧ G.2.2 = G0.2.2 ∧ (am_mc mi = 0 → K.1 = K0.1) ∧ (∀ a j : Int, a < 0 → M a j = M0 a j)) ∧
  K.2.1 ≤ am_mc mi ∧ K.2.2 ≤ am_ms mi ∧ (am_sc mi = true → am_scr s A G0.2.2 M0)
def am_rd (mi : am_I) (pc : Nat) (r : Option am_V) : Prop := match r with
  | none => am_rt mi = none ∧ decode (am_cc mi) pc = .ok (.return_, 1)
  | some (.inl x) => decode (am_cc mi) pc = .ok (.ireturn, 1) ∧ (am_rt mi = some .int ∨ (am_rt mi = some .boolean ∧ (x = 0 ∨ x = 1)))
  | some (.inr (.inl _)) => decode (am_cc mi) pc = .ok (.lreturn, 1) ∧ am_rt mi = some .long
  | some (.inr (.inr a)) => decode (am_cc mi) pc = .ok (.areturn, 1) ∧ (∃ n, am_rt mi = some (.object n)) ∧ -1 ≤ a
/-- from here the method comes to an end with Q: over the machine itself -/
def am_At (mi : am_I) (pc : Nat) (ls : am_L) (stk : List am_V) (K : am_K) (M : am_M) (Q : am_Q) : Prop :=
  ∀ (p : Program) (l : Launch) (e : Env) (s : State) (m : MethodId) (args : Array Value) (below : List Frame) (meth : Method) (c : Code) (Z : State → Prop) (A : Nat → Prop) (D : va_G) (G0 : am_G) (K0 : am_K) (M0 : am_M) (G : am_G) (H : Heap) (locs : List Loc) (rl : Array Slot),
    am_S mi p s m args meth c A → am_Y mi s A D G0 K0 M0 G K M H locs → am_lr G K (am_ml mi) ls rl → (∀ v ∈ stk, am_ok K v) →
    (∀ (r : Option am_V) (K' : am_K) (M' : am_M) (G' : am_G) (H' : Heap) (locs' : List Loc) (pc' : Nat) (rl' : Array Slot), Q r K' M' → am_Y mi s A D G0 K0 M0 G' K' M' H' locs' → (∀ v ∈ r.toList, am_ok K' v) → am_rd mi pc' r →
      W p l e (am_rm mi) s m args below meth c H' locs' K'.2.1 K'.2.2 Z (F0 m pc' rl' (r.toList.map (am_cv G')))) →
    W p l e (am_rm mi) s m args below meth c H locs K.2.1 K.2.2 Z (F0 m pc rl (stk.map (am_cv G)))
def am_ws (mi : am_I) : List Cond := .code (am_y mi) (am_cc mi) (am_ml mi) (am_rt mi) :: am_tb
def am_Pc (D : va_G) (G : am_G) (K : am_K) (M : am_M) (sz : Nat) : State → Prop := fun U => U.heap.size = sz ∧ va_P D vwCl (am_wo G K M) U.heap ∧ va_K D vwCl (am_tys G K) U ∧ va_D (fun _ => True) (am_wo G K M) ∧ (∀ w ∈ am_nests, va_Nw w U) ∧ ∀ C ∈ am_aos, va_AO C U
def am_Qc (mi : am_I) (D : va_G) (G : am_G) (K : am_K) (M : am_M) (sz : Nat) (Q : am_Q) : Array Value → State → Outcome → State → Prop := fun _ st oc t =>
  (∃ (r : Option am_V) (K' : am_K) (M' : am_M) (G' : am_G), Q r K' M' ∧ oc = .returned (r.map (am_cv G')) ∧ (∀ v ∈ r.toList, am_ok K' v) ∧ am_mok K' M' ∧
    (K.1.length ≤ K'.1.length ∧ (∀ i, i < K.1.length → G'.1 i = G.1 i ∧ G'.2.1 i = G.2.1 i) ∧ G'.2.2 = G.2.2 ∧ (am_mc mi = 0 → K'.1 = K.1) ∧ (∀ a j : Int, a < 0 → M' a j = M a j)) ∧
    va_P D vwCl (am_wo G' K' M') t.heap ∧ va_K D vwCl (am_tys G' K') t ∧ va_D (va_A (am_wo G K M) sz) (am_wo G' K' M')) ∧ va_F (va_A (am_wo G K M) sz) st t
/-- the method, called so, returns with Q: its contract over the machine itself -/
def am_Call (mi : am_I) (as : List am_V) (K : am_K) (M : am_M) (Q : am_Q) : Prop :=
  ∀ (l : Launch) (D : va_G) (G : am_G) (sz : Nat), (∀ v ∈ as, am_ok K v) → am_mok K M →
    Met l (am_y mi) (am_ws mi) (am_rm mi) (va_Pc (as.map (am_cv G)) (am_Pc D G K M sz)) (am_Qc mi D G K M sz Q) (am_mc mi) (am_ms mi) (va_A (am_wo G K M) sz)
/-- the same of a method that makes nothing -/
def am_AtN (mi : am_I) (pc : Nat) (ls : am_L) (stk : List am_V) (K : am_K) (M : am_M) (Q : Option am_V → am_M → Prop) : Prop := am_At mi pc ls stk K M (fun r _ M' => Q r M')
def am_CallN (mi : am_I) (as : List am_V) (K : am_K) (M : am_M) (Q : Option am_V → am_M → Prop) : Prop := am_Call mi as (K.1, 0, 0) M (fun r _ M' => Q r M')
