/-! THE CONSTRUCTORS: a world that grows, as a list of cells. -/
theorem va_AOA.moved {ty : FieldType} {u U : State} (hvm : u.vm.Alike U.vm) (h : va_AOA ty u) : va_AOA ty U := by
  have h2 : (Cond.arrayOver (.array ty)).before #[] (u.setVm U.vm) = true := (Cond.arrayOver_setVmC hvm (.array ty)).trans h
  exact h2
def KI (D : va_G) (cy : Nat → ClassId) (U : State) : Prop := va_K D vwCl (tyL cy) U ∧ va_AOA .int U ∧ va_AOA .long U
theorem KI.moved {D : va_G} {cy : Nat → ClassId} {u U : State} (hvm : u.vm.Alike U.vm) (h : KI D cy u) : KI D cy U := ⟨va_K.moved hvm h.1, h.2.1.moved hvm, h.2.2.moved hvm⟩
def EVI (p : Program) (s : State) (m : MethodId) (args : Array Value) (meth : Method) (c : Code) (cc : ByteArray) (nL : Nat) (own : String) (Ts : List Cond) (D : va_G) (cy : Nat → ClassId) (A : Nat → Prop) : Prop :=
  p.tables.exec = Jvm.exec ∧ c.code = cc ∧ c.maxLocals = nL ∧ s.vm.findClass own = some m.cls ∧ (∀ w ∈ Ts, w.before args s = true) ∧ KI D cy s ∧ (∀ q, s.heap.size ≤ q → A q) ∧ meth.locks = false
def GI (p : Program) (l : Launch) (e : Env) (R : Room) (s : State) (m : MethodId) (args : Array Value) (below : List Frame) (meth : Method) (c : Code) (nL cells slots : Nat) (D : va_G) (A : Nat → Prop) (Q : State → Prop) (pc : Nat) (lv : List (Nat × Value)) (st : List Value) (w : va_W) : Prop :=
  ∀ (H : Heap) (locs : List Loc) (ls : Array Slot), lv_has ls nL lv → va_P D vwCl w H → va_D A w → va_S A s.heap H locs → W p l e R s m args below meth c H locs cells slots Q (F0 m pc ls st)
/-- a constructor's contract: from its object alone to the cells that PW tells -/
def ConI (l : Launch) (D : va_G) (cy : Nat → ClassId) (y : MethodName) (wy : List Cond) (rm : Room) (mc ms : Nat) (av : List Value) (w : va_W) (PW : va_W → Prop) : Prop :=
  ∀ sz, Met l y wy rm (va_Pc av (fun U => U.heap.size = sz ∧ va_P D vwCl w U.heap ∧ KI D cy U ∧ va_D (fun _ => True) w)) (fun _ st oc t => (oc = .returned none ∧ ∃ w1, PW w1 ∧ va_P D vwCl w1 t.heap ∧ va_D (va_A w sz) w1) ∧ va_F (va_A w sz) st t) mc ms (va_A w sz)
section GIS
variable {p : Program} {l : Launch} {e : Env} {R : Room} {s : State} {m : MethodId} {args : Array Value} {below : List Frame} {meth : Method} {c : Code} {cc : ByteArray} {nL cells slots : Nat} {own : String} {Ts : List Cond} {D : va_G} {cy : Nat → ClassId} {A : Nat → Prop} {Q : State → Prop} {pc : Nat} {lv : List (Nat × Value)} {st : List Value} {w : va_W}
theorem GI.aload_n {j : Fin 4} {i : Nat} {x : Nat} (E : EVI p s m args meth c cc nL own Ts D cy A) (hdg : decode cc pc = .ok (.aload_n j, 1)) (q : Nat) (hi : (j : Nat) = i) (hl : lv[q]? = some (i, .ref x)) (kk : GI p l e R s m args below meth c nL (cells) (slots) D A Q (pc + 1) lv (.ref x :: st) (w)) : GI p l e R s m args below meth c nL (cells) (slots) D A Q (pc) lv (st) (w) :=
  fun H locs ls h hP hD hS => lv_aload_n E.1 E.2.1 hdg hi (lv_at h q hl) (kk H locs ls h hP hD hS)
theorem GI.dup {v : Value} (E : EVI p s m args meth c cc nL own Ts D cy A) (hdg : decode cc pc = .ok (.dup, 1)) (hv : v.category = 1) (kk : GI p l e R s m args below meth c nL (cells) (slots) D A Q (pc + 1) lv (v :: v :: st) (w)) : GI p l e R s m args below meth c nL (cells) (slots) D A Q (pc) lv (v :: st) (w) :=
  fun H locs ls h hP hD hS => lv_dup E.1 E.2.1 hdg hv (kk H locs ls h hP hD hS)
theorem GI.iconst {n : Int} {v : Int32} (E : EVI p s m args meth c cc nL own Ts D cy A) (hdg : decode cc pc = .ok (.iconst n, 1)) (hv : Int32.ofInt n = v) (kk : GI p l e R s m args below meth c nL (cells) (slots) D A Q (pc + 1) lv (.int v :: st) (w)) : GI p l e R s m args below meth c nL (cells) (slots) D A Q (pc) lv (st) (w) :=
  fun H locs ls h hP hD hS => lv_iconst E.1 E.2.1 hdg hv (kk H locs ls h hP hD hS)
theorem GI.bipush {n : Int} {v : Int32} (E : EVI p s m args meth c cc nL own Ts D cy A) (hdg : decode cc pc = .ok (.bipush n, 2)) (hv : (Int8.ofInt n).toInt32 = v) (kk : GI p l e R s m args below meth c nL (cells) (slots) D A Q (pc + 2) lv (.int v :: st) (w)) : GI p l e R s m args below meth c nL (cells) (slots) D A Q (pc) lv (st) (w) :=
  fun H locs ls h hP hD hS => lv_bipush E.1 E.2.1 hdg hv (kk H locs ls h hP hD hS)
theorem GI.sipush {n : Int} {v : Int32} (E : EVI p s m args meth c cc nL own Ts D cy A) (hdg : decode cc pc = .ok (.sipush n, 3)) (hv : (Int16.ofInt n).toInt32 = v) (kk : GI p l e R s m args below meth c nL (cells) (slots) D A Q (pc + 3) lv (.int v :: st) (w)) : GI p l e R s m args below meth c nL (cells) (slots) D A Q (pc) lv (st) (w) :=
  fun H locs ls h hP hD hS => lv_sipush E.1 E.2.1 hdg hv (kk H locs ls h hP hD hS)
theorem GI.astore_n {j : Fin 4} {i x : Nat} {lv' : List (Nat × Value)} (E : EVI p s m args meth c cc nL own Ts D cy A) (hdg : decode cc pc = .ok (.astore_n j, 1)) (hi : (j : Nat) = i) (hn : i < nL) (hl : (i, Value.ref x) :: lv.filter (fun q => !(q.1 == i) && !(q.1 + 1 == i && q.2.category == 2)) = lv') (kk : GI p l e R s m args below meth c nL (cells) (slots) D A Q (pc + 1) lv' (st) (w)) : GI p l e R s m args below meth c nL (cells) (slots) D A Q (pc) lv (.ref x :: st) (w) :=
  fun H locs ls h hP hD hS => lv_astore_n E.1 E.2.1 hdg hi h hn hl (fun ls h => kk H locs ls h hP hD hS)
theorem GI.astore {i : Nat} {x : Nat} {lv' : List (Nat × Value)} (E : EVI p s m args meth c cc nL own Ts D cy A) (hdg : decode cc pc = .ok (.astore i, 2)) (hn : i < nL) (hl : (i, Value.ref x) :: lv.filter (fun q => !(q.1 == i) && !(q.1 + 1 == i && q.2.category == 2)) = lv') (kk : GI p l e R s m args below meth c nL (cells) (slots) D A Q (pc + 2) lv' (st) (w)) : GI p l e R s m args below meth c nL (cells) (slots) D A Q (pc) lv (.ref x :: st) (w) :=
  fun H locs ls h hP hD hS => lv_astore E.1 E.2.1 hdg h hn hl (fun ls h => kk H locs ls h hP hD hS)
theorem GI.istore {i : Nat} {x : Int32} {lv' : List (Nat × Value)} (E : EVI p s m args meth c cc nL own Ts D cy A) (hdg : decode cc pc = .ok (.istore i, 2)) (hn : i < nL) (hl : (i, Value.int x) :: lv.filter (fun q => !(q.1 == i) && !(q.1 + 1 == i && q.2.category == 2)) = lv') (kk : GI p l e R s m args below meth c nL (cells) (slots) D A Q (pc + 2) lv' (st) (w)) : GI p l e R s m args below meth c nL (cells) (slots) D A Q (pc) lv (.int x :: st) (w) :=
  fun H locs ls h hP hD hS => lv_istore E.1 E.2.1 hdg h hn hl (fun ls h => kk H locs ls h hP hD hS)
theorem GI.objInit {idx x : Nat} (E : EVI p s m args meth c cc nL own Ts D cy A) (hdg : decode cc pc = .ok (.invokespecial idx, 3)) (hlink : Cond.methodLink own idx Lib.objectInit ∈ Ts) (hinst : Cond.instanceMethod Lib.objectInit ∈ Ts) (hcode : Cond.code Lib.objectInit ⟨#[0xb1]⟩ 1 none ∈ Ts) (hR : 1 ≤ R.frames ∧ (st.map fun v => v.category).sum + 12 ≤ R.locals) (kk : GI p l e R s m args below meth c nL (cells) (slots) D A Q (pc + 3) lv (st) (w)) : GI p l e R s m args below meth c nL (cells) (slots) D A Q (pc) lv (.ref x :: st) (w) :=
  fun H locs ls h hP hD hS => W.objInit E.1 E.2.1 E.2.2.2.1 (E.2.2.2.2.1 _ hlink) (E.2.2.2.2.1 _ hinst) (E.2.2.2.2.1 _ hcode) rfl (h.1.trans E.2.2.1.symm) rfl hdg hR.1 (by show 2 * 0 + _ + 12 ≤ _; have := hR.2; omega) (kk H locs ls h hP hD hS)
theorem GI.getR {C : String} {T : u_T} {N ci index : Nat} {fs : List Value} {a : Nat} {q0 i : Nat} {v : Value} (E : EVI p s m args meth c cc nL own Ts D cy A) (hdg : decode cc pc = .ok (.getfield index, 3)) (hin : ∀ w ∈ u_ws C T N, w ∈ Ts) (he : w[q0]? = some (a, .inr (ci, fs))) (hc : vwCl[ci]? = some (C, T, N)) (hk : i < N) (hv : fs[i]? = some v) (hlink : (Cond.fieldLink own index (T i).1 (T i).2.1 (T i).2.2.1) ∈ Ts) (kk : GI p l e R s m args below meth c nL (cells) (slots) D A Q (pc + 3) lv (v :: st) (w)) : GI p l e R s m args below meth c nL (cells) (slots) D A Q (pc) lv (.ref a :: st) (w) :=
  fun H locs ls h hP hD hS => va_get (D := D) E.1 E.2.1 E.2.2.2.2.1 hin E.2.2.2.1 E.2.2.2.2.2.1.1 hP q0 he hc i hk (E.2.2.2.2.1 _ hlink) (fun _ h9 => h9) hv hdg (kk H locs ls h hP hD hS)
theorem GI.putF {C : String} {T : u_T} {N ci index : Nat} {fs : List Value} {a : Nat} {q0 i : Nat} {v : Value} {ty : FieldType} {w' : va_W} (E : EVI p s m args meth c cc nL own Ts D cy A) (hdg : decode cc pc = .ok (.putfield index, 3)) (hin : ∀ w ∈ u_ws C T N, w ∈ Ts) (ty0 : Nat → FieldType) (hty : ∀ k, k < N → parseFieldDescriptor (T k).2.2.1 = some (ty0 k)) (hnm : ∀ a, a < N → ∀ b, b < N → a ≠ b → (T a).2.1 ≠ (T b).2.1) (he : w[q0]? = some (a, .inr (ci, fs))) (hc : vwCl[ci]? = some (C, T, N)) (hk : i < N) (hlink : (Cond.fieldLink own index (T i).1 (T i).2.1 (T i).2.2.1) ∈ Ts) (hfin : (T i).2.2.2 = true) (hname : meth.name = "<init>") (hdecl : (T i).1 = own) (hd : parseFieldDescriptor (T i).2.2.1 = some ty) (hn : narrow ty v = v) (hfit : fits ty v = true) (hl : i < fs.length) (hs : w.set q0 (a, .inr (ci, fs.set i v)) = w') (kk : GI p l e R s m args below meth c nL (cells) (slots) D A Q (pc + 3) lv (st) (w')) : GI p l e R s m args below meth c nL (cells) (slots) D A Q (pc) lv (v :: .ref a :: st) (w) :=
  fun H locs ls h hP hD hS => va_putF (D := D) E.1 E.2.1 E.2.2.2.2.1 hin ty0 hty hnm E.2.2.2.1 E.2.2.2.2.2.1.1 hP hD hS q0 he hc i hk (E.2.2.2.2.1 _ hlink) (fun _ h9 => h9) hfin hname hdecl hd hn hfit hl hdg (fun H1 locs1 hP1 hD1 hS1 => kk H1 locs1 ls h (by rw [hs] at hP1; exact hP1) (by rw [hs] at hD1; exact hD1) hS1)
theorem GI.new {C : String} {T : u_T} {N ci index : Nat} (fs : List Value) (E : EVI p s m args meth c cc nL own Ts D cy A) (hdg : decode cc pc = .ok (.new index, 3)) (hin : ∀ w ∈ u_ws C T N, w ∈ Ts) (ty : Nat → FieldType) (hty : ∀ k, k < N → parseFieldDescriptor (T k).2.2.1 = some (ty k)) (hcl : Cond.classLink own index C ∈ Ts) (hinst : Cond.instantiable C N ∈ Ts) (hini : Cond.initialized C ∈ Ts) (hc : vwCl[ci]? = some (C, T, N)) (hfs : ∀ j, j < N → defaultValue (ty j) = vp_V fs j) (hcs : cells + 1 ≤ R.cells ∧ slots + N ≤ R.slots) (kk : ∀ q : Nat, GI p l e R s m args below meth c nL (cells + 1) (slots + N) D A Q (pc + 3) lv (.ref q :: st) (w ++ [(q, .inr (ci, fs))])) : GI p l e R s m args below meth c nL (cells) (slots) D A Q (pc) lv (st) (w) :=
  fun H locs ls h hP hD hS => va_new E.1 E.2.1 E.2.2.2.2.1 hin ty hty E.2.2.2.1 (E.2.2.2.2.1 _ hcl) (E.2.2.2.2.1 _ hinst) (E.2.2.2.2.1 _ hini) E.2.2.2.2.2.1.1 hP hD hS E.2.2.2.2.2.2.1 hc hfs hcs.1 hcs.2 hdg (fun q H1 hP1 hD1 hS1 => kk q H1 locs ls h hP1 hD1 hS1)
theorem GI.newI {n : Int32} {N' : Nat} (E : EVI p s m args meth c cc nL own Ts D cy A) (hdg : decode cc pc = .ok (.newarray .int, 2)) (harr : Cond.arrayClass .int ∈ Ts) (hn : ¬ n < 0) (hN : n.toNatClampNeg = N') (hbytes : N' * componentBytes .int ≤ 536870912) (hcs : cells + 1 ≤ R.cells ∧ slots + N' ≤ R.slots) (kk : ∀ q : Nat, GI p l e R s m args below meth c nL (cells + 1) (slots + N') D A Q (pc + 2) lv (.ref q :: st) (w ++ [(q, .inl (cy 0, N', .inl (fun _ => 0)))])) : GI p l e R s m args below meth c nL (cells) (slots) D A Q (pc) lv (.int n :: st) (w) := by
  intro H locs ls h hP hD hS
  refine va_newa (atype := .int) (ty := .int) (a0 := (N', .inl (fun _ => 0))) E.1 E.2.1 (E.2.2.2.2.1 _ harr) rfl E.2.2.2.2.2.1.1 hP hD hS E.2.2.2.2.2.2.1 (fun cA => rfl) hn hN hbytes hcs.1 hcs.2 hdg (fun q cA H1 hK1 hP1 hD1 hS1 => ?_)
  have e1 : cA = cy 0 := by
    have h1 := (hK1.2 4 (cA, .int) rfl).2
    have h2 := (E.2.2.2.2.2.1.1.2 0 (cy 0, .int) rfl).2
    exact Option.some.inj (h1.symm.trans h2)
  subst e1
  exact kk q H1 locs ls h hP1 hD1 hS1
theorem GI.newL {n : Int32} {N' : Nat} (E : EVI p s m args meth c cc nL own Ts D cy A) (hdg : decode cc pc = .ok (.newarray .long, 2)) (harr : Cond.arrayClass .long ∈ Ts) (hn : ¬ n < 0) (hN : n.toNatClampNeg = N') (hbytes : N' * componentBytes .long ≤ 536870912) (hcs : cells + 1 ≤ R.cells ∧ slots + N' ≤ R.slots) (kk : ∀ q : Nat, GI p l e R s m args below meth c nL (cells + 1) (slots + N') D A Q (pc + 2) lv (.ref q :: st) (w ++ [(q, .inl (cy 1, N', .inr (.inl (fun _ => 0))))])) : GI p l e R s m args below meth c nL (cells) (slots) D A Q (pc) lv (.int n :: st) (w) := by
  intro H locs ls h hP hD hS
  refine va_newa (atype := .long) (ty := .long) (a0 := (N', .inr (.inl (fun _ => 0)))) E.1 E.2.1 (E.2.2.2.2.1 _ harr) rfl E.2.2.2.2.2.1.1 hP hD hS E.2.2.2.2.2.2.1 (fun cA => rfl) hn hN hbytes hcs.1 hcs.2 hdg (fun q cA H1 hK1 hP1 hD1 hS1 => ?_)
  have e1 : cA = cy 1 := by
    have h1 := (hK1.2 4 (cA, .long) rfl).2
    have h2 := (E.2.2.2.2.2.1.1.2 1 (cy 1, .long) rfl).2
    exact Option.some.inj (h1.symm.trans h2)
  subst e1
  exact kk q H1 locs ls h hP1 hD1 hS1
theorem pl_rows (r : Nat → Nat) (e : va_E) (f : Nat → va_E) : ∀ n, va_pl ([] ++ (List.range n).map r) (vr_up f ((List.range n).map r) e) = (List.range n).map (fun j => (r j, e)) := by
  intro n
  rw [List.nil_append]
  unfold va_pl
  rw [List.map_map]
  apply List.map_congr_left
  intro j hj
  show (r j, vr_up f _ e (r j)) = (r j, e)
  rw [vr_up_in (List.mem_map_of_mem hj)]
theorem GI.mnaI {index : Nat} {n k : Int32} {N' K' : Nat} (E : EVI p s m args meth c cc nL own Ts D cy A) (hdg : decode cc pc = .ok (.multianewarray index 2, 4)) (hcl : Cond.classLink own index ("[" ++ (FieldType.array .int).toString) ∈ Ts) (harr : Cond.arrayClass .int ∈ Ts) (hn : ¬ n < 0) (hk : ¬ k < 0) (hN : n.toNatClampNeg = N') (hM : k.toNatClampNeg = K') (hb : N' * 4 ≤ 536870912 ∧ K' * componentBytes .int ≤ 536870912 ∧ K' ≤ 536870912) (hcs : cells + (1 + N') ≤ R.cells ∧ slots + (N' + N' * K') ≤ R.slots) (kk : ∀ (q : Nat) (r : Nat → Nat), GI p l e R s m args below meth c nL (cells + 1 + N') (slots + N' + N' * K') D A Q (pc + 4) lv (.ref q :: st) ((w ++ [(q, .inl (cy 2, N', .inr (.inr (.inr (.inr (fun i => if i < N' then some (r i) else none))))))]) ++ (List.range N').map (fun j => (r j, .inl (cy 0, K', .inl (fun _ => 0)))))) : GI p l e R s m args below meth c nL (cells) (slots) D A Q (pc) lv (.int k :: .int n :: st) (w) := by
  intro H locs ls h hP hD hS
  have h2 := (E.2.2.2.2.2.1.1.2 0 (cy 0, .int) rfl).2
  refine va_mna (X := w) (L := []) (f := fun _ => .inr (0, [])) (ty := .int) (cy := cy 0) (z := (K', .inl (fun _ => 0))) E.1 E.2.1 E.2.2.2.1 (E.2.2.2.2.1 _ hcl) E.2.2.2.2.2.1.2.1 (E.2.2.2.2.1 _ harr) h2 E.2.2.2.2.2.1.1 (by show va_P D vwCl (w ++ []) H; rw [List.append_nil]; exact hP) (by show va_D A (w ++ []); rw [List.append_nil]; exact hD) hS E.2.2.2.2.2.2.1 hn hk hN hM hb.1 hb.2.1 hb.2.2 rfl rfl hcs.1 hcs.2 (fun c => by show ({ cls := c, slots := Array.replicate K' (.int 0), vm := .none } : Cell) = _; rw [arrV_new]; rfl) hdg (fun q r cA H1 _ _ hK1 hP1 hD1 hS1 => ?_)
  have e1 : cA = cy 2 := by
    have h1 := (hK1.2 4 (cA, .array .int) rfl).2
    have h3 := (E.2.2.2.2.2.1.1.2 2 (cy 2, .array .int) rfl).2
    exact Option.some.inj (h1.symm.trans h3)
  subst e1
  rw [pl_rows] at hP1 hD1
  exact kk q r H1 locs ls h hP1 hD1 hS1
theorem GI.mnaL {index : Nat} {n k : Int32} {N' K' : Nat} (E : EVI p s m args meth c cc nL own Ts D cy A) (hdg : decode cc pc = .ok (.multianewarray index 2, 4)) (hcl : Cond.classLink own index ("[" ++ (FieldType.array .long).toString) ∈ Ts) (harr : Cond.arrayClass .long ∈ Ts) (hn : ¬ n < 0) (hk : ¬ k < 0) (hN : n.toNatClampNeg = N') (hM : k.toNatClampNeg = K') (hb : N' * 4 ≤ 536870912 ∧ K' * componentBytes .long ≤ 536870912 ∧ K' ≤ 536870912) (hcs : cells + (1 + N') ≤ R.cells ∧ slots + (N' + N' * K') ≤ R.slots) (kk : ∀ (q : Nat) (r : Nat → Nat), GI p l e R s m args below meth c nL (cells + 1 + N') (slots + N' + N' * K') D A Q (pc + 4) lv (.ref q :: st) ((w ++ [(q, .inl (cy 3, N', .inr (.inr (.inr (.inr (fun i => if i < N' then some (r i) else none))))))]) ++ (List.range N').map (fun j => (r j, .inl (cy 1, K', .inr (.inl (fun _ => 0))))))) : GI p l e R s m args below meth c nL (cells) (slots) D A Q (pc) lv (.int k :: .int n :: st) (w) := by
  intro H locs ls h hP hD hS
  have h2 := (E.2.2.2.2.2.1.1.2 1 (cy 1, .long) rfl).2
  refine va_mna (X := w) (L := []) (f := fun _ => .inr (0, [])) (ty := .long) (cy := cy 1) (z := (K', .inr (.inl (fun _ => 0)))) E.1 E.2.1 E.2.2.2.1 (E.2.2.2.2.1 _ hcl) E.2.2.2.2.2.1.2.2 (E.2.2.2.2.1 _ harr) h2 E.2.2.2.2.2.1.1 (by show va_P D vwCl (w ++ []) H; rw [List.append_nil]; exact hP) (by show va_D A (w ++ []); rw [List.append_nil]; exact hD) hS E.2.2.2.2.2.2.1 hn hk hN hM hb.1 hb.2.1 hb.2.2 rfl rfl hcs.1 hcs.2 (fun c => by show ({ cls := c, slots := Array.replicate K' (.long 0), vm := .none } : Cell) = _; rw [arrV_new]; rfl) hdg (fun q r cA H1 _ _ hK1 hP1 hD1 hS1 => ?_)
  have e1 : cA = cy 3 := by
    have h1 := (hK1.2 4 (cA, .array .long) rfl).2
    have h3 := (E.2.2.2.2.2.1.1.2 3 (cy 3, .array .long) rfl).2
    exact Option.some.inj (h1.symm.trans h3)
  subst e1
  rw [pl_rows] at hP1 hD1
  exact kk q r H1 locs ls h hP1 hD1 hS1
theorem GI.loc {lv' : List (Nat × Value)} (ks : List Nat) (hl : lv_pick lv ks = lv') (kk : GI p l e R s m args below meth c nL (cells) (slots) D A Q (pc) lv' (st) (w)) : GI p l e R s m args below meth c nL (cells) (slots) D A Q (pc) lv (st) (w) :=
  fun H locs ls h hP hD hS => kk H locs ls (lv_sub h ks hl) hP hD hS
theorem GI.wd {w' : va_W} (hw : w = w') (kk : GI p l e R s m args below meth c nL (cells) (slots) D A Q (pc) lv (st) (w')) : GI p l e R s m args below meth c nL (cells) (slots) D A Q (pc) lv (st) (w) := hw ▸ kk
theorem GI.call {y : MethodName} {wy wy' : List Cond} {rm : Room} {mc ms index maxL n a : Nat} {bytes : ByteArray} {As : List Value} {x : va_E} {PW : va_W → Prop} (E : EVI p s m args meth c cc nL own Ts D cy A) (hdg : decode cc pc = .ok (.invokespecial index, 3)) (hM : ConI l D cy y wy rm mc ms (.ref a :: As) [(a, x)] PW) (hG : GoodIn Ts wy) (hw : wy = Cond.code y bytes maxL none :: wy') (hrc : rm.cells = mc) (hrs : rm.slots = ms) (hini : Cond.initialized y.cls ∈ Ts) (hl : Cond.methodLink own index y ∈ Ts) (hinst : Cond.instanceMethod y ∈ Ts) (hname : y.name = "<init>")
    (hd : y.cls ≠ "java/lang/invoke/MethodHandle" ∧ y.cls ≠ "java/lang/invoke/VarHandle" ∧ (parseMethodDescriptor y.desc).map (fun d => d.parameters.length) = some n) (hR : rm.frames + 1 ≤ R.frames ∧ 8 + (maxL + 11) + rm.locals ≤ R.locals) (hn : As.length = n) (hcat : (st.map fun v => v.category).sum ≤ 8) (hcs : cells + mc ≤ R.cells ∧ slots + ms ≤ R.slots) (kk : ∀ w1 : va_W, PW w1 → GI p l e R s m args below meth c nL (cells + mc) (slots + ms) D A Q (pc + 3) lv (st) (w ++ w1)) : GI p l e R s m args below meth c nL (cells) (slots) D A Q (pc) lv (As.reverse ++ .ref a :: st) (w ++ [(a, x)]) := by
  intro H locs ls h hP hD hS
  have hPa : va_P D vwCl [(a, x)] H := fun k q hq => by
    have hk : k < 1 := (List.getElem?_eq_some_iff.mp hq).1
    rw [show k = 0 by omega] at hq
    cases hq
    exact hP w.length (a, x) (by simp)
  have hDa : va_D (fun _ => True) [(a, x)] := ⟨fun i j q1 q2 h1 h2 _ => by
    have := (List.getElem?_eq_some_iff.mp h1).1
    have := (List.getElem?_eq_some_iff.mp h2).1
    simp only [List.length_cons, List.length_nil] at *
    omega, fun _ _ _ => trivial⟩
  have haA : A a := hD.2 w.length (a, x) (by simp)
  have hA1 : ∀ q, va_A [(a, x)] H.size q → A q := fun q h => by
    rcases h with ⟨k, e0, hk⟩ | h
    · have hk1 : k < 1 := (List.getElem?_eq_some_iff.mp hk).1
      rw [show k = 0 by omega] at hk
      cases hk
      exact haA
    · exact E.2.2.2.2.2.2.1 q (Nat.le_trans hS.1 h)
  have run := va_runI (rest := st) (g := F0 m pc ls (As.reverse ++ .ref a :: st)) (locs := locs) (cells := cells) (slots := slots) (below := below) (meth := meth) (e := e) ⟨E.1, E.2.1, E.2.2.1, E.2.2.2.1, E.2.2.2.2.1⟩ (hM H.size) (cwI n E.2.2.2.2.1 hG hw hrc hrs (E.2.2.2.2.1 _ hini) (E.2.2.2.2.1 _ hl) (E.2.2.2.2.1 _ hinst) hname hd hR) ⟨fun a U g mk q => by
      obtain ⟨q0, q1, qP, qK, qD⟩ := q
      exact ⟨q0, q1, qP, KI.moved (u := U) (U := U.calling g mk a) (Vm.Alike.refl U.vm) qK, qD⟩, fun U hU hW => ⟨rfl, by rw [hU], by rw [hU]; exact hPa, KI.moved hW.alike E.2.2.2.2.2.1, hDa⟩⟩ rfl hn h.1 rfl (lv_room hcat) hdg hcs
  intro T hT X
  obtain ⟨v', st₀, t, T', L, h0, X', hL, e1, e2, ⟨⟨hv, w1, hw1, hP1, hD1⟩, hz, hk⟩, st'⟩ := run T hT X
  cases hv
  rw [h0] at hz hk
  have hkw : ∀ q ∈ w, t.heap[q.1]? = H[q.1]? := fun q hq => by
    obtain ⟨i, hi⟩ := List.getElem?_of_mem hq
    have hil := (List.getElem?_eq_some_iff.mp hi).1
    have hi' : (w ++ [(a, x)])[i]? = some q := by rw [List.getElem?_append_left hil]; exact hi
    have hlt := (hP i q hi').lt
    refine hk q.1 hlt (fun hz => ?_)
    rcases hz with ⟨k, e0, hk0⟩ | hz
    · have hk1 : k < 1 := (List.getElem?_eq_some_iff.mp hk0).1
      rw [show k = 0 by omega] at hk0
      have ha : a = q.1 := by simpa using congrArg (fun o : Option (Nat × va_E) => o.map (fun z => z.1)) hk0
      have := hD.1 i w.length q (a, x) hi' (by simp) ha.symm
      omega
    · omega
  have hP2 : va_P D vwCl (w ++ w1) t.heap := by
    rw [vP_iff]
    intro q hq
    rcases List.mem_append.mp hq with hq | hq
    · exact (vP_iff.mp hP q (List.mem_append_left _ hq)).kept (hkw q hq)
    · exact vP_iff.mp hP1 q hq
  have hDw : va_D A w := ⟨fun i j q1 q2 h1 h2 he => hD.1 i j q1 q2 (by rw [List.getElem?_append_left (List.getElem?_eq_some_iff.mp h1).1]; exact h1) (by rw [List.getElem?_append_left (List.getElem?_eq_some_iff.mp h2).1]; exact h2) he, fun k q hq => hD.2 k q (by rw [List.getElem?_append_left (List.getElem?_eq_some_iff.mp hq).1]; exact hq)⟩
  have hD2 : va_D A (w ++ w1) := by
    refine hDw.app (hD1.weaken (fun k q hq hq2 => hA1 _ hq2)) (fun i j q1 q2 h1 h2 he => ?_)
    have hi' : (w ++ [(a, x)])[i]? = some q1 := by rw [List.getElem?_append_left (List.getElem?_eq_some_iff.mp h1).1]; exact h1
    have hil := (List.getElem?_eq_some_iff.mp h1).1
    rcases hD1.2 j q2 h2 with ⟨k, e0, hk0⟩ | hz2
    · have hk1 : k < 1 := (List.getElem?_eq_some_iff.mp hk0).1
      rw [show k = 0 by omega] at hk0
      have ha : a = q2.1 := by simpa using congrArg (fun o : Option (Nat × va_E) => o.map (fun z => z.1)) hk0
      have := hD.1 i w.length q1 (a, x) hi' (by simp) (he.trans ha.symm)
      omega
    · have := (hP i q1 hi').lt
      omega
  obtain ⟨t2, a1, b1⟩ := kk w1 hw1 T'.heap (locs ++ L) ls h (by rw [e1]; exact hP2) hD2
    ⟨Nat.le_trans hS.1 (by rw [e1]; exact hz), fun q h1 h2 => by rw [e1, hk q (Nat.lt_of_lt_of_le h1 hS.1) (fun z => h2 (hA1 q z))]; exact hS.2.1 q h1 h2, fun q hq => by
      rcases List.mem_append.mp hq with h | h
      · exact hS.2.2 q h
      · exact hA1 _ (hL q h)⟩ T' rfl X'
  exact ⟨t2, st' t2 a1, b1⟩
end GIS
section GIC
variable {p : Program} {l : Launch} {e : Env} {R : Room} {s : State} {m : MethodId} {args : Array Value} {below : List Frame} {meth : Method} {c : Code} {cc : ByteArray} {nL cells slots : Nat} {own : String} {Ts : List Cond} {D : va_G} {cy : Nat → ClassId} {A : Nat → Prop} {Q : State → Prop} {pc : Nat} {lv : List (Nat × Value)} {st : List Value} {w : va_W}
theorem ConI.of {y : MethodName} {maxL mc ms : Nat} {wy wy' : List Cond} {rm : Room} {av : List Value} {lv0 : List (Nat × Value)} {PW : va_W → Prop} (hy : plainName y.cls = true) (hw : wy = Cond.code y cc maxL none :: wy') (hown : y.cls = own) (hav : (lg_sl av).length ≤ maxL) (hlv : lv_args 0 av = lv0) (hname : y.name = "<init>")
    (body : ∀ (p : Program) (e : Env) (s : State) (m : MethodId) (args : Array Value) (below : List Frame) (meth : Method) (c : Code), EVI p s m args meth c cc maxL own wy D cy (va_A w s.heap.size) → meth.name = "<init>" → meth.sig.returnType = none → GI p l e (headSpec wy rm).room s m args below meth c maxL 0 0 D (va_A w s.heap.size) (MQ below (fun _ st oc t => (oc = .returned none ∧ ∃ w1, PW w1 ∧ va_P D vwCl w1 t.heap ∧ va_D (va_A w s.heap.size) w1) ∧ va_F (va_A w s.heap.size) st t) args s mc ms (va_A w s.heap.size)) 0 lv0 [] w) : ConI l D cy y wy rm mc ms av w PW := by
  intro sz
  refine Met.ofW (cc := cc) (maxL := maxL) (ret := none) hy hw ?_
  intro p e s m args below meth c s₁ B hml hv
  obtain ⟨rfl, hsz, hP, hK, hD⟩ := hv
  subst hsz
  subst hown
  have hin : meth.name = "<init>" := ((name_of_methodNamed B.named B.method).1).trans hname
  have hl := lv_entry av (n := maxL) hav
  rw [lg_entry_eq]
  rw [hlv] at hl
  exact body p e s m av.toArray below meth c ⟨B.exec, B.bytes, hml, findClass_of_methodNamed B.named, atoms_spec (ws := wy) B.pre, hK, fun q h => Or.inr h, B.notSynchronized⟩ hin B.returns s.heap [] _ hl hP hD.self va_S.rf
theorem GI.ret {mc ms : Nat} {w0 : va_W} {PW : va_W → Prop} (E : EVI p s m args meth c cc nL own Ts D cy (va_A w0 s.heap.size)) (hdg : decode cc pc = .ok (.return_, 1)) (hret : meth.sig.returnType = none) (hpw : PW w) (h1 : cells ≤ mc) (h2 : slots ≤ ms) : GI p l e R s m args below meth c nL cells slots D (va_A w0 s.heap.size) (MQ below (fun _ st oc t => (oc = .returned none ∧ ∃ w1, PW w1 ∧ va_P D vwCl w1 t.heap ∧ va_D (va_A w0 s.heap.size) w1) ∧ va_F (va_A w0 s.heap.size) st t) args s mc ms (va_A w0 s.heap.size)) pc lv [] w := by
  intro H locs ls h hP hD hS
  exact W.widen h1 h2 (W.vret E.1 E.2.1 hret (fun t ht hW => ⟨⟨rfl, w, hpw, by rw [ht]; exact hP, hD⟩, hS.F ht⟩) hS.2.2 hdg E.2.2.2.2.2.2.2)
theorem va_D.nodup {A : Nat → Prop} {ws : va_W} (h : va_D A ws) : (ws.map (fun q => q.1)).Nodup := by
  unfold List.Nodup
  rw [List.pairwise_iff_getElem]
  intro i j hi hj hij he
  rw [List.length_map] at hi hj
  rw [List.getElem_map, List.getElem_map] at he
  have := h.1 i j _ _ (List.getElem?_eq_getElem hi) (List.getElem?_eq_getElem hj) he
  omega
end GIC
