/-! THE WALK, ONE LEVEL UP: the numeric cells of a fixed world as a pair of functions, and a row an instruction that carries, beside the machine, what is still to be computed (an Option: none where the machine would throw or a loop's count is used up). -/
/-- what the numeric cells hold: by place and slot -/
abbrev Wd : Type := (Nat → Nat → Int32) × (Nat → Nat → Int64)
def sI (σ : Wd) (q k : Nat) (v : Int32) : Wd := (fun p => if p = q then upd (σ.1 p) k v else σ.1 p, σ.2)
def sL (σ : Wd) (q k : Nat) (v : Int64) : Wd := (σ.1, fun p => if p = q then vp_updL (σ.2 p) k v else σ.2 p)
def z0 : Wd := (fun _ _ => 0, fun _ _ => 0)
/-- readings and writings as steps of a computation -/
def gI {ρ : Type} (σ : Wd) (q k : Nat) (K : Int32 → Option ρ) : Option ρ := K (σ.1 q k)
def gL {ρ : Type} (σ : Wd) (q k : Nat) (K : Int64 → Option ρ) : Option ρ := K (σ.2 q k)
def wI {ρ : Type} (σ : Wd) (q k : Nat) (v : Int32) (K : Wd → Option ρ) : Option ρ := K (sI σ q k v)
def wL {ρ : Type} (σ : Wd) (q k : Nat) (v : Int64) (K : Wd → Option ρ) : Option ρ := K (sL σ q k v)
def lI {ρ : Type} (v : Int32) (K : Int32 → Option ρ) : Option ρ := K v
def lL {ρ : Type} (v : Int64) (K : Int64 → Option ρ) : Option ρ := K v
/-- an index within a row of n -/
def inb (i : Int32) (n : Nat) : Bool := !(decide (i < 0)) && decide (i.toNatClampNeg < n)
theorem inb_in {i : Int32} {n : Nat} (h : inb i n = true) : vp_in i n := by
  simp only [inb, Bool.and_eq_true, Bool.not_eq_true', decide_eq_false_iff_not, decide_eq_true_eq] at h
  intro q
  rcases q with q | q
  · exact h.1 q
  · omega
theorem inb_lt {i : Int32} {n : Nat} (h : inb i n = true) : i.toNatClampNeg < n := by
  simp only [inb, Bool.and_eq_true, decide_eq_true_eq] at h
  exact h.2
def rI {ρ : Type} (σ : Wd) (q n : Nat) (i : Int32) (K : Int32 → Option ρ) : Option ρ := if inb i n = true then K (σ.1 q i.toNatClampNeg) else none
def rL {ρ : Type} (σ : Wd) (q n : Nat) (i : Int32) (K : Int64 → Option ρ) : Option ρ := if inb i n = true then K (σ.2 q i.toNatClampNeg) else none
def aI {ρ : Type} (σ : Wd) (q n : Nat) (i v : Int32) (K : Wd → Option ρ) : Option ρ := if inb i n = true then K (sI σ q i.toNatClampNeg v) else none
def aL {ρ : Type} (σ : Wd) (q n : Nat) (i : Int32) (v : Int64) (K : Wd → Option ρ) : Option ρ := if inb i n = true then K (sL σ q i.toNatClampNeg v) else none
/-- a row of rows: the place of the row -/
def rR {ρ : Type} (q n : Nat) (i : Int32) (K : Nat → Option ρ) : Option ρ := if inb i n = true then K (q + i.toNatClampNeg) else none
/-- a boolean that is given back -/
def zb {ρ : Type} (v : Int32) (K : Option ρ) : Option ρ := if v = 0 ∨ v = 1 then K else none
def dI {ρ : Type} (x y : Int32) (K : Int32 → Option ρ) : Option ρ := if y = 0 then none else K (x / y)
def mI {ρ : Type} (x y : Int32) (K : Int32 → Option ρ) : Option ρ := if y = 0 then none else K (x - x / y * y)
def dL {ρ : Type} (x y : Int64) (K : Int64 → Option ρ) : Option ρ := if y = 0 then none else K (x / y)
def mL {ρ : Type} (x y : Int64) (K : Int64 → Option ρ) : Option ρ := if y = 0 then none else K (x - x / y * y)
/-- the classes of the rows -/
abbrev tyL (cy : Nat → ClassId) : List (ClassId × FieldType) := [(cy 0, .int), (cy 1, .long), (cy 2, .array .int), (cy 3, .array .long)]
/-- the words of private members of a nest mate -/
def nestW : List Cond := [.methodLinkNest RX0 101 yX7_isIn "ExactWires", .methodLinkNest RX0 52 yX7_setOf "ExactWires", .methodLinkNest RX1 27 yX7_isIn "ExactWires", .methodLinkNest RX2 48 yX7_setOf "ExactWires", .methodLinkNest RX2 74 yX7_isIn "ExactWires", .methodLinkNest RX3 109 yX7_setOf "ExactWires", .methodLinkNest RX3 134 yX7_isConductance "ExactWires", .methodLinkNest RX3 158 yX7_isIn "ExactWires", .methodLinkNest RX3 93 yX7_isOfWire "ExactWires", .methodLinkNest RX4 25 yX7_isIn "ExactWires", .methodLinkNest RX4 55 yX7_setOf "ExactWires", .methodLinkNest RX5 44 yX7_isConductance "ExactWires", .castable "java/lang/IndexOutOfBoundsException" "java/lang/IndexOutOfBoundsException", .castable "java/lang/IllegalArgumentException" "java/lang/IllegalArgumentException", .castable "java/lang/IllegalStateException" "java/lang/IllegalStateException", .declares (Bundle.initS "java/lang/RuntimeException"), .declares (Bundle.initS "java/lang/Exception"), .declares (Bundle.initS "java/lang/Throwable")]
theorem nestW_warm {s U : State} (hW : s.WarmedH U.vm) : ∀ w ∈ nestW, va_Nw w s → va_Nw w U := by
  intro w hw h
  simp only [nestW, List.mem_cons, List.not_mem_nil, or_false] at hw
  rcases hw with rfl | rfl | rfl | rfl | rfl | rfl | rfl | rfl | rfl | rfl | rfl | rfl | rfl | rfl | rfl | rfl | rfl | rfl <;> first | exact va_Nw.warmM hW h | exact va_Nw.warmC hW h | exact va_Nw.warmD hW h
theorem nestW_tabs : ∀ w ∈ nestW, w.onTables = true := by
  intro w hw
  simp only [nestW, List.mem_cons, List.not_mem_nil, or_false] at hw
  rcases hw with rfl | rfl | rfl | rfl | rfl | rfl | rfl | rfl | rfl | rfl | rfl | rfl | rfl | rfl | rfl | rfl | rfl | rfl <;> rfl
/-- the texts of the exceptions, as the constant pools have them -/
def strW : List (String × Nat × String) := [("ExactWires", 107, "what is 0 to 2"), ("ExactWires", 128, "a place is from 0"), ("ExactWires", 139, "the edges are the same"), ("ExactWires", 149, "a value is -99 to 99"), ("ExactWires", 174, "the two nodes are the same"), ("ExactWires", 185, "there is no such node"), ("ExactWires", 205, "a kind is LOOP to STAR"), ("ExactWires", 210, "the move is not possible"), ("ExactWires", 216, "there is no move to undo"), ("ExactWires", 242, "there is no such edge"), ("ExactWires", 247, "there is no such wire"), ("ExactWires", 63, "there were 7 nodes"), ("ExactWires", 85, "a conductance is 1 to 60"), ("ExactWires", 98, "there were 20 wires, or there are 12")]
/-- exceptions of one class that are none of another -/
def ncW : List (String × String) := [("java/lang/IllegalArgumentException", "java/lang/IndexOutOfBoundsException"), ("java/lang/IllegalStateException", "java/lang/IndexOutOfBoundsException"), ("java/lang/IllegalStateException", "java/lang/IllegalArgumentException")]
/-- what every method takes as given of the machine beside its own world -/
def KX (D : va_G) (cy : Nat → ClassId) (A : Nat → Prop) (U : State) (H : Heap) : Prop :=
  va_K D vwCl (tyL cy) U ∧ (∀ w ∈ nestW, va_Nw w U) ∧ (∀ q ∈ strW, ∃ sa, vk_R q.1 q.2.1 q.2.2 sa U) ∧ vx_Zq Bundle.tN "UNASSIGNED_STACK" Bundle.steD A U H ∧ vx_Zq Bundle.tN "SUPPRESSED_SENTINEL" Bundle.listD A U H ∧ (∀ q ∈ ncW, va_Nc q.1 q.2 U)
theorem KX.narrow {D : va_G} {cy : Nat → ClassId} {A B : Nat → Prop} {U : State} {H : Heap} (h : KX D cy A U H) (hAB : ∀ q, B q → A q) : KX D cy B U H := ⟨h.1, h.2.1, h.2.2.1, h.2.2.2.1.narrow hAB, h.2.2.2.2.1.narrow hAB, h.2.2.2.2.2⟩
theorem KX.kept {D : va_G} {cy : Nat → ClassId} {A : Nat → Prop} {U : State} {H H1 : Heap} (h : KX D cy A U H) (hq : ∀ a : Nat, a < H.size → ¬ A a → H1[a]? = H[a]?) : KX D cy A U H1 := ⟨h.1, h.2.1, h.2.2.1, h.2.2.2.1.kept hq, h.2.2.2.2.1.kept hq, h.2.2.2.2.2⟩
theorem KX.warm {D : va_G} {cy : Nat → ClassId} {A : Nat → Prop} {u U : State} {H : Heap} (hW : u.WarmedH U.vm) (h : KX D cy A u H) : KX D cy A U H :=
  ⟨va_K.moved hW.alike h.1, fun w hw => nestW_warm hW w hw (h.2.1 w hw), fun q hq => (h.2.2.1 q hq).elim fun sa hs => ⟨sa, vk_R.warm hW hs⟩, h.2.2.2.1.moved hW.alike, h.2.2.2.2.1.moved hW.alike, fun q hq => va_Nc.moved hW.alike (h.2.2.2.2.2 q hq)⟩
theorem KX.same {D : va_G} {cy : Nat → ClassId} {A : Nat → Prop} {u U : State} {H : Heap} (hv : u.vm = U.vm) (h : KX D cy A u H) : KX D cy A U H :=
  ⟨va_K.moved (by rw [hv]; exact Vm.Alike.refl _) h.1, fun w hw => va_Nw.same (nestW_tabs w hw) hv (h.2.1 w hw), fun q hq => (h.2.2.1 q hq).elim fun sa hs => ⟨sa, vk_R.same hv.symm hs⟩, h.2.2.2.1.moved (by rw [hv]; exact Vm.Alike.refl _), h.2.2.2.2.1.moved (by rw [hv]; exact Vm.Alike.refl _), fun q hq => va_Nc.moved (by rw [hv]; exact Vm.Alike.refl _) (h.2.2.2.2.2 q hq)⟩
/-- the addresses of a world, and all that comes from sz on -/
def wA (ad : List Nat) (sz : Nat) : Nat → Prop := fun q => q ∈ ad ∨ sz ≤ q
/-- a world at its addresses -/
def WF {ω : Type} (ws : ω → va_W) (ad : List Nat) : Prop := ad.Nodup ∧ ∀ σ, (ws σ).map (fun q => q.1) = ad
theorem WF.D {ω : Type} {ws : ω → va_W} {ad : List Nat} (h : WF ws ad) (sz : Nat) (σ : ω) : va_D (wA ad sz) (ws σ) := by
  obtain ⟨hn, he⟩ := h
  have hat : ∀ (k : Nat) (q : Nat × va_E), (ws σ)[k]? = some q → ad[k]? = some q.1 := fun k q hk => by
    rw [← he σ, List.getElem?_map, hk]; rfl
  refine ⟨fun i j x y hi hj hxy => ?_, fun k q hk => Or.inl (List.mem_of_getElem? (hat k q hk))⟩
  have h1 := hat i x hi
  have h2 := hat j y hj
  rw [hxy] at h1
  have l1 := (List.getElem?_eq_some_iff.mp h1).1
  exact (List.getElem?_inj l1 hn).mp (h1.trans h2.symm)
/-- the start of a contract, and its end -/
def Pre {ω : Type} (D : va_G) (cy : Nat → ClassId) (ws : ω → va_W) (ad : List Nat) (σ : ω) (sz : Nat) (U : State) : Prop := U.heap.size = sz ∧ va_P D vwCl (ws σ) U.heap ∧ KX D cy (wA ad sz) U U.heap
def QR {ω : Type} (D : va_G) (ws : ω → va_W) (A : Nat → Prop) (v : Option Value) (σ : ω) : Array Value → State → Outcome → State → Prop := fun _ st oc t => (oc = .returned v ∧ va_P D vwCl (ws σ) t.heap) ∧ va_F A st t
/-- a contract: from any heap that holds the world with σ, y returns v and leaves the world with σ', and nothing else old has changed -/
def Con {ω : Type} (l : Launch) (D : va_G) (cy : Nat → ClassId) (ws : ω → va_W) (ad : List Nat) (y : MethodName) (wy : List Cond) (rm : Room) (mc ms : Nat) (av : List Value) (v : Option Value) (σ σ' : ω) : Prop :=
  ∀ sz, Met l y wy rm (va_Pc av (Pre D cy ws ad σ sz)) (QR D ws (wA ad sz) v σ') mc ms (wA ad sz)
theorem Pre.blind {ω : Type} {D : va_G} {cy : Nat → ClassId} {ws : ω → va_W} {ad : List Nat} {σ : ω} {sz : Nat} {av : List Value} : FrameBlind (va_Pc av (Pre D cy ws ad σ sz)) := fun a U g mk q => by
  obtain ⟨q0, q1, qP, qK⟩ := q
  exact ⟨q0, q1, qP, KX.same (u := U) (U := U.calling g mk a) rfl qK⟩
/-- what stays as it is while a body runs -/
def EV {ω : Type} (p : Program) (s : State) (m : MethodId) (args : Array Value) (meth : Method) (c : Code) (cc : ByteArray) (nL : Nat) (own : String) (Ts : List Cond) (ret : Option FieldType) (D : va_G) (cy : Nat → ClassId) (ws : ω → va_W) (ad : List Nat) : Prop :=
  p.tables.exec = Jvm.exec ∧ c.code = cc ∧ c.maxLocals = nL ∧ s.vm.findClass own = some m.cls ∧ (∀ w ∈ Ts, w.before args s = true) ∧ meth.sig.returnType = ret ∧ meth.locks = false ∧ KX D cy (wA ad s.heap.size) s s.heap ∧ WF ws ad
def G {ω ρ : Type} (p : Program) (l : Launch) (e : Env) (R : Room) (s : State) (m : MethodId) (args : Array Value) (below : List Frame) (meth : Method) (c : Code) (nL cells slots : Nat) (D : va_G) (ws : ω → va_W) (ad : List Nat) (Q : ρ → State → Prop) (pc : Nat) (lv : List (Nat × Value)) (st : List Value) (σ : ω) (k : Option ρ) : Prop :=
  ∀ r, k = some r → ∀ (H : Heap) (locs : List Loc) (ls : Array Slot), lv_has ls nL lv → va_P D vwCl (ws σ) H → va_S (wA ad s.heap.size) s.heap H locs → W p l e R s m args below meth c H locs cells slots (Q r) (F0 m pc ls st)
section GG
variable {ω ρ : Type} {p : Program} {l : Launch} {e : Env} {R : Room} {s : State} {m : MethodId} {args : Array Value} {below : List Frame} {meth : Method} {c : Code} {cc : ByteArray} {nL cells slots : Nat} {own : String} {Ts : List Cond} {ret : Option FieldType} {D : va_G} {cy : Nat → ClassId} {ws : ω → va_W} {ad : List Nat} {Q : ρ → State → Prop} {pc : Nat} {lv : List (Nat × Value)} {st : List Value} {σ : ω} {k : Option ρ}
theorem G.no : G p l e R s m args below meth c nL cells slots D ws ad Q pc lv st σ (none : Option ρ) := fun _ h => nomatch h
theorem G.loc {lv' : List (Nat × Value)} (ks : List Nat) (hl : lv_pick lv ks = lv') (kk : G p l e R s m args below meth c nL cells slots D ws ad Q pc lv' st σ k) : G p l e R s m args below meth c nL cells slots D ws ad Q pc lv st σ k :=
  fun r hr H locs ls h hP hS => kk r hr H locs ls (lv_sub h ks hl) hP hS
theorem G.iconst {n : Int} {v : Int32} (E : EV p s m args meth c cc nL own Ts ret D cy ws ad) (hdg : decode cc pc = .ok (.iconst n, 1)) (hv : Int32.ofInt n = v) (kk : G p l e R s m args below meth c nL cells slots D ws ad Q (pc + 1) lv (.int v :: st) σ k) : G p l e R s m args below meth c nL cells slots D ws ad Q pc lv st σ k :=
  fun r hr H locs ls h hP hS => lv_iconst E.1 E.2.1 hdg hv (kk r hr H locs ls h hP hS)
theorem G.bipush {n : Int} {v : Int32} (E : EV p s m args meth c cc nL own Ts ret D cy ws ad) (hdg : decode cc pc = .ok (.bipush n, 2)) (hv : (Int8.ofInt n).toInt32 = v) (kk : G p l e R s m args below meth c nL cells slots D ws ad Q (pc + 2) lv (.int v :: st) σ k) : G p l e R s m args below meth c nL cells slots D ws ad Q pc lv st σ k :=
  fun r hr H locs ls h hP hS => lv_bipush E.1 E.2.1 hdg hv (kk r hr H locs ls h hP hS)
theorem G.sipush {n : Int} {v : Int32} (E : EV p s m args meth c cc nL own Ts ret D cy ws ad) (hdg : decode cc pc = .ok (.sipush n, 3)) (hv : (Int16.ofInt n).toInt32 = v) (kk : G p l e R s m args below meth c nL cells slots D ws ad Q (pc + 3) lv (.int v :: st) σ k) : G p l e R s m args below meth c nL cells slots D ws ad Q pc lv st σ k :=
  fun r hr H locs ls h hP hS => lv_sipush E.1 E.2.1 hdg hv (kk r hr H locs ls h hP hS)
theorem G.ldc {index : Nat} {v : Int32} (E : EV p s m args meth c cc nL own Ts ret D cy ws ad) (hdg : decode cc pc = .ok (.ldc index, 2)) (hc : (Jvm.Cond.constant own index v) ∈ Ts) (kk : G p l e R s m args below meth c nL cells slots D ws ad Q (pc + 2) lv (.int v :: st) σ k) : G p l e R s m args below meth c nL cells slots D ws ad Q pc lv st σ k :=
  fun r hr H locs ls h hP hS => lv_ldc E.1 E.2.1 E.2.2.2.1 (E.2.2.2.2.1 _ hc) hdg (kk r hr H locs ls h hP hS)
theorem G.ldcw {index : Nat} {v : Int32} (E : EV p s m args meth c cc nL own Ts ret D cy ws ad) (hdg : decode cc pc = .ok (.ldc_w index, 3)) (hc : (Jvm.Cond.constant own index v) ∈ Ts) (kk : G p l e R s m args below meth c nL cells slots D ws ad Q (pc + 3) lv (.int v :: st) σ k) : G p l e R s m args below meth c nL cells slots D ws ad Q pc lv st σ k :=
  fun r hr H locs ls h hP hS => lv_ldcw E.1 E.2.1 E.2.2.2.1 (E.2.2.2.2.1 _ hc) hdg (kk r hr H locs ls h hP hS)
theorem G.lconst {n : Fin 2} {v : Int64} (E : EV p s m args meth c cc nL own Ts ret D cy ws ad) (hdg : decode cc pc = .ok (.lconst n, 1)) (hv : Int64.ofNat (n : Nat) = v) (kk : G p l e R s m args below meth c nL cells slots D ws ad Q (pc + 1) lv (.long v :: st) σ k) : G p l e R s m args below meth c nL cells slots D ws ad Q pc lv st σ k :=
  fun r hr H locs ls h hP hS => lv_lconst E.1 E.2.1 hdg hv (kk r hr H locs ls h hP hS)
theorem G.iload_n {j : Fin 4} {i : Nat} {x : Int32} (E : EV p s m args meth c cc nL own Ts ret D cy ws ad) (hdg : decode cc pc = .ok (.iload_n j, 1)) (q : Nat) (hi : (j : Nat) = i) (hl : lv[q]? = some (i, .int x)) (kk : G p l e R s m args below meth c nL cells slots D ws ad Q (pc + 1) lv (.int x :: st) σ k) : G p l e R s m args below meth c nL cells slots D ws ad Q pc lv st σ k :=
  fun r hr H locs ls h hP hS => lv_iload_n E.1 E.2.1 hdg hi (lv_at h q hl) (kk r hr H locs ls h hP hS)
theorem G.iload {i : Nat} {x : Int32} (E : EV p s m args meth c cc nL own Ts ret D cy ws ad) (hdg : decode cc pc = .ok (.iload i, 2)) (q : Nat) (hl : lv[q]? = some (i, .int x)) (kk : G p l e R s m args below meth c nL cells slots D ws ad Q (pc + 2) lv (.int x :: st) σ k) : G p l e R s m args below meth c nL cells slots D ws ad Q pc lv st σ k :=
  fun r hr H locs ls h hP hS => lv_iload E.1 E.2.1 hdg (lv_at h q hl) (kk r hr H locs ls h hP hS)
theorem G.lload_n {j : Fin 4} {i : Nat} {x : Int64} (E : EV p s m args meth c cc nL own Ts ret D cy ws ad) (hdg : decode cc pc = .ok (.lload_n j, 1)) (q : Nat) (hi : (j : Nat) = i) (hl : lv[q]? = some (i, .long x)) (kk : G p l e R s m args below meth c nL cells slots D ws ad Q (pc + 1) lv (.long x :: st) σ k) : G p l e R s m args below meth c nL cells slots D ws ad Q pc lv st σ k :=
  fun r hr H locs ls h hP hS => lv_lload_n E.1 E.2.1 hdg hi (lv_at h q hl) (kk r hr H locs ls h hP hS)
theorem G.lload {i : Nat} {x : Int64} (E : EV p s m args meth c cc nL own Ts ret D cy ws ad) (hdg : decode cc pc = .ok (.lload i, 2)) (q : Nat) (hl : lv[q]? = some (i, .long x)) (kk : G p l e R s m args below meth c nL cells slots D ws ad Q (pc + 2) lv (.long x :: st) σ k) : G p l e R s m args below meth c nL cells slots D ws ad Q pc lv st σ k :=
  fun r hr H locs ls h hP hS => lv_lload E.1 E.2.1 hdg (lv_at h q hl) (kk r hr H locs ls h hP hS)
theorem G.aload_n {j : Fin 4} {i : Nat} {x : Nat} (E : EV p s m args meth c cc nL own Ts ret D cy ws ad) (hdg : decode cc pc = .ok (.aload_n j, 1)) (q : Nat) (hi : (j : Nat) = i) (hl : lv[q]? = some (i, .ref x)) (kk : G p l e R s m args below meth c nL cells slots D ws ad Q (pc + 1) lv (.ref x :: st) σ k) : G p l e R s m args below meth c nL cells slots D ws ad Q pc lv st σ k :=
  fun r hr H locs ls h hP hS => lv_aload_n E.1 E.2.1 hdg hi (lv_at h q hl) (kk r hr H locs ls h hP hS)
theorem G.aload {i : Nat} {x : Nat} (E : EV p s m args meth c cc nL own Ts ret D cy ws ad) (hdg : decode cc pc = .ok (.aload i, 2)) (q : Nat) (hl : lv[q]? = some (i, .ref x)) (kk : G p l e R s m args below meth c nL cells slots D ws ad Q (pc + 2) lv (.ref x :: st) σ k) : G p l e R s m args below meth c nL cells slots D ws ad Q pc lv st σ k :=
  fun r hr H locs ls h hP hS => lv_aload E.1 E.2.1 hdg (lv_at h q hl) (kk r hr H locs ls h hP hS)
theorem G.istore_n {j : Fin 4} {i : Nat} {x : Int32} {lv' : List (Nat × Value)} (E : EV p s m args meth c cc nL own Ts ret D cy ws ad) (hdg : decode cc pc = .ok (.istore_n j, 1)) (hi : (j : Nat) = i) (hn : i < nL) (hl : (i, Value.int x) :: lv.filter (fun q => !(q.1 == i) && !(q.1 + 1 == i && q.2.category == 2)) = lv') (kk : G p l e R s m args below meth c nL cells slots D ws ad Q (pc + 1) lv' st σ k) : G p l e R s m args below meth c nL cells slots D ws ad Q pc lv (.int x :: st) σ k :=
  fun r hr H locs ls h hP hS => lv_istore_n E.1 E.2.1 hdg hi h hn hl (fun ls h => kk r hr H locs ls h hP hS)
theorem G.istore {i : Nat} {x : Int32} {lv' : List (Nat × Value)} (E : EV p s m args meth c cc nL own Ts ret D cy ws ad) (hdg : decode cc pc = .ok (.istore i, 2)) (hn : i < nL) (hl : (i, Value.int x) :: lv.filter (fun q => !(q.1 == i) && !(q.1 + 1 == i && q.2.category == 2)) = lv') (kk : G p l e R s m args below meth c nL cells slots D ws ad Q (pc + 2) lv' st σ k) : G p l e R s m args below meth c nL cells slots D ws ad Q pc lv (.int x :: st) σ k :=
  fun r hr H locs ls h hP hS => lv_istore E.1 E.2.1 hdg h hn hl (fun ls h => kk r hr H locs ls h hP hS)
theorem G.lstore_n {j : Fin 4} {i : Nat} {x : Int64} {lv' : List (Nat × Value)} (E : EV p s m args meth c cc nL own Ts ret D cy ws ad) (hdg : decode cc pc = .ok (.lstore_n j, 1)) (hi : (j : Nat) = i) (hn : i + 1 < nL) (hl : (i, Value.long x) :: lv.filter (fun q => !(q.1 == i) && (!(q.1 == i + 1) && !(q.1 + 1 == i && q.2.category == 2))) = lv') (kk : G p l e R s m args below meth c nL cells slots D ws ad Q (pc + 1) lv' st σ k) : G p l e R s m args below meth c nL cells slots D ws ad Q pc lv (.long x :: st) σ k :=
  fun r hr H locs ls h hP hS => lv_lstore_n E.1 E.2.1 hdg hi h hn hl (fun ls h => kk r hr H locs ls h hP hS)
theorem G.lstore {i : Nat} {x : Int64} {lv' : List (Nat × Value)} (E : EV p s m args meth c cc nL own Ts ret D cy ws ad) (hdg : decode cc pc = .ok (.lstore i, 2)) (hn : i + 1 < nL) (hl : (i, Value.long x) :: lv.filter (fun q => !(q.1 == i) && (!(q.1 == i + 1) && !(q.1 + 1 == i && q.2.category == 2))) = lv') (kk : G p l e R s m args below meth c nL cells slots D ws ad Q (pc + 2) lv' st σ k) : G p l e R s m args below meth c nL cells slots D ws ad Q pc lv (.long x :: st) σ k :=
  fun r hr H locs ls h hP hS => lv_lstore E.1 E.2.1 hdg h hn hl (fun ls h => kk r hr H locs ls h hP hS)
theorem G.iinc {i : Nat} {n : Int} {x v : Int32} {lv' : List (Nat × Value)} (E : EV p s m args meth c cc nL own Ts ret D cy ws ad) (hdg : decode cc pc = .ok (.iinc i n, 3)) (q : Nat) (hk : lv[q]? = some (i, .int x)) (hv : x + Int32.ofInt n = v) (hn : i < nL) (hl : (i, Value.int v) :: lv.filter (fun q => !(q.1 == i) && !(q.1 + 1 == i && q.2.category == 2)) = lv') (kk : G p l e R s m args below meth c nL cells slots D ws ad Q (pc + 3) lv' st σ k) : G p l e R s m args below meth c nL cells slots D ws ad Q pc lv st σ k :=
  fun r hr H locs ls h hP hS => lv_iinc E.1 E.2.1 hdg h hk hv hn hl (fun ls h => kk r hr H locs ls h hP hS)
theorem G.iadd {x y : Int32} (E : EV p s m args meth c cc nL own Ts ret D cy ws ad) (hdg : decode cc pc = .ok (.iadd, 1)) (kk : G p l e R s m args below meth c nL cells slots D ws ad Q (pc + 1) lv (.int (x + y) :: st) σ (k)) : G p l e R s m args below meth c nL cells slots D ws ad Q (pc) lv (.int y :: .int x :: st) σ (k) :=
  fun r hr H locs ls h hP hS => lv_iadd E.1 E.2.1 hdg (kk r hr H locs ls h hP hS)
theorem G.isub {x y : Int32} (E : EV p s m args meth c cc nL own Ts ret D cy ws ad) (hdg : decode cc pc = .ok (.isub, 1)) (kk : G p l e R s m args below meth c nL cells slots D ws ad Q (pc + 1) lv (.int (x - y) :: st) σ (k)) : G p l e R s m args below meth c nL cells slots D ws ad Q (pc) lv (.int y :: .int x :: st) σ (k) :=
  fun r hr H locs ls h hP hS => lv_isub E.1 E.2.1 hdg (kk r hr H locs ls h hP hS)
theorem G.imul {x y : Int32} (E : EV p s m args meth c cc nL own Ts ret D cy ws ad) (hdg : decode cc pc = .ok (.imul, 1)) (kk : G p l e R s m args below meth c nL cells slots D ws ad Q (pc + 1) lv (.int (x * y) :: st) σ (k)) : G p l e R s m args below meth c nL cells slots D ws ad Q (pc) lv (.int y :: .int x :: st) σ (k) :=
  fun r hr H locs ls h hP hS => lv_imul E.1 E.2.1 hdg (kk r hr H locs ls h hP hS)
theorem G.iand {x y : Int32} (E : EV p s m args meth c cc nL own Ts ret D cy ws ad) (hdg : decode cc pc = .ok (.iand, 1)) (kk : G p l e R s m args below meth c nL cells slots D ws ad Q (pc + 1) lv (.int (x &&& y) :: st) σ (k)) : G p l e R s m args below meth c nL cells slots D ws ad Q (pc) lv (.int y :: .int x :: st) σ (k) :=
  fun r hr H locs ls h hP hS => lv_iand E.1 E.2.1 hdg (kk r hr H locs ls h hP hS)
theorem G.ior {x y : Int32} (E : EV p s m args meth c cc nL own Ts ret D cy ws ad) (hdg : decode cc pc = .ok (.ior, 1)) (kk : G p l e R s m args below meth c nL cells slots D ws ad Q (pc + 1) lv (.int (x ||| y) :: st) σ (k)) : G p l e R s m args below meth c nL cells slots D ws ad Q (pc) lv (.int y :: .int x :: st) σ (k) :=
  fun r hr H locs ls h hP hS => lv_ior E.1 E.2.1 hdg (kk r hr H locs ls h hP hS)
theorem G.ixor {x y : Int32} (E : EV p s m args meth c cc nL own Ts ret D cy ws ad) (hdg : decode cc pc = .ok (.ixor, 1)) (kk : G p l e R s m args below meth c nL cells slots D ws ad Q (pc + 1) lv (.int (x ^^^ y) :: st) σ (k)) : G p l e R s m args below meth c nL cells slots D ws ad Q (pc) lv (.int y :: .int x :: st) σ (k) :=
  fun r hr H locs ls h hP hS => lv_ixor E.1 E.2.1 hdg (kk r hr H locs ls h hP hS)
theorem G.ishl {x y : Int32} (E : EV p s m args meth c cc nL own Ts ret D cy ws ad) (hdg : decode cc pc = .ok (.ishl, 1)) (kk : G p l e R s m args below meth c nL cells slots D ws ad Q (pc + 1) lv (.int (x <<< (y &&& 31)) :: st) σ (k)) : G p l e R s m args below meth c nL cells slots D ws ad Q (pc) lv (.int y :: .int x :: st) σ (k) :=
  fun r hr H locs ls h hP hS => lv_ishl E.1 E.2.1 hdg (kk r hr H locs ls h hP hS)
theorem G.ishr {x y : Int32} (E : EV p s m args meth c cc nL own Ts ret D cy ws ad) (hdg : decode cc pc = .ok (.ishr, 1)) (kk : G p l e R s m args below meth c nL cells slots D ws ad Q (pc + 1) lv (.int (x >>> (y &&& 31)) :: st) σ (k)) : G p l e R s m args below meth c nL cells slots D ws ad Q (pc) lv (.int y :: .int x :: st) σ (k) :=
  fun r hr H locs ls h hP hS => lv_ishr E.1 E.2.1 hdg (kk r hr H locs ls h hP hS)
theorem G.ladd {x y : Int64} (E : EV p s m args meth c cc nL own Ts ret D cy ws ad) (hdg : decode cc pc = .ok (.ladd, 1)) (kk : G p l e R s m args below meth c nL cells slots D ws ad Q (pc + 1) lv (.long (x + y) :: st) σ (k)) : G p l e R s m args below meth c nL cells slots D ws ad Q (pc) lv (.long y :: .long x :: st) σ (k) :=
  fun r hr H locs ls h hP hS => lv_ladd E.1 E.2.1 hdg (kk r hr H locs ls h hP hS)
theorem G.lsub {x y : Int64} (E : EV p s m args meth c cc nL own Ts ret D cy ws ad) (hdg : decode cc pc = .ok (.lsub, 1)) (kk : G p l e R s m args below meth c nL cells slots D ws ad Q (pc + 1) lv (.long (x - y) :: st) σ (k)) : G p l e R s m args below meth c nL cells slots D ws ad Q (pc) lv (.long y :: .long x :: st) σ (k) :=
  fun r hr H locs ls h hP hS => lv_lsub E.1 E.2.1 hdg (kk r hr H locs ls h hP hS)
theorem G.lmul {x y : Int64} (E : EV p s m args meth c cc nL own Ts ret D cy ws ad) (hdg : decode cc pc = .ok (.lmul, 1)) (kk : G p l e R s m args below meth c nL cells slots D ws ad Q (pc + 1) lv (.long (x * y) :: st) σ (k)) : G p l e R s m args below meth c nL cells slots D ws ad Q (pc) lv (.long y :: .long x :: st) σ (k) :=
  fun r hr H locs ls h hP hS => lv_lmul E.1 E.2.1 hdg (kk r hr H locs ls h hP hS)
theorem G.lcmp {x y : Int64} (E : EV p s m args meth c cc nL own Ts ret D cy ws ad) (hdg : decode cc pc = .ok (.lcmp, 1)) (kk : G p l e R s m args below meth c nL cells slots D ws ad Q (pc + 1) lv (.int (lg_cmp x y) :: st) σ (k)) : G p l e R s m args below meth c nL cells slots D ws ad Q (pc) lv (.long y :: .long x :: st) σ (k) :=
  fun r hr H locs ls h hP hS => W.lcmp E.1 E.2.1 hdg (kk r hr H locs ls h hP hS)
theorem G.ineg {x : Int32} (E : EV p s m args meth c cc nL own Ts ret D cy ws ad) (hdg : decode cc pc = .ok (.ineg, 1)) (kk : G p l e R s m args below meth c nL cells slots D ws ad Q (pc + 1) lv (.int (-x) :: st) σ (k)) : G p l e R s m args below meth c nL cells slots D ws ad Q (pc) lv (.int x :: st) σ (k) :=
  fun r hr H locs ls h hP hS => lv_ineg E.1 E.2.1 hdg (kk r hr H locs ls h hP hS)
theorem G.lneg {x : Int64} (E : EV p s m args meth c cc nL own Ts ret D cy ws ad) (hdg : decode cc pc = .ok (.lneg, 1)) (kk : G p l e R s m args below meth c nL cells slots D ws ad Q (pc + 1) lv (.long (-x) :: st) σ (k)) : G p l e R s m args below meth c nL cells slots D ws ad Q (pc) lv (.long x :: st) σ (k) :=
  fun r hr H locs ls h hP hS => lv_lneg E.1 E.2.1 hdg (kk r hr H locs ls h hP hS)
theorem G.i2l {x : Int32} (E : EV p s m args meth c cc nL own Ts ret D cy ws ad) (hdg : decode cc pc = .ok (.i2l, 1)) (kk : G p l e R s m args below meth c nL cells slots D ws ad Q (pc + 1) lv (.long x.toInt64 :: st) σ (k)) : G p l e R s m args below meth c nL cells slots D ws ad Q (pc) lv (.int x :: st) σ (k) :=
  fun r hr H locs ls h hP hS => lv_i2l E.1 E.2.1 hdg rfl (kk r hr H locs ls h hP hS)
theorem G.iushr {x y : Int32} (E : EV p s m args meth c cc nL own Ts ret D cy ws ad) (hdg : decode cc pc = .ok (.iushr, 1)) (kk : G p l e R s m args below meth c nL cells slots D ws ad Q (pc + 1) lv (.int ((x.toUInt32 >>> (y.toUInt32 &&& Int32.toUInt32 31)).toInt32) :: st) σ (k)) : G p l e R s m args below meth c nL cells slots D ws ad Q (pc) lv (.int y :: .int x :: st) σ (k) :=
  fun r hr H locs ls h hP hS => lv_iushr E.1 E.2.1 hdg rfl (kk r hr H locs ls h hP hS)
theorem G.idiv {x y : Int32} {K : Int32 → Option ρ} (E : EV p s m args meth c cc nL own Ts ret D cy ws ad) (hdg : decode cc pc = .ok (.idiv, 1)) (kk : ∀ z : Int32, G p l e R s m args below meth c nL cells slots D ws ad Q (pc + 1) lv (.int z :: st) σ (K z)) : G p l e R s m args below meth c nL cells slots D ws ad Q (pc) lv (.int y :: .int x :: st) σ (dI x y K) := by
  intro r hr H locs ls h hP hS
  unfold dI at hr
  by_cases hy : y = 0
  · rw [if_pos hy] at hr; exact nomatch hr
  · rw [if_neg hy] at hr; exact lv_idiv E.1 E.2.1 hdg hy (kk _ r hr H locs ls h hP hS)
theorem G.irem {x y : Int32} {K : Int32 → Option ρ} (E : EV p s m args meth c cc nL own Ts ret D cy ws ad) (hdg : decode cc pc = .ok (.irem, 1)) (kk : ∀ z : Int32, G p l e R s m args below meth c nL cells slots D ws ad Q (pc + 1) lv (.int z :: st) σ (K z)) : G p l e R s m args below meth c nL cells slots D ws ad Q (pc) lv (.int y :: .int x :: st) σ (mI x y K) := by
  intro r hr H locs ls h hP hS
  unfold mI at hr
  by_cases hy : y = 0
  · rw [if_pos hy] at hr; exact nomatch hr
  · rw [if_neg hy] at hr; exact lv_irem E.1 E.2.1 hdg hy (kk _ r hr H locs ls h hP hS)
theorem G.ldiv {x y : Int64} {K : Int64 → Option ρ} (E : EV p s m args meth c cc nL own Ts ret D cy ws ad) (hdg : decode cc pc = .ok (.ldiv, 1)) (kk : ∀ z : Int64, G p l e R s m args below meth c nL cells slots D ws ad Q (pc + 1) lv (.long z :: st) σ (K z)) : G p l e R s m args below meth c nL cells slots D ws ad Q (pc) lv (.long y :: .long x :: st) σ (dL x y K) := by
  intro r hr H locs ls h hP hS
  unfold dL at hr
  by_cases hy : y = 0
  · rw [if_pos hy] at hr; exact nomatch hr
  · rw [if_neg hy] at hr; exact lv_ldiv E.1 E.2.1 hdg hy (kk _ r hr H locs ls h hP hS)
theorem G.lrem {x y : Int64} {K : Int64 → Option ρ} (E : EV p s m args meth c cc nL own Ts ret D cy ws ad) (hdg : decode cc pc = .ok (.lrem, 1)) (kk : ∀ z : Int64, G p l e R s m args below meth c nL cells slots D ws ad Q (pc + 1) lv (.long z :: st) σ (K z)) : G p l e R s m args below meth c nL cells slots D ws ad Q (pc) lv (.long y :: .long x :: st) σ (mL x y K) := by
  intro r hr H locs ls h hP hS
  unfold mL at hr
  by_cases hy : y = 0
  · rw [if_pos hy] at hr; exact nomatch hr
  · rw [if_neg hy] at hr; exact lv_lrem E.1 E.2.1 hdg hy (kk _ r hr H locs ls h hP hS)
theorem G.dup {v : Value} (E : EV p s m args meth c cc nL own Ts ret D cy ws ad) (hdg : decode cc pc = .ok (.dup, 1)) (hv : v.category = 1) (kk : G p l e R s m args below meth c nL cells slots D ws ad Q (pc + 1) lv (v :: v :: st) σ (k)) : G p l e R s m args below meth c nL cells slots D ws ad Q (pc) lv (v :: st) σ (k) :=
  fun r hr H locs ls h hP hS => lv_dup E.1 E.2.1 hdg hv (kk r hr H locs ls h hP hS)
theorem G.dup2 {v w : Value} (E : EV p s m args meth c cc nL own Ts ret D cy ws ad) (hdg : decode cc pc = .ok (.dup2, 1)) (hv : v.category = 1) (hw : w.category = 1) (kk : G p l e R s m args below meth c nL cells slots D ws ad Q (pc + 1) lv (v :: w :: v :: w :: st) σ (k)) : G p l e R s m args below meth c nL cells slots D ws ad Q (pc) lv (v :: w :: st) σ (k) :=
  fun r hr H locs ls h hP hS => lv_dup2_11 E.1 E.2.1 hdg hv hw (kk r hr H locs ls h hP hS)
theorem G.pop {v : Value} (E : EV p s m args meth c cc nL own Ts ret D cy ws ad) (hdg : decode cc pc = .ok (.pop, 1)) (hv : v.category = 1) (kk : G p l e R s m args below meth c nL cells slots D ws ad Q (pc + 1) lv (st) σ (k)) : G p l e R s m args below meth c nL cells slots D ws ad Q (pc) lv (v :: st) σ (k) :=
  fun r hr H locs ls h hP hS => lv_pop E.1 E.2.1 hdg hv (kk r hr H locs ls h hP hS)
theorem G.goto {off : Int} {tgt : Nat} (E : EV p s m args meth c cc nL own Ts ret D cy ws ad) (hdg : decode cc pc = .ok (.goto off, 3)) (ht : (pc : Int) + off = (tgt : Int)) (kk : G p l e R s m args below meth c nL cells slots D ws ad Q (tgt) lv (st) σ (k)) : G p l e R s m args below meth c nL cells slots D ws ad Q (pc) lv (st) σ (k) :=
  fun r hr H locs ls h hP hS => lv_goto E.1 E.2.1 hdg ht (kk r hr H locs ls h hP hS)
theorem G.if_eq {x : Int32} {off : Int} {tgt : Nat} {k1 k2 : Option ρ} (E : EV p s m args meth c cc nL own Ts ret D cy ws ad) (hdg : decode cc pc = .ok (.ifCond .eq off, 3)) (ht : (pc : Int) + off = (tgt : Int)) (kt : G p l e R s m args below meth c nL cells slots D ws ad Q (tgt) lv (st) σ (k1)) (kf : G p l e R s m args below meth c nL cells slots D ws ad Q (pc + 3) lv (st) σ (k2)) : G p l e R s m args below meth c nL cells slots D ws ad Q (pc) lv (.int x :: st) σ (if x = 0 then k1 else k2) := by
  intro r hr H locs ls h hP hS
  refine lv_if_eq E.1 E.2.1 hdg ht (fun q => kt r (by rw [if_pos q] at hr; exact hr) H locs ls h hP hS) (fun q => kf r (by rw [if_neg q] at hr; exact hr) H locs ls h hP hS)
theorem G.if_ne {x : Int32} {off : Int} {tgt : Nat} {k1 k2 : Option ρ} (E : EV p s m args meth c cc nL own Ts ret D cy ws ad) (hdg : decode cc pc = .ok (.ifCond .ne off, 3)) (ht : (pc : Int) + off = (tgt : Int)) (kf : G p l e R s m args below meth c nL cells slots D ws ad Q (pc + 3) lv (st) σ (k1)) (kt : G p l e R s m args below meth c nL cells slots D ws ad Q (tgt) lv (st) σ (k2)) : G p l e R s m args below meth c nL cells slots D ws ad Q (pc) lv (.int x :: st) σ (if x = 0 then k1 else k2) := by
  intro r hr H locs ls h hP hS
  refine lv_if_ne E.1 E.2.1 hdg ht (fun q => kt r (by rw [if_neg q] at hr; exact hr) H locs ls h hP hS) (fun q => kf r (by rw [if_pos q] at hr; exact hr) H locs ls h hP hS)
theorem G.if_lt {x : Int32} {off : Int} {tgt : Nat} {k1 k2 : Option ρ} (E : EV p s m args meth c cc nL own Ts ret D cy ws ad) (hdg : decode cc pc = .ok (.ifCond .lt off, 3)) (ht : (pc : Int) + off = (tgt : Int)) (kt : G p l e R s m args below meth c nL cells slots D ws ad Q (tgt) lv (st) σ (k1)) (kf : G p l e R s m args below meth c nL cells slots D ws ad Q (pc + 3) lv (st) σ (k2)) : G p l e R s m args below meth c nL cells slots D ws ad Q (pc) lv (.int x :: st) σ (if x < 0 then k1 else k2) := by
  intro r hr H locs ls h hP hS
  refine lv_if_lt E.1 E.2.1 hdg ht (fun q => kt r (by rw [if_pos q] at hr; exact hr) H locs ls h hP hS) (fun q => kf r (by rw [if_neg q] at hr; exact hr) H locs ls h hP hS)
theorem G.if_ge {x : Int32} {off : Int} {tgt : Nat} {k1 k2 : Option ρ} (E : EV p s m args meth c cc nL own Ts ret D cy ws ad) (hdg : decode cc pc = .ok (.ifCond .ge off, 3)) (ht : (pc : Int) + off = (tgt : Int)) (kt : G p l e R s m args below meth c nL cells slots D ws ad Q (tgt) lv (st) σ (k1)) (kf : G p l e R s m args below meth c nL cells slots D ws ad Q (pc + 3) lv (st) σ (k2)) : G p l e R s m args below meth c nL cells slots D ws ad Q (pc) lv (.int x :: st) σ (if 0 ≤ x then k1 else k2) := by
  intro r hr H locs ls h hP hS
  refine lv_if_ge E.1 E.2.1 hdg ht (fun q => kt r (by rw [if_pos q] at hr; exact hr) H locs ls h hP hS) (fun q => kf r (by rw [if_neg q] at hr; exact hr) H locs ls h hP hS)
theorem G.if_gt {x : Int32} {off : Int} {tgt : Nat} {k1 k2 : Option ρ} (E : EV p s m args meth c cc nL own Ts ret D cy ws ad) (hdg : decode cc pc = .ok (.ifCond .gt off, 3)) (ht : (pc : Int) + off = (tgt : Int)) (kt : G p l e R s m args below meth c nL cells slots D ws ad Q (tgt) lv (st) σ (k1)) (kf : G p l e R s m args below meth c nL cells slots D ws ad Q (pc + 3) lv (st) σ (k2)) : G p l e R s m args below meth c nL cells slots D ws ad Q (pc) lv (.int x :: st) σ (if 0 < x then k1 else k2) := by
  intro r hr H locs ls h hP hS
  refine lv_if_gt E.1 E.2.1 hdg ht (fun q => kt r (by rw [if_pos q] at hr; exact hr) H locs ls h hP hS) (fun q => kf r (by rw [if_neg q] at hr; exact hr) H locs ls h hP hS)
theorem G.if_le {x : Int32} {off : Int} {tgt : Nat} {k1 k2 : Option ρ} (E : EV p s m args meth c cc nL own Ts ret D cy ws ad) (hdg : decode cc pc = .ok (.ifCond .le off, 3)) (ht : (pc : Int) + off = (tgt : Int)) (kt : G p l e R s m args below meth c nL cells slots D ws ad Q (tgt) lv (st) σ (k1)) (kf : G p l e R s m args below meth c nL cells slots D ws ad Q (pc + 3) lv (st) σ (k2)) : G p l e R s m args below meth c nL cells slots D ws ad Q (pc) lv (.int x :: st) σ (if x ≤ 0 then k1 else k2) := by
  intro r hr H locs ls h hP hS
  refine lv_if_le E.1 E.2.1 hdg ht (fun q => kt r (by rw [if_pos q] at hr; exact hr) H locs ls h hP hS) (fun q => kf r (by rw [if_neg q] at hr; exact hr) H locs ls h hP hS)
theorem G.icmp_eq {x y : Int32} {off : Int} {tgt : Nat} {k1 k2 : Option ρ} (E : EV p s m args meth c cc nL own Ts ret D cy ws ad) (hdg : decode cc pc = .ok (.if_icmp .eq off, 3)) (ht : (pc : Int) + off = (tgt : Int)) (kt : G p l e R s m args below meth c nL cells slots D ws ad Q (tgt) lv (st) σ (k1)) (kf : G p l e R s m args below meth c nL cells slots D ws ad Q (pc + 3) lv (st) σ (k2)) : G p l e R s m args below meth c nL cells slots D ws ad Q (pc) lv (.int y :: .int x :: st) σ (if x = y then k1 else k2) := by
  intro r hr H locs ls h hP hS
  refine lv_icmp_eq E.1 E.2.1 hdg ht (fun q => kt r (by rw [if_pos q] at hr; exact hr) H locs ls h hP hS) (fun q => kf r (by rw [if_neg q] at hr; exact hr) H locs ls h hP hS)
theorem G.icmp_ne {x y : Int32} {off : Int} {tgt : Nat} {k1 k2 : Option ρ} (E : EV p s m args meth c cc nL own Ts ret D cy ws ad) (hdg : decode cc pc = .ok (.if_icmp .ne off, 3)) (ht : (pc : Int) + off = (tgt : Int)) (kf : G p l e R s m args below meth c nL cells slots D ws ad Q (pc + 3) lv (st) σ (k1)) (kt : G p l e R s m args below meth c nL cells slots D ws ad Q (tgt) lv (st) σ (k2)) : G p l e R s m args below meth c nL cells slots D ws ad Q (pc) lv (.int y :: .int x :: st) σ (if x = y then k1 else k2) := by
  intro r hr H locs ls h hP hS
  refine lv_icmp_ne E.1 E.2.1 hdg ht (fun q => kt r (by rw [if_neg q] at hr; exact hr) H locs ls h hP hS) (fun q => kf r (by rw [if_pos q] at hr; exact hr) H locs ls h hP hS)
theorem G.icmp_lt {x y : Int32} {off : Int} {tgt : Nat} {k1 k2 : Option ρ} (E : EV p s m args meth c cc nL own Ts ret D cy ws ad) (hdg : decode cc pc = .ok (.if_icmp .lt off, 3)) (ht : (pc : Int) + off = (tgt : Int)) (kt : G p l e R s m args below meth c nL cells slots D ws ad Q (tgt) lv (st) σ (k1)) (kf : G p l e R s m args below meth c nL cells slots D ws ad Q (pc + 3) lv (st) σ (k2)) : G p l e R s m args below meth c nL cells slots D ws ad Q (pc) lv (.int y :: .int x :: st) σ (if x < y then k1 else k2) := by
  intro r hr H locs ls h hP hS
  refine lv_icmp_lt E.1 E.2.1 hdg ht (fun q => kt r (by rw [if_pos q] at hr; exact hr) H locs ls h hP hS) (fun q => kf r (by rw [if_neg q] at hr; exact hr) H locs ls h hP hS)
theorem G.icmp_ge {x y : Int32} {off : Int} {tgt : Nat} {k1 k2 : Option ρ} (E : EV p s m args meth c cc nL own Ts ret D cy ws ad) (hdg : decode cc pc = .ok (.if_icmp .ge off, 3)) (ht : (pc : Int) + off = (tgt : Int)) (kt : G p l e R s m args below meth c nL cells slots D ws ad Q (tgt) lv (st) σ (k1)) (kf : G p l e R s m args below meth c nL cells slots D ws ad Q (pc + 3) lv (st) σ (k2)) : G p l e R s m args below meth c nL cells slots D ws ad Q (pc) lv (.int y :: .int x :: st) σ (if y ≤ x then k1 else k2) := by
  intro r hr H locs ls h hP hS
  refine lv_icmp_ge E.1 E.2.1 hdg ht (fun q => kt r (by rw [if_pos q] at hr; exact hr) H locs ls h hP hS) (fun q => kf r (by rw [if_neg q] at hr; exact hr) H locs ls h hP hS)
theorem G.icmp_gt {x y : Int32} {off : Int} {tgt : Nat} {k1 k2 : Option ρ} (E : EV p s m args meth c cc nL own Ts ret D cy ws ad) (hdg : decode cc pc = .ok (.if_icmp .gt off, 3)) (ht : (pc : Int) + off = (tgt : Int)) (kt : G p l e R s m args below meth c nL cells slots D ws ad Q (tgt) lv (st) σ (k1)) (kf : G p l e R s m args below meth c nL cells slots D ws ad Q (pc + 3) lv (st) σ (k2)) : G p l e R s m args below meth c nL cells slots D ws ad Q (pc) lv (.int y :: .int x :: st) σ (if y < x then k1 else k2) := by
  intro r hr H locs ls h hP hS
  refine lv_icmp_gt E.1 E.2.1 hdg ht (fun q => kt r (by rw [if_pos q] at hr; exact hr) H locs ls h hP hS) (fun q => kf r (by rw [if_neg q] at hr; exact hr) H locs ls h hP hS)
theorem G.icmp_le {x y : Int32} {off : Int} {tgt : Nat} {k1 k2 : Option ρ} (E : EV p s m args meth c cc nL own Ts ret D cy ws ad) (hdg : decode cc pc = .ok (.if_icmp .le off, 3)) (ht : (pc : Int) + off = (tgt : Int)) (kt : G p l e R s m args below meth c nL cells slots D ws ad Q (tgt) lv (st) σ (k1)) (kf : G p l e R s m args below meth c nL cells slots D ws ad Q (pc + 3) lv (st) σ (k2)) : G p l e R s m args below meth c nL cells slots D ws ad Q (pc) lv (.int y :: .int x :: st) σ (if x ≤ y then k1 else k2) := by
  intro r hr H locs ls h hP hS
  refine lv_icmp_le E.1 E.2.1 hdg ht (fun q => kt r (by rw [if_pos q] at hr; exact hr) H locs ls h hP hS) (fun q => kf r (by rw [if_neg q] at hr; exact hr) H locs ls h hP hS)
theorem G.letI {v : Int32} {K : Int32 → Option ρ} (kk : ∀ z : Int32, G p l e R s m args below meth c nL cells slots D ws ad Q (pc) lv (.int z :: st) σ (K z)) : G p l e R s m args below meth c nL cells slots D ws ad Q (pc) lv (.int v :: st) σ (lI v K) := kk v
theorem G.letL {v : Int64} {K : Int64 → Option ρ} (kk : ∀ z : Int64, G p l e R s m args below meth c nL cells slots D ws ad Q (pc) lv (.long z :: st) σ (K z)) : G p l e R s m args below meth c nL cells slots D ws ad Q (pc) lv (.long v :: st) σ (lL v K) := kk v
end GG
section GW
variable {ρ : Type} {p : Program} {l : Launch} {e : Env} {R : Room} {s : State} {m : MethodId} {args : Array Value} {below : List Frame} {meth : Method} {c : Code} {cc : ByteArray} {nL cells slots : Nat} {own : String} {Ts : List Cond} {ret : Option FieldType} {D : va_G} {cy : Nat → ClassId} {ws : Wd → va_W} {ad : List Nat} {Q : ρ → State → Prop} {pc : Nat} {lv : List (Nat × Value)} {st : List Value} {σ : Wd} {k : Option ρ}
theorem G.getI {C : String} {T : u_T} {N ci index : Nat} {fs : List Value} {a : Nat} {q0 i : Nat} {K : Int32 → Option ρ} (E : EV p s m args meth c cc nL own Ts ret D cy ws ad) (hdg : decode cc pc = .ok (.getfield index, 3)) (hin : ∀ w ∈ u_ws C T N, w ∈ Ts) (he : (ws σ)[q0]? = some (a, .inr (ci, fs))) (hc : vwCl[ci]? = some (C, T, N)) (hk : i < N) (hv : fs[i]? = some (.int (σ.1 q0 i))) (hlink : (Cond.fieldLink own index (T i).1 (T i).2.1 (T i).2.2.1) ∈ Ts) (kk : ∀ z : Int32, G p l e R s m args below meth c nL cells slots D ws ad Q (pc + 3) lv (.int z :: st) σ (K z)) : G p l e R s m args below meth c nL cells slots D ws ad Q (pc) lv (.ref a :: st) σ (gI σ q0 i K) :=
  fun r hr H locs ls h hP hS => va_get (D := D) E.1 E.2.1 E.2.2.2.2.1 hin E.2.2.2.1 E.2.2.2.2.2.2.2.1.1 hP q0 he hc i hk (E.2.2.2.2.1 _ hlink) (fun _ h9 => h9) hv hdg (kk _ r hr H locs ls h hP hS)
theorem G.getR {C : String} {T : u_T} {N ci index : Nat} {fs : List Value} {a : Nat} {q0 i : Nat} {v : Value} (E : EV p s m args meth c cc nL own Ts ret D cy ws ad) (hdg : decode cc pc = .ok (.getfield index, 3)) (hin : ∀ w ∈ u_ws C T N, w ∈ Ts) (he : (ws σ)[q0]? = some (a, .inr (ci, fs))) (hc : vwCl[ci]? = some (C, T, N)) (hk : i < N) (hv : fs[i]? = some v) (hlink : (Cond.fieldLink own index (T i).1 (T i).2.1 (T i).2.2.1) ∈ Ts) (kk : G p l e R s m args below meth c nL cells slots D ws ad Q (pc + 3) lv (v :: st) σ (k)) : G p l e R s m args below meth c nL cells slots D ws ad Q (pc) lv (.ref a :: st) σ (k) :=
  fun r hr H locs ls h hP hS => va_get (D := D) E.1 E.2.1 E.2.2.2.2.1 hin E.2.2.2.1 E.2.2.2.2.2.2.2.1.1 hP q0 he hc i hk (E.2.2.2.2.1 _ hlink) (fun _ h9 => h9) hv hdg (kk r hr H locs ls h hP hS)
theorem G.putI {C : String} {T : u_T} {N ci index : Nat} {fs : List Value} {a : Nat} {q0 i : Nat} {v : Int32} {ty : FieldType} {K : Wd → Option ρ} (E : EV p s m args meth c cc nL own Ts ret D cy ws ad) (hdg : decode cc pc = .ok (.putfield index, 3)) (hin : ∀ w ∈ u_ws C T N, w ∈ Ts) (ty0 : Nat → FieldType) (hty : ∀ k, k < N → parseFieldDescriptor (T k).2.2.1 = some (ty0 k)) (hnm : ∀ a, a < N → ∀ b, b < N → a ≠ b → (T a).2.1 ≠ (T b).2.1) (he : (ws σ)[q0]? = some (a, .inr (ci, fs))) (hc : vwCl[ci]? = some (C, T, N)) (hk : i < N) (hlink : (Cond.fieldLink own index (T i).1 (T i).2.1 (T i).2.2.1) ∈ Ts) (hfin : (T i).2.2.2 = false) (hd : parseFieldDescriptor (T i).2.2.1 = some ty) (hn : narrow ty (.int v) = .int v) (hfit : fits ty (.int v) = true) (hl : i < fs.length) (hs : (ws σ).set q0 (a, .inr (ci, fs.set i (.int v))) = ws (sI σ q0 i v)) (kk : ∀ σ' : Wd, G p l e R s m args below meth c nL cells slots D ws ad Q (pc + 3) lv (st) σ' (K σ')) : G p l e R s m args below meth c nL cells slots D ws ad Q (pc) lv (.int v :: .ref a :: st) σ (wI σ q0 i v K) :=
  fun r hr H locs ls h hP hS => va_put (D := D) E.1 E.2.1 E.2.2.2.2.1 hin ty0 hty hnm E.2.2.2.1 E.2.2.2.2.2.2.2.1.1 hP (E.2.2.2.2.2.2.2.2.D _ σ) hS q0 he hc i hk (E.2.2.2.2.1 _ hlink) (fun _ h9 => h9) hfin hd hn hfit hl hdg (fun H1 locs1 hP1 _ hS1 => kk _ r hr H1 locs1 ls h (by rw [hs] at hP1; exact hP1) hS1)
theorem G.iald {q0 n a : Nat} {i : Int32} {K : Int32 → Option ρ} (E : EV p s m args meth c cc nL own Ts ret D cy ws ad) (hdg : decode cc pc = .ok (.iaload, 1)) (ha : (ws σ)[q0]? = some (a, .inl (cy 0, n, .inl (σ.1 q0)))) (kk : ∀ z : Int32, G p l e R s m args below meth c nL cells slots D ws ad Q (pc + 1) lv (.int z :: st) σ (K z)) : G p l e R s m args below meth c nL cells slots D ws ad Q (pc) lv (.int i :: .ref a :: st) σ (rI σ q0 n i K) := by
  intro r hr H locs ls h hP hS
  unfold rI at hr
  by_cases hy : inb i n = true
  · rw [if_pos hy] at hr; exact va_iald E.1 E.2.1 E.2.2.2.2.2.2.2.1.1 hP q0 0 ha rfl (inb_in hy) hdg (kk _ r hr H locs ls h hP hS)
  · rw [if_neg hy] at hr; exact nomatch hr
theorem G.lald {q0 n a : Nat} {i : Int32} {K : Int64 → Option ρ} (E : EV p s m args meth c cc nL own Ts ret D cy ws ad) (hdg : decode cc pc = .ok (.laload, 1)) (ha : (ws σ)[q0]? = some (a, .inl (cy 1, n, .inr (.inl (σ.2 q0))))) (kk : ∀ z : Int64, G p l e R s m args below meth c nL cells slots D ws ad Q (pc + 1) lv (.long z :: st) σ (K z)) : G p l e R s m args below meth c nL cells slots D ws ad Q (pc) lv (.int i :: .ref a :: st) σ (rL σ q0 n i K) := by
  intro r hr H locs ls h hP hS
  unfold rL at hr
  by_cases hy : inb i n = true
  · rw [if_pos hy] at hr; exact va_lald E.1 E.2.1 E.2.2.2.2.2.2.2.1.1 hP q0 1 ha rfl (inb_in hy) hdg (kk _ r hr H locs ls h hP hS)
  · rw [if_neg hy] at hr; exact nomatch hr
theorem G.iast {q0 n a : Nat} {i v : Int32} {K : Wd → Option ρ} (E : EV p s m args meth c cc nL own Ts ret D cy ws ad) (hdg : decode cc pc = .ok (.iastore, 1)) (ha : (ws σ)[q0]? = some (a, .inl (cy 0, n, .inl (σ.1 q0)))) (hs : ∀ j, (ws σ).set q0 (a, .inl (cy 0, n, .inl (upd (σ.1 q0) j v))) = ws (sI σ q0 j v)) (kk : ∀ σ' : Wd, G p l e R s m args below meth c nL cells slots D ws ad Q (pc + 1) lv (st) σ' (K σ')) : G p l e R s m args below meth c nL cells slots D ws ad Q (pc) lv (.int v :: .int i :: .ref a :: st) σ (aI σ q0 n i v K) := by
  intro r hr H locs ls h hP hS
  unfold aI at hr
  by_cases hy : inb i n = true
  · rw [if_pos hy] at hr; exact va_iast E.1 E.2.1 E.2.2.2.2.2.2.2.1.1 hP (E.2.2.2.2.2.2.2.2.D _ σ) hS q0 0 ha rfl (inb_in hy) hdg (fun H1 locs1 hP1 _ hS1 => kk _ r hr H1 locs1 ls h (by rw [hs] at hP1; exact hP1) hS1)
  · rw [if_neg hy] at hr; exact nomatch hr
theorem G.last {q0 n a : Nat} {i : Int32} {v : Int64} {K : Wd → Option ρ} (E : EV p s m args meth c cc nL own Ts ret D cy ws ad) (hdg : decode cc pc = .ok (.lastore, 1)) (ha : (ws σ)[q0]? = some (a, .inl (cy 1, n, .inr (.inl (σ.2 q0))))) (hs : ∀ j, (ws σ).set q0 (a, .inl (cy 1, n, .inr (.inl (vp_updL (σ.2 q0) j v)))) = ws (sL σ q0 j v)) (kk : ∀ σ' : Wd, G p l e R s m args below meth c nL cells slots D ws ad Q (pc + 1) lv (st) σ' (K σ')) : G p l e R s m args below meth c nL cells slots D ws ad Q (pc) lv (.long v :: .int i :: .ref a :: st) σ (aL σ q0 n i v K) := by
  intro r hr H locs ls h hP hS
  unfold aL at hr
  by_cases hy : inb i n = true
  · rw [if_pos hy] at hr; exact va_last E.1 E.2.1 E.2.2.2.2.2.2.2.1.1 hP (E.2.2.2.2.2.2.2.2.D _ σ) hS q0 1 ha rfl (inb_in hy) hdg (fun H1 locs1 hP1 _ hS1 => kk _ r hr H1 locs1 ls h (by rw [hs] at hP1; exact hP1) hS1)
  · rw [if_neg hy] at hr; exact nomatch hr
theorem G.aald {q0 n a qr t0 : Nat} {cA : ClassId} {ty : FieldType} {h0 : Nat → Nat} {i : Int32} {K : Nat → Option ρ} (E : EV p s m args meth c cc nL own Ts ret D cy ws ad) (hdg : decode cc pc = .ok (.aaload, 1)) (ha : (ws σ)[q0]? = some (a, .inl (cA, n, .inr (.inr (.inr (.inr (fun j => if j < n then some (h0 (qr + j)) else none))))))) (ht : (tyL cy)[t0]? = some (cA, ty)) (hty : ty.isReference = true) (kk : ∀ z : Nat, z < n → G p l e R s m args below meth c nL cells slots D ws ad Q (pc + 1) lv (.ref (h0 (qr + z)) :: st) σ (K (qr + z))) : G p l e R s m args below meth c nL cells slots D ws ad Q (pc) lv (.int i :: .ref a :: st) σ (rR qr n i K) := by
  intro r hr H locs ls h hP hS
  unfold rR at hr
  by_cases hy : inb i n = true
  · rw [if_pos hy] at hr
    have hlt := inb_lt hy
    have hin := inb_in hy
    refine W.aald (v := .ref (h0 (qr + i.toNatClampNeg))) (ty := ty) E.1 E.2.1 (hP q0 _ ha) ((E.2.2.2.2.2.2.2.1.1.2 t0 _ ht).1 n (fun j => va_rf (if j < n then some (h0 (qr + j)) else none))) hty (fun q => by cases q) (by show ¬ (i < 0 ∨ (arrV _ _ _).slots.size ≤ _); rw [arrV_size]; exact hin) ?_ rfl rfl hdg (kk _ hlt r hr H locs ls h hP hS)
    show (arrV _ _ _).slots[_]? = _
    rw [arrV_read _ _ hlt]
    simp [va_rf, hlt]
  · rw [if_neg hy] at hr; exact nomatch hr
theorem G.alen {q0 t0 a : Nat} {cA : ClassId} {x : vp_A} {ty : FieldType} {v : Int32} (E : EV p s m args meth c cc nL own Ts ret D cy ws ad) (hdg : decode cc pc = .ok (.arraylength, 1)) (ha : (ws σ)[q0]? = some (a, .inl (cA, x))) (ht : (tyL cy)[t0]? = some (cA, ty)) (hv : Int32.ofNat x.1 = v) (kk : G p l e R s m args below meth c nL cells slots D ws ad Q (pc + 1) lv (.int v :: st) σ (k)) : G p l e R s m args below meth c nL cells slots D ws ad Q (pc) lv (.ref a :: st) σ (k) :=
  fun r hr H locs ls h hP hS => va_alen E.1 E.2.1 E.2.2.2.2.2.2.2.1.1 hP q0 t0 ha ht hv hdg (kk r hr H locs ls h hP hS)
end GW
