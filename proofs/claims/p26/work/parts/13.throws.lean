/-! METHODS THAT RETURN OR THROW: an outcome is .inl (which exception) or .inr (what comes back) -/
def exN : Nat → String
  | 1 => "java/lang/IndexOutOfBoundsException"
  | 2 => "java/lang/IllegalArgumentException"
  | _ => "java/lang/IllegalStateException"
/-- a callee's answer taken on, its throw handed on -/
def bX {α β ω : Type} (f : Option ((Nat ⊕ α) × ω)) (K : α → ω → Option ((Nat ⊕ β) × ω)) : Option ((Nat ⊕ β) × ω) := match f with
  | some (.inr a, s) => K a s
  | some (.inl q, s) => some (.inl q, s)
  | none => none
theorem bX_some {α β ω : Type} {f : Option ((Nat ⊕ α) × ω)} {K : α → ω → Option ((Nat ⊕ β) × ω)} {r : (Nat ⊕ β) × ω} (h : bX f K = some r) : (∃ a s, f = some (.inr a, s) ∧ K a s = some r) ∨ ∃ q s, f = some (.inl q, s) ∧ r = (.inl q, s) := by
  match f, h with
  | some (.inr a, s), h => exact Or.inl ⟨a, s, rfl, h⟩
  | some (.inl q, s), h => exact Or.inr ⟨q, s, rfl, (Option.some.inj h).symm⟩
  | none, h => exact nomatch h
def ooI {ω : Type} (r : (Nat ⊕ Int32) × ω) : Nat ⊕ Option Value := match r.1 with
  | .inl q => .inl q
  | .inr v => .inr (some (.int v))
def ooL {ω : Type} (r : (Nat ⊕ Int64) × ω) : Nat ⊕ Option Value := match r.1 with
  | .inl q => .inl q
  | .inr v => .inr (some (.long v))
def ooV {ω : Type} (r : (Nat ⊕ Unit) × ω) : Nat ⊕ Option Value := match r.1 with
  | .inl q => .inl q
  | .inr _ => .inr none
/-- a contract of a method that returns or throws -/
def QcX {ω : Type} (D : va_G) (ws : ω → va_W) (A : Nat → Prop) (o : Nat ⊕ Option Value) (σ : ω) : Array Value → State → Outcome → State → Prop := fun a st oc t => ∃ v, o = .inr v ∧ QR D ws A v σ a st oc t
def XcX {ω : Type} (D : va_G) (ws : ω → va_W) (A : Nat → Prop) (o : Nat ⊕ Option Value) (σ : ω) : String → State → State → Prop := fun E st t => ((∃ q, o = .inl q ∧ E = exN q) ∧ va_P D vwCl (ws σ) t.heap) ∧ va_F A st t
def ConX {ω : Type} (l : Launch) (D : va_G) (cy : Nat → ClassId) (ws : ω → va_W) (ad : List Nat) (y : MethodName) (wy : List Cond) (rm : Room) (mc ms : Nat) (av : List Value) (o : Nat ⊕ Option Value) (σ σ' : ω) : Prop :=
  ∀ sz, vx_Met l y wy rm (va_Pc av (Pre D cy ws ad σ sz)) (QcX D ws (wA ad sz) o σ') (XcX D ws (wA ad sz) o σ') mc ms (wA ad sz)
def QX {ω ρ : Type} (D : va_G) (ws : ω → va_W) (ad : List Nat) (below : List Frame) (args : Array Value) (s : State) (mc ms : Nat) (oo : ρ → Nat ⊕ Option Value) (so : ρ → ω) : ρ → State → Prop := fun r => vx_MQ below (QcX D ws (wA ad s.heap.size) (oo r) (so r)) (XcX D ws (wA ad s.heap.size) (oo r) (so r)) args s mc ms (wA ad s.heap.size)
/-- what a body that may throw knows beside: no stack traces, no handlers -/
def EX (l : Launch) (c : Code) : Prop := l.stackTraces = false ∧ ∀ x ∈ c.exceptionTable.toList, False
section GX
variable {ω ρ : Type} {p : Program} {l : Launch} {e : Env} {R : Room} {s : State} {m : MethodId} {args : Array Value} {below : List Frame} {meth : Method} {c : Code} {cc : ByteArray} {nL cells slots mc ms : Nat} {own : String} {Ts : List Cond} {ret : Option FieldType} {D : va_G} {cy : Nat → ClassId} {ws : ω → va_W} {ad : List Nat} {oo : ρ → Nat ⊕ Option Value} {so : ρ → ω} {pc : Nat} {lv : List (Nat × Value)} {st : List Value} {σ : ω} {k : Option ρ}
theorem G.x_iret {r0 : ρ} {v : Int32} (E : EV p s m args meth c cc nL own Ts ret D cy ws ad) (hdg : decode cc pc = .ok (.ireturn, 1)) (hrt : ret = some .int) (h1 : cells ≤ mc) (h2 : slots ≤ ms) (ho : oo r0 = .inr (some (.int v))) (hs : so r0 = σ) : G p l e R s m args below meth c nL cells slots D ws ad (QX D ws ad below args s mc ms oo so) (pc) lv (.int v :: []) σ (some r0) := by
  intro r hr H locs ls h hP hS
  cases hr
  subst hs
  exact vx_ret (W.widen h1 h2 (W.iret E.1 E.2.1 (E.2.2.2.2.2.1.trans hrt) (fun t ht hW => ⟨_, ho, ⟨rfl, by rw [ht]; exact hP⟩, hS.F ht⟩) hS.2.2 hdg E.2.2.2.2.2.2.1))
theorem G.x_lret {r0 : ρ} {v : Int64} (E : EV p s m args meth c cc nL own Ts ret D cy ws ad) (hdg : decode cc pc = .ok (.lreturn, 1)) (hrt : ret = some .long) (h1 : cells ≤ mc) (h2 : slots ≤ ms) (ho : oo r0 = .inr (some (.long v))) (hs : so r0 = σ) : G p l e R s m args below meth c nL cells slots D ws ad (QX D ws ad below args s mc ms oo so) (pc) lv (.long v :: []) σ (some r0) := by
  intro r hr H locs ls h hP hS
  cases hr
  subst hs
  exact vx_ret (W.widen h1 h2 (W.lret E.1 E.2.1 (E.2.2.2.2.2.1.trans hrt) (fun t ht hW => ⟨_, ho, ⟨rfl, by rw [ht]; exact hP⟩, hS.F ht⟩) hS.2.2 hdg E.2.2.2.2.2.2.1))
theorem G.x_vret {r0 : ρ} (E : EV p s m args meth c cc nL own Ts ret D cy ws ad) (hdg : decode cc pc = .ok (.return_, 1)) (hrt : ret = none) (h1 : cells ≤ mc) (h2 : slots ≤ ms) (ho : oo r0 = .inr none) (hs : so r0 = σ) : G p l e R s m args below meth c nL cells slots D ws ad (QX D ws ad below args s mc ms oo so) (pc) lv ([]) σ (some r0) := by
  intro r hr H locs ls h hP hS
  cases hr
  subst hs
  exact vx_ret (W.widen h1 h2 (W.vret E.1 E.2.1 (E.2.2.2.2.2.1.trans hrt) (fun t ht hW => ⟨_, ho, ⟨rfl, by rw [ht]; exact hP⟩, hS.F ht⟩) hS.2.2 hdg E.2.2.2.2.2.2.1))
theorem G.throwS {r0 : ρ} {q : Nat} {cls text : String} {names : List String} {ik is ic : Nat} (E : EV p s m args meth c cc nL own Ts ret D cy ws ad) (EX0 : EX l c) (hcls : Bundle.fit cls = true) (hnames : ∀ n ∈ names, Bundle.fit n = true)
    (hk : Cond.classLink own ik cls ∈ Ts) (hini : Cond.initialized cls ∈ Ts) (hstr : (own, is, text) ∈ strW) (hat : ∀ w ∈ (vx_atS own ic cls names).filter goodWord, w ∈ Ts) (hbad : ∀ w ∈ (vx_atS own ic cls names).filter (fun w => !goodWord w), w ∈ nestW)
    (hgood : ∀ w ∈ Cond.classLink own ik cls :: Cond.initialized cls :: vx_atS own ic cls names, vx_ot w = true)
    (d0 : decode cc pc = .ok (.new ik, 3)) (d3 : decode cc (pc + 3) = .ok (.dup, 1)) (d4 : decode cc (pc + 4) = .ok (.ldc is, 2)) (d6 : decode cc (pc + 6) = .ok (.invokespecial ic, 3)) (d9 : decode cc (pc + 9) = .ok (.athrow, 1))
    (hR : names.length + 3 < R.frames ∧ (st.map fun v => v.category).sum + (13 * (names.length + 1) + 43) ≤ R.locals) (hf : cells + 1 ≤ R.cells ∧ slots + 6 ≤ R.slots)
    (hq : exN q = cls) (ho : oo r0 = .inl q) (hs : so r0 = σ) (h1 : cells + 1 ≤ mc) (h2 : slots + 6 ≤ ms) : G p l e R s m args below meth c nL cells slots D ws ad (QX D ws ad below args s mc ms oo so) (pc) lv (st) σ (some r0) := by
  intro r hr H locs ls h hP hS
  cases hr
  subst hs
  obtain ⟨sa, hsa⟩ := E.2.2.2.2.2.2.2.1.2.2.1 _ hstr
  refine vx_throwS E.1 E.2.1 EX0.1 E.2.2.2.1 hcls hnames (E.2.2.2.2.1 _ hk) (E.2.2.2.2.1 _ hini) hsa (vx_hat (fun w hw => E.2.2.2.2.1 _ (hat w hw)) hbad (fun w hw => va_Nw.use (nestW_tabs w hw) (E.2.2.2.2.2.2.2.1.2.1 w hw))) hgood E.2.2.2.2.2.2.2.1.2.2.2.1 E.2.2.2.2.2.2.2.1.2.2.2.2.1 hS (h.1.trans E.2.2.1.symm) d0 d3 d4 d6 d9 (fun x hx => (EX0.2 x hx).elim) hR.1 hR.2 hf.1 hf.2 E.2.2.2.2.2.2.1 (fun t hW hz hk => ?_) hS.2.2 h1 h2
  refine ⟨⟨⟨q, ho, hq.symm⟩, va_P.kept hP (fun k q hq => hk _ (hP k q hq).lt)⟩, Nat.le_trans hS.1 hz, fun a h1 h2 => ?_⟩
  rw [hk a (Nat.lt_of_lt_of_le h1 hS.1)]
  exact hS.2.1 a h1 h2
theorem G.xrun {H : Heap} {locs : List Loc} {ls : Array Slot} {st0 rest : List Value} {o : Nat ⊕ Option Value} {σ1 : ω} {a : Array Value} {mc1 ms1 : Nat} {Q1 : State → Prop}
    (hr : vx_Run p l e R s m args below meth c H locs cells slots mc1 ms1 (F0 m pc ls st0) rest (QcX D ws (wA ad H.size) o σ1 a) (XcX D ws (wA ad H.size) o σ1) (wA ad H.size)) (hS : va_S (wA ad s.heap.size) s.heap H locs)
    (kk : ∀ (v : Option Value) (H1 : Heap) (locs1 : List Loc), o = .inr v → va_P D vwCl (ws σ1) H1 → va_S (wA ad s.heap.size) s.heap H1 locs1 → W p l e R s m args below meth c H1 locs1 (cells + mc1) (slots + ms1) Q1 (F0 m (pc + 3) ls (v.toList ++ rest)))
    (kx : ∀ (q : Nat) (x : Addr) (ce : Cell) (H1 : Heap) (locs1 : List Loc), o = .inl q → H1[x]? = some ce → ce.vm = .none → s.vm.findClass (exN q) = some ce.cls → va_P D vwCl (ws σ1) H1 → va_S (wA ad s.heap.size) s.heap H1 locs1 → vx_W p l e R s m args below meth c H1 locs1 (cells + mc1) (slots + ms1) Q1 (F0 m pc ls rest) x) : W p l e R s m args below meth c H locs cells slots Q1 (F0 m pc ls st0) := by
  have hA : ∀ q, wA ad H.size q → wA ad s.heap.size q := fun q h => h.elim Or.inl (fun h => Or.inr (Nat.le_trans hS.1 h))
  intro T hT X
  rcases hr T hT X with ⟨v', st₀, t, T', L, h0, X', hL, e1, e2, ⟨v, ho, ⟨hv, hp⟩, hz, hk⟩, st'⟩ | ⟨x, st₀, t, T', L, E0, ce, h0, X', hL, e1, e2, ⟨⟨⟨q, ho, hE⟩, hp⟩, hz, hk⟩, hce, hcv, hcl, st'⟩
  · cases hv
    rw [h0] at hz hk
    obtain ⟨t2, a1, b1⟩ := kk v' T'.heap (locs ++ L) ho (by rw [e1]; exact hp)
      ⟨Nat.le_trans hS.1 (by rw [e1]; exact hz), fun q h1 h2 => by rw [e1, hk q (Nat.lt_of_lt_of_le h1 hS.1) (fun z => h2 (hA q z))]; exact hS.2.1 q h1 h2, fun q hq => by
        rcases List.mem_append.mp hq with h | h
        · exact hS.2.2 q h
        · exact hA _ (hL q h)⟩ T' rfl X'
    exact ⟨t2, st' t2 a1, b1⟩
  · subst hE
    rw [h0] at hz hk
    obtain ⟨t2, a1, b1⟩ := kx q x ce T'.heap (locs ++ L) ho (by rw [e1]; exact hce) hcv hcl (by rw [e1]; exact hp)
      ⟨Nat.le_trans hS.1 (by rw [e1]; exact hz), fun q h1 h2 => by rw [e1, hk q (Nat.lt_of_lt_of_le h1 hS.1) (fun z => h2 (hA q z))]; exact hS.2.1 q h1 h2, fun q hq => by
        rcases List.mem_append.mp hq with h | h
        · exact hS.2.2 q h
        · exact hA _ (hL q h)⟩ T' rfl X'
    exact ⟨t2, st'.trans a1, b1⟩
end GX
section GX2
variable {ω β : Type} {p : Program} {l : Launch} {e : Env} {R : Room} {s : State} {m : MethodId} {args : Array Value} {below : List Frame} {meth : Method} {c : Code} {cc : ByteArray} {nL cells slots mc ms : Nat} {own : String} {Ts : List Cond} {ret : Option FieldType} {D : va_G} {cy : Nat → ClassId} {ws : ω → va_W} {ad : List Nat} {oo : (Nat ⊕ β) × ω → Nat ⊕ Option Value} {pc : Nat} {lv : List (Nat × Value)} {st : List Value} {σ : ω} 
theorem G.callXi {y : MethodName} {C : String} {wy wy' : List Cond} {rm : Room} {mc1 ms1 index maxL n a ci q0 : Nat} {bytes : ByteArray} {rt : Option FieldType} {fs As : List Value} {T : u_T} {N : Nat} {f : Option ((Nat ⊕ Int32) × ω)} {K : Int32 → ω → Option ((Nat ⊕ β) × ω)} (E : EV p s m args meth c cc nL own Ts ret D cy ws ad) (EX0 : EX l c) (hdg : decode cc pc = .ok (.invokevirtual index, 3)) (hM : ∀ r, f = some r → ConX l D cy ws ad y wy rm mc1 ms1 (.ref a :: As) (ooI r) σ r.2) (hG : GoodIn Ts (wsV own index C y wy)) (hw : wy = Cond.code y bytes maxL rt :: wy') (hrc : rm.cells = mc1) (hrs : rm.slots = ms1) (hd : y.cls = C ∧ y.cls ≠ "java/lang/invoke/MethodHandle" ∧ y.cls ≠ "java/lang/invoke/VarHandle" ∧ (parseMethodDescriptor y.desc).map (fun d => d.parameters.length) = some n) (hR : rm.frames + 1 ≤ R.frames ∧ 8 + (maxL + 11) + rm.locals ≤ R.locals) (he : (ws σ)[q0]? = some (a, .inr (ci, fs))) (hc : vwCl[ci]? = some (C, T, N)) (hn : As.length = n) (hcat : (st.map fun v => v.category).sum ≤ 8) (hf : cells + mc1 ≤ R.cells ∧ slots + ms1 ≤ R.slots) (h1 : cells + mc1 ≤ mc) (h2 : slots + ms1 ≤ ms) (hoo : ∀ q s, oo (.inl q, s) = .inl q) (kk : ∀ (v : Int32) (σ1 : ω), G p l e R s m args below meth c nL (cells + mc1) (slots + ms1) D ws ad (QX D ws ad below args s mc ms oo (fun r => r.2)) (pc + 3) lv (.int v :: st) σ1 (K v σ1)) : G p l e R s m args below meth c nL cells slots D ws ad (QX D ws ad below args s mc ms oo (fun r => r.2)) (pc) lv (As.reverse ++ .ref a :: st) σ (bX f K) := by
  intro r hr H locs ls h hP hS
  obtain ⟨pb, pq⟩ := EV.pre (av := .ref a :: As) E hP hS
  have hM1 : ∀ r1, f = some r1 → vx_Run p l e R s m args below meth c H locs cells slots mc1 ms1 (F0 m pc ls (As.reverse ++ .ref a :: st)) st (QcX D ws (wA ad H.size) (ooI r1) r1.2 (Value.ref a :: As).toArray) (XcX D ws (wA ad H.size) (ooI r1) r1.2) (wA ad H.size) := fun r1 h1 =>
    vx_runV (As := As) (rest := st) ⟨E.1, E.2.1, E.2.2.1, E.2.2.2.1, E.2.2.2.2.1⟩ (hM r1 h1 H.size) (cwV n E.2.2.2.2.1 hG hw hrc hrs hd hR) ⟨pb, va_recv E.2.2.2.2.2.2.2.1.1 hP hc he, pq⟩ rfl hn h.1 rfl (lv_room hcat) hdg hf
  rcases bX_some hr with ⟨v, σ1, hf1, hk⟩ | ⟨q, σ1, hf1, rfl⟩
  · exact G.xrun (hM1 _ hf1) hS (fun v' H1 locs1 ho hP1 hS1 => by cases ho; exact kk v σ1 r hk H1 locs1 ls h hP1 hS1) (fun q x ce H1 locs1 ho => nomatch ho)
  · exact G.xrun (hM1 _ hf1) hS (fun v' H1 locs1 ho => nomatch ho) (fun q' x ce H1 locs1 ho hx hv hcl hP1 hS1 => by
      cases ho
      exact vx_out (fun x hx => (EX0.2 x hx).elim) E.2.2.2.2.2.2.1 hx hv hcl (fun t ht hW => ⟨⟨⟨q, hoo q σ1, rfl⟩, by rw [ht]; exact hP1⟩, hS1.F ht⟩) hS1.2.2 h1 h2)
theorem G.callXl {y : MethodName} {C : String} {wy wy' : List Cond} {rm : Room} {mc1 ms1 index maxL n a ci q0 : Nat} {bytes : ByteArray} {rt : Option FieldType} {fs As : List Value} {T : u_T} {N : Nat} {f : Option ((Nat ⊕ Int64) × ω)} {K : Int64 → ω → Option ((Nat ⊕ β) × ω)} (E : EV p s m args meth c cc nL own Ts ret D cy ws ad) (EX0 : EX l c) (hdg : decode cc pc = .ok (.invokevirtual index, 3)) (hM : ∀ r, f = some r → ConX l D cy ws ad y wy rm mc1 ms1 (.ref a :: As) (ooL r) σ r.2) (hG : GoodIn Ts (wsV own index C y wy)) (hw : wy = Cond.code y bytes maxL rt :: wy') (hrc : rm.cells = mc1) (hrs : rm.slots = ms1) (hd : y.cls = C ∧ y.cls ≠ "java/lang/invoke/MethodHandle" ∧ y.cls ≠ "java/lang/invoke/VarHandle" ∧ (parseMethodDescriptor y.desc).map (fun d => d.parameters.length) = some n) (hR : rm.frames + 1 ≤ R.frames ∧ 8 + (maxL + 11) + rm.locals ≤ R.locals) (he : (ws σ)[q0]? = some (a, .inr (ci, fs))) (hc : vwCl[ci]? = some (C, T, N)) (hn : As.length = n) (hcat : (st.map fun v => v.category).sum ≤ 8) (hf : cells + mc1 ≤ R.cells ∧ slots + ms1 ≤ R.slots) (h1 : cells + mc1 ≤ mc) (h2 : slots + ms1 ≤ ms) (hoo : ∀ q s, oo (.inl q, s) = .inl q) (kk : ∀ (v : Int64) (σ1 : ω), G p l e R s m args below meth c nL (cells + mc1) (slots + ms1) D ws ad (QX D ws ad below args s mc ms oo (fun r => r.2)) (pc + 3) lv (.long v :: st) σ1 (K v σ1)) : G p l e R s m args below meth c nL cells slots D ws ad (QX D ws ad below args s mc ms oo (fun r => r.2)) (pc) lv (As.reverse ++ .ref a :: st) σ (bX f K) := by
  intro r hr H locs ls h hP hS
  obtain ⟨pb, pq⟩ := EV.pre (av := .ref a :: As) E hP hS
  have hM1 : ∀ r1, f = some r1 → vx_Run p l e R s m args below meth c H locs cells slots mc1 ms1 (F0 m pc ls (As.reverse ++ .ref a :: st)) st (QcX D ws (wA ad H.size) (ooL r1) r1.2 (Value.ref a :: As).toArray) (XcX D ws (wA ad H.size) (ooL r1) r1.2) (wA ad H.size) := fun r1 h1 =>
    vx_runV (As := As) (rest := st) ⟨E.1, E.2.1, E.2.2.1, E.2.2.2.1, E.2.2.2.2.1⟩ (hM r1 h1 H.size) (cwV n E.2.2.2.2.1 hG hw hrc hrs hd hR) ⟨pb, va_recv E.2.2.2.2.2.2.2.1.1 hP hc he, pq⟩ rfl hn h.1 rfl (lv_room hcat) hdg hf
  rcases bX_some hr with ⟨v, σ1, hf1, hk⟩ | ⟨q, σ1, hf1, rfl⟩
  · exact G.xrun (hM1 _ hf1) hS (fun v' H1 locs1 ho hP1 hS1 => by cases ho; exact kk v σ1 r hk H1 locs1 ls h hP1 hS1) (fun q x ce H1 locs1 ho => nomatch ho)
  · exact G.xrun (hM1 _ hf1) hS (fun v' H1 locs1 ho => nomatch ho) (fun q' x ce H1 locs1 ho hx hv hcl hP1 hS1 => by
      cases ho
      exact vx_out (fun x hx => (EX0.2 x hx).elim) E.2.2.2.2.2.2.1 hx hv hcl (fun t ht hW => ⟨⟨⟨q, hoo q σ1, rfl⟩, by rw [ht]; exact hP1⟩, hS1.F ht⟩) hS1.2.2 h1 h2)
theorem G.callXv {y : MethodName} {C : String} {wy wy' : List Cond} {rm : Room} {mc1 ms1 index maxL n a ci q0 : Nat} {bytes : ByteArray} {rt : Option FieldType} {fs As : List Value} {T : u_T} {N : Nat} {f : Option ((Nat ⊕ Unit) × ω)} {K : Unit → ω → Option ((Nat ⊕ β) × ω)} (E : EV p s m args meth c cc nL own Ts ret D cy ws ad) (EX0 : EX l c) (hdg : decode cc pc = .ok (.invokevirtual index, 3)) (hM : ∀ r, f = some r → ConX l D cy ws ad y wy rm mc1 ms1 (.ref a :: As) (ooV r) σ r.2) (hG : GoodIn Ts (wsV own index C y wy)) (hw : wy = Cond.code y bytes maxL rt :: wy') (hrc : rm.cells = mc1) (hrs : rm.slots = ms1) (hd : y.cls = C ∧ y.cls ≠ "java/lang/invoke/MethodHandle" ∧ y.cls ≠ "java/lang/invoke/VarHandle" ∧ (parseMethodDescriptor y.desc).map (fun d => d.parameters.length) = some n) (hR : rm.frames + 1 ≤ R.frames ∧ 8 + (maxL + 11) + rm.locals ≤ R.locals) (he : (ws σ)[q0]? = some (a, .inr (ci, fs))) (hc : vwCl[ci]? = some (C, T, N)) (hn : As.length = n) (hcat : (st.map fun v => v.category).sum ≤ 8) (hf : cells + mc1 ≤ R.cells ∧ slots + ms1 ≤ R.slots) (h1 : cells + mc1 ≤ mc) (h2 : slots + ms1 ≤ ms) (hoo : ∀ q s, oo (.inl q, s) = .inl q) (kk : ∀ (v : Unit) (σ1 : ω), G p l e R s m args below meth c nL (cells + mc1) (slots + ms1) D ws ad (QX D ws ad below args s mc ms oo (fun r => r.2)) (pc + 3) lv (st) σ1 (K v σ1)) : G p l e R s m args below meth c nL cells slots D ws ad (QX D ws ad below args s mc ms oo (fun r => r.2)) (pc) lv (As.reverse ++ .ref a :: st) σ (bX f K) := by
  intro r hr H locs ls h hP hS
  obtain ⟨pb, pq⟩ := EV.pre (av := .ref a :: As) E hP hS
  have hM1 : ∀ r1, f = some r1 → vx_Run p l e R s m args below meth c H locs cells slots mc1 ms1 (F0 m pc ls (As.reverse ++ .ref a :: st)) st (QcX D ws (wA ad H.size) (ooV r1) r1.2 (Value.ref a :: As).toArray) (XcX D ws (wA ad H.size) (ooV r1) r1.2) (wA ad H.size) := fun r1 h1 =>
    vx_runV (As := As) (rest := st) ⟨E.1, E.2.1, E.2.2.1, E.2.2.2.1, E.2.2.2.2.1⟩ (hM r1 h1 H.size) (cwV n E.2.2.2.2.1 hG hw hrc hrs hd hR) ⟨pb, va_recv E.2.2.2.2.2.2.2.1.1 hP hc he, pq⟩ rfl hn h.1 rfl (lv_room hcat) hdg hf
  rcases bX_some hr with ⟨v, σ1, hf1, hk⟩ | ⟨q, σ1, hf1, rfl⟩
  · exact G.xrun (hM1 _ hf1) hS (fun v' H1 locs1 ho hP1 hS1 => by cases ho; exact kk v σ1 r hk H1 locs1 ls h hP1 hS1) (fun q x ce H1 locs1 ho => nomatch ho)
  · exact G.xrun (hM1 _ hf1) hS (fun v' H1 locs1 ho => nomatch ho) (fun q' x ce H1 locs1 ho hx hv hcl hP1 hS1 => by
      cases ho
      exact vx_out (fun x hx => (EX0.2 x hx).elim) E.2.2.2.2.2.2.1 hx hv hcl (fun t ht hW => ⟨⟨⟨q, hoo q σ1, rfl⟩, by rw [ht]; exact hP1⟩, hS1.F ht⟩) hS1.2.2 h1 h2)
end GX2
section GX3
variable {ω ρ : Type} {p : Program} {l : Launch} {e : Env} {R : Room} {s : State} {m : MethodId} {args : Array Value} {below : List Frame} {meth : Method} {c : Code} {cc : ByteArray} {nL cells slots mc ms : Nat} {own : String} {Ts : List Cond} {ret : Option FieldType} {D : va_G} {cy : Nat → ClassId} {ws : ω → va_W} {ad : List Nat} {oo : ρ → Nat ⊕ Option Value} {so : ρ → ω} {pc : Nat} {lv : List (Nat × Value)} {st : List Value} {σ : ω} {k : Option ρ}
theorem ConX.of {y : MethodName} {maxL : Nat} {rt : Option FieldType} {wy wy' : List Cond} {rm : Room} {av : List Value} {lv0 : List (Nat × Value)} {r : ρ} (oo : ρ → Nat ⊕ Option Value) (so : ρ → ω) (hy : plainName y.cls = true) (hw : wy = Cond.code y cc maxL rt :: wy') (hown : y.cls = own) (hav : (lg_sl av).length ≤ maxL) (hlv : lv_args 0 av = lv0) (hWF : WF ws ad) (hfl : l.stackTraces = false) (hk : k = some r)
    (body : ∀ (p : Program) (e : Env) (s : State) (m : MethodId) (args : Array Value) (below : List Frame) (meth : Method) (c : Code), EV p s m args meth c cc maxL own wy rt D cy ws ad → EX l c → G p l e (headSpec wy rm).room s m args below meth c maxL 0 0 D ws ad (QX D ws ad below args s mc ms oo so) 0 lv0 [] σ k) : ConX l D cy ws ad y wy rm mc ms av (oo r) σ (so r) := by
  intro sz
  refine vx_ofW (cc := cc) (maxL := maxL) (ret := rt) hy hw ?_
  intro p e s m args below meth c s₁ B hml ht hv
  obtain ⟨rfl, hsz, hP, hK⟩ := hv
  subst hsz
  subst hown
  have E : EV p s m av.toArray meth c cc maxL y.cls wy rt D cy ws ad := ⟨B.exec, B.bytes, hml, findClass_of_methodNamed B.named, atoms_spec (ws := wy) B.pre, B.returns, B.notSynchronized, hK, hWF⟩
  have hl := lv_entry av (n := maxL) hav
  rw [lg_entry_eq]
  rw [hlv] at hl
  exact body p e s m av.toArray below meth c E ⟨hfl, ht⟩ r hk s.heap [] _ hl hP va_S.rf
end GX3
