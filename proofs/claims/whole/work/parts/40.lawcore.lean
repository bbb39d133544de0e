/-! THE LAW'S OWN METHODS: both worlds and the law's row of one long; calls that throw and are caught; the script. -/
abbrev W3 : Type := Wd × Wd × (Nat → Int64)
def wsL (cy : Nat → ClassId) (h : Nat → Nat) (s : W3) : va_W := wsC cy h s.1 ++ (wsM cy (fun k => h (58 + k)) s.2.1 ++ [(h 71, .inl (cy 1, 1, .inr (.inl s.2.2)))])
def adL (h : Nat → Nat) : List Nat := adC h ++ (adM (fun k => h (58 + k)) ++ [h 71])
theorem wfL {h : Nat → Nat} (hn : (adL h).Nodup) (cy : Nat → ClassId) : WF (wsL cy h) (adL h) := ⟨hn, fun _ => rfl⟩
theorem wfL_C {cy : Nat → ClassId} {h : Nat → Nat} (hW : WF (wsL cy h) (adL h)) : WF (wsC cy h) (adC h) := wfC (List.nodup_append.mp hW.1).1 cy
theorem wfL_M {cy : Nat → ClassId} {h : Nat → Nat} (hW : WF (wsL cy h) (adL h)) : WF (wsM cy (fun k => h (58 + k))) (adM (fun k => h (58 + k))) := wfM (List.nodup_append.mp (List.nodup_append.mp hW.1).2.1).1 cy
theorem wsL_at0 (cy : Nat → ClassId) (h : Nat → Nat) (s : W3) : (wsL cy h s)[0]? = (wsC cy h s.1)[0]? := rfl
theorem wsL_at58 (cy : Nat → ClassId) (h : Nat → Nat) (s : W3) : (wsL cy h s)[58]? = (wsM cy (fun k => h (58 + k)) s.2.1)[0]? := rfl
theorem wsL_at71 (cy : Nat → ClassId) (h : Nat → Nat) (s : W3) : (wsL cy h s)[71]? = some (h 71, .inl (cy 1, 1, .inr (.inl s.2.2))) := rfl
theorem wsL_setO (cy : Nat → ClassId) (h : Nat → Nat) (s : W3) (f : Nat → Int64) : (wsL cy h s).set 71 (h 71, .inl (cy 1, 1, .inr (.inl f))) = wsL cy h (s.1, s.2.1, f) := rfl
/-- what a method of one world computes, seen in all -/
def liC {α : Type} (s : W3) (f : Option (α × Wd)) : Option (α × W3) := f.map fun r => (r.1, r.2, s.2.1, s.2.2)
def liM {α : Type} (s : W3) (f : Option (α × Wd)) : Option (α × W3) := f.map fun r => (r.1, s.1, r.2, s.2.2)
def lvC (s : W3) (f : Option Wd) : Option W3 := f.map fun r => (r, s.2.1, s.2.2)
def lvM (s : W3) (f : Option Wd) : Option W3 := f.map fun r => (s.1, r, s.2.2)
theorem liC_some {α : Type} {s : W3} {f : Option (α × Wd)} {v : α} {s' : W3} (h : liC s f = some (v, s')) : ∃ τ, f = some (v, τ) ∧ s' = (τ, s.2.1, s.2.2) := by
  cases f with
  | none => exact nomatch h
  | some a => cases h; exact ⟨a.2, rfl, rfl⟩
theorem liM_some {α : Type} {s : W3} {f : Option (α × Wd)} {v : α} {s' : W3} (h : liM s f = some (v, s')) : ∃ τ, f = some (v, τ) ∧ s' = (s.1, τ, s.2.2) := by
  cases f with
  | none => exact nomatch h
  | some a => cases h; exact ⟨a.2, rfl, rfl⟩
theorem lvC_some {s : W3} {f : Option Wd} {s' : W3} (h : lvC s f = some s') : ∃ τ, f = some τ ∧ s' = (τ, s.2.1, s.2.2) := by
  cases f with
  | none => exact nomatch h
  | some a => cases h; exact ⟨a, rfl, rfl⟩
def lXC {α : Type} (s : W3) (f : Option ((Nat ⊕ α) × Wd)) : Option ((Nat ⊕ α) × W3) := f.map fun r => (r.1, r.2, s.2.1, s.2.2)
theorem lXC_some {α : Type} {s : W3} {f : Option ((Nat ⊕ α) × Wd)} {r : (Nat ⊕ α) × W3} (h : lXC s f = some r) : ∃ r1, f = some r1 ∧ (r1.1, r1.2, s.2.1, s.2.2) = r := by
  cases f with
  | none => exact nomatch h
  | some a => cases h; exact ⟨a, rfl, rfl⟩
theorem lvM_some {s : W3} {f : Option Wd} {s' : W3} (h : lvM s f = some s') : ∃ τ, f = some τ ∧ s' = (s.1, τ, s.2.2) := by
  cases f with
  | none => exact nomatch h
  | some a => cases h; exact ⟨a, rfl, rfl⟩
section LF
variable {l : Launch} {D : va_G} {cy : Nat → ClassId} {h : Nat → Nat} {y : MethodName} {wy : List Cond} {rm : Room} {mc ms : Nat} {av : List Value} {v : Option Value} {s : W3} {σ' τ' : Wd}
theorem Con.inC (hW : WF (wsL cy h) (adL h)) (hc : Con l D cy (wsC cy h) (adC h) y wy rm mc ms av v s.1 σ') : Con l D cy (wsL cy h) (adL h) y wy rm mc ms av v s (σ', s.2.1, s.2.2) := Con.lift [] _ hc rfl rfl (wfL_C hW) hW
theorem Con.inM (hW : WF (wsL cy h) (adL h)) (hc : Con l D cy (wsM cy (fun k => h (58 + k))) (adM (fun k => h (58 + k))) y wy rm mc ms av v s.2.1 τ') : Con l D cy (wsL cy h) (adL h) y wy rm mc ms av v s (s.1, τ', s.2.2) := Con.lift (wsC cy h s.1) _ hc rfl rfl (wfL_M hW) hW
theorem ConX.inC {o : Nat ⊕ Option Value} (hW : WF (wsL cy h) (adL h)) (hc : ConX l D cy (wsC cy h) (adC h) y wy rm mc ms av o s.1 σ') : ConX l D cy (wsL cy h) (adL h) y wy rm mc ms av o s (σ', s.2.1, s.2.2) := ConX.lift [] _ hc rfl rfl (wfL_C hW) hW
end LF
/-- the script, and the law's row -/
def sG {ρ : Type} (L : Nat) (xs : Nat → Int32) (i : Int32) (K : Int32 → Option ρ) : Option ρ := if inb i L = true then K (xs i.toNatClampNeg) else none
def oG {ρ : Type} (f : Nat → Int64) (i : Int32) (K : Int64 → Option ρ) : Option ρ := if inb i 1 = true then K (f i.toNatClampNeg) else none
def oS {ρ : Type} (s : W3) (i : Int32) (v : Int64) (K : W3 → Option ρ) : Option ρ := if inb i 1 = true then K (s.1, s.2.1, vp_updL s.2.2 i.toNatClampNeg v) else none
def bH {α ω ρ : Type} (f : Option ((Nat ⊕ α) × ω)) (K : α → ω → Option ρ) (X : Nat → ω → Option ρ) : Option ρ := match f with
  | some (.inr a, s) => K a s
  | some (.inl q, s) => X q s
  | none => none
theorem bH_some {α ω ρ : Type} {f : Option ((Nat ⊕ α) × ω)} {K : α → ω → Option ρ} {X : Nat → ω → Option ρ} {r : ρ} (h : bH f K X = some r) : (∃ a s, f = some (.inr a, s) ∧ K a s = some r) ∨ ∃ q s, f = some (.inl q, s) ∧ X q s = some r := by
  match f, h with
  | some (.inr a, s), h => exact Or.inl ⟨a, s, rfl, h⟩
  | some (.inl q, s), h => exact Or.inr ⟨q, s, rfl, h⟩
  | none, h => exact nomatch h
/-- the script's cell stands ahead of all that the law makes -/
def SX (s : State) (ad : List Nat) (b L : Nat) (xs : Nat → Int32) : Prop := va_X b L xs s s.heap ∧ b < s.heap.size ∧ ¬ wA ad s.heap.size b
/-- a frame over which an exception has been thrown -/
def GX {ω ρ : Type} (p : Program) (l : Launch) (e : Env) (R : Room) (s : State) (m : MethodId) (args : Array Value) (below : List Frame) (meth : Method) (c : Code) (nL cells slots : Nat) (D : va_G) (ws : ω → va_W) (ad : List Nat) (Q : ρ → State → Prop) (pc : Nat) (lv : List (Nat × Value)) (st : List Value) (σ : ω) (q : Nat) (k : Option ρ) : Prop :=
  ∀ r, k = some r → ∀ (H : Heap) (locs : List Loc) (ls : Array Slot) (x : Addr) (ce : Cell), lv_has ls nL lv → va_P D vwCl (ws σ) H → va_S (wA ad s.heap.size) s.heap H locs → H[x]? = some ce → ce.vm = .none → s.vm.findClass (exN q) = some ce.cls → vx_W p l e R s m args below meth c H locs cells slots (Q r) (F0 m pc ls st) x
section GL
variable {ω ρ : Type} {p : Program} {l : Launch} {e : Env} {R : Room} {s : State} {m : MethodId} {args : Array Value} {below : List Frame} {meth : Method} {c : Code} {cc : ByteArray} {nL cells slots : Nat} {own : String} {Ts : List Cond} {ret : Option FieldType} {D : va_G} {cy : Nat → ClassId} {ws : ω → va_W} {ad : List Nat} {Q : ρ → State → Prop} {pc : Nat} {lv : List (Nat × Value)} {st : List Value} {σ : ω} {k : Option ρ}
theorem GX.no {q : Nat} : GX p l e R s m args below meth c nL cells slots D ws ad Q (pc) lv (st) σ q (none : Option ρ) := fun _ h => nomatch h
theorem GX.on {q a : Nat} {k1 k2 : Option ρ} (h1 : q = a → GX p l e R s m args below meth c nL cells slots D ws ad Q (pc) lv (st) σ q (k1)) (h2 : ¬ q = a → GX p l e R s m args below meth c nL cells slots D ws ad Q (pc) lv (st) σ q (k2)) : GX p l e R s m args below meth c nL cells slots D ws ad Q (pc) lv (st) σ q (if q = a then k1 else k2) := by
  by_cases h : q = a
  · rw [if_pos h]; exact h1 h
  · rw [if_neg h]; exact h2 h
theorem GX.catch {q : Nat} {name : String} {tab : List ExceptionTableEntry} (E : EV p s m args meth c cc nL own Ts ret D cy ws ad) (htab : c.exceptionTable.toList = tab) (pre : List ExceptionTableEntry) (x : ExceptionTableEntry) (suf : List ExceptionTableEntry) (hsp : tab = pre ++ x :: suf)
    (hpass : ∀ z ∈ pre, z.catchType ≠ 0 ∧ ∃ nm : String, Cond.classLink own z.catchType nm ∈ Ts ∧ (exN q, nm) ∈ ncW) (hx : covers x pc = true) (h0 : x.catchType ≠ 0) (hlink : Cond.classLink own x.catchType name ∈ Ts) (hcast : Cond.castable (exN q) name ∈ nestW)
    (kk : ∀ a : Nat, G p l e R s m args below meth c nL cells slots D ws ad Q (x.handlerPc) lv ([.ref a]) σ (k)) : GX p l e R s m args below meth c nL cells slots D ws ad Q (pc) lv (st) σ q (k) := by
  intro r hr H locs ls a ce h hP hS hcell hv hcl
  exact vx_catch E.2.2.2.1 pre x suf (htab.trans hsp) (fun z hz => by
    obtain ⟨h1, nm, h2, h3⟩ := hpass z hz
    exact Or.inr ⟨h1, nm, E.2.2.2.2.1 _ h2, E.2.2.2.2.2.2.2.1.2.2.2.2.2 _ h3⟩) hx h0 (E.2.2.2.2.1 _ hlink) (va_Nw.use rfl (E.2.2.2.2.2.2.2.1.2.1 _ hcast)) hcell hv hcl (kk a r hr H locs ls h hP hS)
theorem G.astore_n {j : Fin 4} {i : Nat} {x : Nat} {lv' : List (Nat × Value)} (E : EV p s m args meth c cc nL own Ts ret D cy ws ad) (hdg : decode cc pc = .ok (.astore_n j, 1)) (hi : (j : Nat) = i) (hn : i < nL) (hl : (i, Value.ref x) :: lv.filter (fun q => !(q.1 == i) && !(q.1 + 1 == i && q.2.category == 2)) = lv') (kk : G p l e R s m args below meth c nL cells slots D ws ad Q (pc + 1) lv' (st) σ (k)) : G p l e R s m args below meth c nL cells slots D ws ad Q (pc) lv (.ref x :: st) σ (k) :=
  fun r hr H locs ls h hP hS => lv_astore_n E.1 E.2.1 hdg hi h hn hl (fun ls h => kk r hr H locs ls h hP hS)
theorem G.astore {i : Nat} {x : Nat} {lv' : List (Nat × Value)} (E : EV p s m args meth c cc nL own Ts ret D cy ws ad) (hdg : decode cc pc = .ok (.astore i, 2)) (hn : i < nL) (hl : (i, Value.ref x) :: lv.filter (fun q => !(q.1 == i) && !(q.1 + 1 == i && q.2.category == 2)) = lv') (kk : G p l e R s m args below meth c nL cells slots D ws ad Q (pc + 2) lv' (st) σ (k)) : G p l e R s m args below meth c nL cells slots D ws ad Q (pc) lv (.ref x :: st) σ (k) :=
  fun r hr H locs ls h hP hS => lv_astore E.1 E.2.1 hdg h hn hl (fun ls h => kk r hr H locs ls h hP hS)
theorem G.sld {b L : Nat} {xs : Nat → Int32} {i : Int32} {K : Int32 → Option ρ} (E : EV p s m args meth c cc nL own Ts ret D cy ws ad) (X0 : SX s ad b L xs) (hdg : decode cc pc = .ok (.iaload, 1)) (kk : ∀ z : Int32, G p l e R s m args below meth c nL cells slots D ws ad Q (pc + 1) lv (.int z :: st) σ (K z)) : G p l e R s m args below meth c nL cells slots D ws ad Q (pc) lv (.int i :: .ref b :: st) σ (sG L xs i K) := by
  intro r hr H locs ls h hP hS
  unfold sG at hr
  by_cases hy : inb i L = true
  · rw [if_pos hy] at hr; exact va_sld E.1 E.2.1 X0.1 X0.2.1 X0.2.2 hS (inb_in hy) hdg (kk _ r hr H locs ls h hP hS)
  · rw [if_neg hy] at hr; exact nomatch hr
theorem G.slen {b L : Nat} {xs : Nat → Int32} (E : EV p s m args meth c cc nL own Ts ret D cy ws ad) (X0 : SX s ad b L xs) (hdg : decode cc pc = .ok (.arraylength, 1)) (kk : G p l e R s m args below meth c nL cells slots D ws ad Q (pc + 1) lv (.int (Int32.ofNat L) :: st) σ (k)) : G p l e R s m args below meth c nL cells slots D ws ad Q (pc) lv (.ref b :: st) σ (k) :=
  fun r hr H locs ls h hP hS => va_slen E.1 E.2.1 X0.1 X0.2.1 X0.2.2 hS hdg (kk r hr H locs ls h hP hS)
theorem G.oald {q0 a : Nat} {f : Nat → Int64} {i : Int32} {K : Int64 → Option ρ} (E : EV p s m args meth c cc nL own Ts ret D cy ws ad) (hdg : decode cc pc = .ok (.laload, 1)) (ha : (ws σ)[q0]? = some (a, .inl (cy 1, 1, .inr (.inl f)))) (kk : ∀ z : Int64, G p l e R s m args below meth c nL cells slots D ws ad Q (pc + 1) lv (.long z :: st) σ (K z)) : G p l e R s m args below meth c nL cells slots D ws ad Q (pc) lv (.int i :: .ref a :: st) σ (oG f i K) := by
  intro r hr H locs ls h hP hS
  unfold oG at hr
  by_cases hy : inb i 1 = true
  · rw [if_pos hy] at hr; exact va_lald E.1 E.2.1 E.2.2.2.2.2.2.2.1.1 hP q0 1 ha rfl (inb_in hy) hdg (kk _ r hr H locs ls h hP hS)
  · rw [if_neg hy] at hr; exact nomatch hr
theorem G.widen {k1 n1 : Nat} (h1 : cells ≤ k1) (h2 : slots ≤ n1) (kk : G p l e R s m args below meth c nL k1 n1 D ws ad Q (pc) lv (st) σ (k)) : G p l e R s m args below meth c nL cells slots D ws ad Q (pc) lv (st) σ (k) :=
  fun r hr H locs ls h hP hS => W.widen h1 h2 (kk r hr H locs ls h hP hS)
end GL
section GL2
variable {ρ : Type} {p : Program} {l : Launch} {e : Env} {R : Room} {s : State} {m : MethodId} {args : Array Value} {below : List Frame} {meth : Method} {c : Code} {cc : ByteArray} {nL cells slots : Nat} {own : String} {Ts : List Cond} {ret : Option FieldType} {D : va_G} {cy : Nat → ClassId} {ws : W3 → va_W} {ad : List Nat} {Q : ρ → State → Prop} {pc : Nat} {lv : List (Nat × Value)} {st : List Value} {σ : W3} {k : Option ρ}
theorem G.oast {q0 a : Nat} {i : Int32} {v : Int64} {K : W3 → Option ρ} (E : EV p s m args meth c cc nL own Ts ret D cy ws ad) (hdg : decode cc pc = .ok (.lastore, 1)) (ha : (ws σ)[q0]? = some (a, .inl (cy 1, 1, .inr (.inl σ.2.2)))) (hs : ∀ f, (ws σ).set q0 (a, .inl (cy 1, 1, .inr (.inl f))) = ws (σ.1, σ.2.1, f)) (kk : ∀ s' : W3, G p l e R s m args below meth c nL cells slots D ws ad Q (pc + 1) lv (st) s' (K s')) : G p l e R s m args below meth c nL cells slots D ws ad Q (pc) lv (.long v :: .int i :: .ref a :: st) σ (oS σ i v K) := by
  intro r hr H locs ls h hP hS
  unfold oS at hr
  by_cases hy : inb i 1 = true
  · rw [if_pos hy] at hr; exact va_last E.1 E.2.1 E.2.2.2.2.2.2.2.1.1 hP (E.2.2.2.2.2.2.2.2.D _ σ) hS q0 1 ha rfl (inb_in hy) hdg (fun H1 locs1 hP1 _ hS1 => kk _ r hr H1 locs1 ls h (by rw [hs] at hP1; exact hP1) hS1)
  · rw [if_neg hy] at hr; exact nomatch hr
end GL2
section GL3
variable {ω ρ : Type} {p : Program} {l : Launch} {e : Env} {R : Room} {s : State} {m : MethodId} {args : Array Value} {below : List Frame} {meth : Method} {c : Code} {cc : ByteArray} {nL cells slots : Nat} {own : String} {Ts : List Cond} {ret : Option FieldType} {D : va_G} {cy : Nat → ClassId} {ws : ω → va_W} {ad : List Nat} {Q : ρ → State → Prop} {pc : Nat} {lv : List (Nat × Value)} {st : List Value} {σ : ω} {k : Option ρ}
theorem G.callHi {y : MethodName} {C : String} {wy wy' : List Cond} {rm : Room} {mc1 ms1 index maxL n a ci q0 : Nat} {bytes : ByteArray} {rt : Option FieldType} {fs As : List Value} {T : u_T} {N : Nat} {f : Option ((Nat ⊕ Int32) × ω)} {K : Int32 → ω → Option ρ} {X : Nat → ω → Option ρ} (E : EV p s m args meth c cc nL own Ts ret D cy ws ad) (hdg : decode cc pc = .ok (.invokevirtual index, 3)) (hM : ∀ r, f = some r → ConX l D cy ws ad y wy rm mc1 ms1 (.ref a :: As) (ooI r) σ r.2) (hG : GoodIn Ts (wsV own index C y wy)) (hw : wy = Cond.code y bytes maxL rt :: wy') (hrc : rm.cells = mc1) (hrs : rm.slots = ms1) (hd : y.cls = C ∧ y.cls ≠ "java/lang/invoke/MethodHandle" ∧ y.cls ≠ "java/lang/invoke/VarHandle" ∧ (parseMethodDescriptor y.desc).map (fun d => d.parameters.length) = some n) (hR : rm.frames + 1 ≤ R.frames ∧ 8 + (maxL + 11) + rm.locals ≤ R.locals) (he : (ws σ)[q0]? = some (a, .inr (ci, fs))) (hc : vwCl[ci]? = some (C, T, N)) (hn : As.length = n) (hcat : (st.map fun v => v.category).sum ≤ 8) (hf : cells + mc1 ≤ R.cells ∧ slots + ms1 ≤ R.slots) (kk : ∀ (v : Int32) (σ1 : ω), G p l e R s m args below meth c nL (cells + mc1) (slots + ms1) D ws ad Q (pc + 3) lv (.int v :: st) σ1 (K v σ1)) (kx : ∀ (q : Nat) (σ1 : ω), GX p l e R s m args below meth c nL (cells + mc1) (slots + ms1) D ws ad Q (pc) lv (st) σ1 q (X q σ1)) : G p l e R s m args below meth c nL cells slots D ws ad Q (pc) lv (As.reverse ++ .ref a :: st) σ (bH f K X) := by
  intro r hr H locs ls h hP hS
  obtain ⟨pb, pq⟩ := EV.pre (av := .ref a :: As) E hP hS
  have hM1 : ∀ r1, f = some r1 → vx_Run p l e R s m args below meth c H locs cells slots mc1 ms1 (F0 m pc ls (As.reverse ++ .ref a :: st)) st (QcX D ws (wA ad H.size) (ooI r1) r1.2 (Value.ref a :: As).toArray) (XcX D ws (wA ad H.size) (ooI r1) r1.2) (wA ad H.size) := fun r1 h1 =>
    vx_runV (As := As) (rest := st) ⟨E.1, E.2.1, E.2.2.1, E.2.2.2.1, E.2.2.2.2.1⟩ (hM r1 h1 H.size) (cwV n E.2.2.2.2.1 hG hw hrc hrs hd hR) ⟨pb, va_recv E.2.2.2.2.2.2.2.1.1 hP hc he, pq⟩ rfl hn h.1 rfl (lv_room hcat) hdg hf
  rcases bH_some hr with ⟨v, σ1, hf1, hk⟩ | ⟨q, σ1, hf1, hk⟩
  · exact G.xrun (hM1 _ hf1) hS (fun v' H1 locs1 ho hP1 hS1 => by cases ho; exact kk v σ1 r hk H1 locs1 ls h hP1 hS1) (fun q x ce H1 locs1 ho => nomatch ho)
  · exact G.xrun (hM1 _ hf1) hS (fun v' H1 locs1 ho => nomatch ho) (fun q' x ce H1 locs1 ho hx hv hcl hP1 hS1 => by
      cases ho
      exact kx q σ1 r hk H1 locs1 ls x ce h hP1 hS1 hx hv hcl)
theorem G.callHl {y : MethodName} {C : String} {wy wy' : List Cond} {rm : Room} {mc1 ms1 index maxL n a ci q0 : Nat} {bytes : ByteArray} {rt : Option FieldType} {fs As : List Value} {T : u_T} {N : Nat} {f : Option ((Nat ⊕ Int64) × ω)} {K : Int64 → ω → Option ρ} {X : Nat → ω → Option ρ} (E : EV p s m args meth c cc nL own Ts ret D cy ws ad) (hdg : decode cc pc = .ok (.invokevirtual index, 3)) (hM : ∀ r, f = some r → ConX l D cy ws ad y wy rm mc1 ms1 (.ref a :: As) (ooL r) σ r.2) (hG : GoodIn Ts (wsV own index C y wy)) (hw : wy = Cond.code y bytes maxL rt :: wy') (hrc : rm.cells = mc1) (hrs : rm.slots = ms1) (hd : y.cls = C ∧ y.cls ≠ "java/lang/invoke/MethodHandle" ∧ y.cls ≠ "java/lang/invoke/VarHandle" ∧ (parseMethodDescriptor y.desc).map (fun d => d.parameters.length) = some n) (hR : rm.frames + 1 ≤ R.frames ∧ 8 + (maxL + 11) + rm.locals ≤ R.locals) (he : (ws σ)[q0]? = some (a, .inr (ci, fs))) (hc : vwCl[ci]? = some (C, T, N)) (hn : As.length = n) (hcat : (st.map fun v => v.category).sum ≤ 8) (hf : cells + mc1 ≤ R.cells ∧ slots + ms1 ≤ R.slots) (kk : ∀ (v : Int64) (σ1 : ω), G p l e R s m args below meth c nL (cells + mc1) (slots + ms1) D ws ad Q (pc + 3) lv (.long v :: st) σ1 (K v σ1)) (kx : ∀ (q : Nat) (σ1 : ω), GX p l e R s m args below meth c nL (cells + mc1) (slots + ms1) D ws ad Q (pc) lv (st) σ1 q (X q σ1)) : G p l e R s m args below meth c nL cells slots D ws ad Q (pc) lv (As.reverse ++ .ref a :: st) σ (bH f K X) := by
  intro r hr H locs ls h hP hS
  obtain ⟨pb, pq⟩ := EV.pre (av := .ref a :: As) E hP hS
  have hM1 : ∀ r1, f = some r1 → vx_Run p l e R s m args below meth c H locs cells slots mc1 ms1 (F0 m pc ls (As.reverse ++ .ref a :: st)) st (QcX D ws (wA ad H.size) (ooL r1) r1.2 (Value.ref a :: As).toArray) (XcX D ws (wA ad H.size) (ooL r1) r1.2) (wA ad H.size) := fun r1 h1 =>
    vx_runV (As := As) (rest := st) ⟨E.1, E.2.1, E.2.2.1, E.2.2.2.1, E.2.2.2.2.1⟩ (hM r1 h1 H.size) (cwV n E.2.2.2.2.1 hG hw hrc hrs hd hR) ⟨pb, va_recv E.2.2.2.2.2.2.2.1.1 hP hc he, pq⟩ rfl hn h.1 rfl (lv_room hcat) hdg hf
  rcases bH_some hr with ⟨v, σ1, hf1, hk⟩ | ⟨q, σ1, hf1, hk⟩
  · exact G.xrun (hM1 _ hf1) hS (fun v' H1 locs1 ho hP1 hS1 => by cases ho; exact kk v σ1 r hk H1 locs1 ls h hP1 hS1) (fun q x ce H1 locs1 ho => nomatch ho)
  · exact G.xrun (hM1 _ hf1) hS (fun v' H1 locs1 ho => nomatch ho) (fun q' x ce H1 locs1 ho hx hv hcl hP1 hS1 => by
      cases ho
      exact kx q σ1 r hk H1 locs1 ls x ce h hP1 hS1 hx hv hcl)
theorem G.callHv {y : MethodName} {C : String} {wy wy' : List Cond} {rm : Room} {mc1 ms1 index maxL n a ci q0 : Nat} {bytes : ByteArray} {rt : Option FieldType} {fs As : List Value} {T : u_T} {N : Nat} {f : Option ((Nat ⊕ Unit) × ω)} {K : Unit → ω → Option ρ} {X : Nat → ω → Option ρ} (E : EV p s m args meth c cc nL own Ts ret D cy ws ad) (hdg : decode cc pc = .ok (.invokevirtual index, 3)) (hM : ∀ r, f = some r → ConX l D cy ws ad y wy rm mc1 ms1 (.ref a :: As) (ooV r) σ r.2) (hG : GoodIn Ts (wsV own index C y wy)) (hw : wy = Cond.code y bytes maxL rt :: wy') (hrc : rm.cells = mc1) (hrs : rm.slots = ms1) (hd : y.cls = C ∧ y.cls ≠ "java/lang/invoke/MethodHandle" ∧ y.cls ≠ "java/lang/invoke/VarHandle" ∧ (parseMethodDescriptor y.desc).map (fun d => d.parameters.length) = some n) (hR : rm.frames + 1 ≤ R.frames ∧ 8 + (maxL + 11) + rm.locals ≤ R.locals) (he : (ws σ)[q0]? = some (a, .inr (ci, fs))) (hc : vwCl[ci]? = some (C, T, N)) (hn : As.length = n) (hcat : (st.map fun v => v.category).sum ≤ 8) (hf : cells + mc1 ≤ R.cells ∧ slots + ms1 ≤ R.slots) (kk : ∀ (v : Unit) (σ1 : ω), G p l e R s m args below meth c nL (cells + mc1) (slots + ms1) D ws ad Q (pc + 3) lv (st) σ1 (K v σ1)) (kx : ∀ (q : Nat) (σ1 : ω), GX p l e R s m args below meth c nL (cells + mc1) (slots + ms1) D ws ad Q (pc) lv (st) σ1 q (X q σ1)) : G p l e R s m args below meth c nL cells slots D ws ad Q (pc) lv (As.reverse ++ .ref a :: st) σ (bH f K X) := by
  intro r hr H locs ls h hP hS
  obtain ⟨pb, pq⟩ := EV.pre (av := .ref a :: As) E hP hS
  have hM1 : ∀ r1, f = some r1 → vx_Run p l e R s m args below meth c H locs cells slots mc1 ms1 (F0 m pc ls (As.reverse ++ .ref a :: st)) st (QcX D ws (wA ad H.size) (ooV r1) r1.2 (Value.ref a :: As).toArray) (XcX D ws (wA ad H.size) (ooV r1) r1.2) (wA ad H.size) := fun r1 h1 =>
    vx_runV (As := As) (rest := st) ⟨E.1, E.2.1, E.2.2.1, E.2.2.2.1, E.2.2.2.2.1⟩ (hM r1 h1 H.size) (cwV n E.2.2.2.2.1 hG hw hrc hrs hd hR) ⟨pb, va_recv E.2.2.2.2.2.2.2.1.1 hP hc he, pq⟩ rfl hn h.1 rfl (lv_room hcat) hdg hf
  rcases bH_some hr with ⟨v, σ1, hf1, hk⟩ | ⟨q, σ1, hf1, hk⟩
  · exact G.xrun (hM1 _ hf1) hS (fun v' H1 locs1 ho hP1 hS1 => by cases ho; exact kk v σ1 r hk H1 locs1 ls h hP1 hS1) (fun q x ce H1 locs1 ho => nomatch ho)
  · exact G.xrun (hM1 _ hf1) hS (fun v' H1 locs1 ho => nomatch ho) (fun q' x ce H1 locs1 ho hx hv hcl hP1 hS1 => by
      cases ho
      exact kx q σ1 r hk H1 locs1 ls x ce h hP1 hS1 hx hv hcl)
/-- a static call of a method with handlers of its own -/
theorem G.callW {y : MethodName} {wy wy' : List Cond} {rm : Room} {mc ms index maxL n : Nat} {bytes : ByteArray} {rt : Option FieldType} {hh : List (Nat × Nat × Nat × Nat)} {As : List Value} {f : Option (Int32 × ω)} {K : Int32 → ω → Option ρ} (E : EV p s m args meth c cc nL own Ts ret D cy ws ad) (hdg : decode cc pc = .ok (.invokestatic index, 3)) (hM : ∀ v σ1, f = some (v, σ1) → Con l D cy ws ad y wy rm mc ms As (some (.int v)) σ σ1) (hG : GoodIn Ts (va_wsS own index y wy)) (hw : wy = Cond.codeWith y bytes maxL rt hh :: wy') (hrc : rm.cells = mc) (hrs : rm.slots = ms) (hd : y.cls ≠ "java/lang/invoke/MethodHandle" ∧ y.cls ≠ "java/lang/invoke/VarHandle" ∧ (parseMethodDescriptor y.desc).map (fun d => d.parameters.length) = some n) (hR : rm.frames + 1 ≤ R.frames ∧ 8 + (maxL + 11) + rm.locals ≤ R.locals) (hn : As.length = n) (hcat : (st.map fun v => v.category).sum ≤ 8) (hf : cells + mc ≤ R.cells ∧ slots + ms ≤ R.slots) (kk : ∀ (v : Int32) (σ1 : ω), G p l e R s m args below meth c nL (cells + mc) (slots + ms) D ws ad Q (pc + 3) lv (.int v :: st) σ1 (K v σ1)) : G p l e R s m args below meth c nL cells slots D ws ad Q (pc) lv (As.reverse ++ st) σ (bS f K) := by
  intro r hr H locs ls h hP hS
  obtain ⟨v, σ1, hf1, hk⟩ := bS_some hr
  obtain ⟨pb, pq⟩ := EV.pre (av := As) E hP hS
  exact G.run (sz := H.size) (vx_runSW (As := As) (rest := st) ⟨E.1, E.2.1, E.2.2.1, E.2.2.2.1, E.2.2.2.2.1⟩ (hM v σ1 hf1 H.size) (vx_cwSW n E.2.2.2.2.1 hG hw hrc hrs hd hR) ⟨pb, pq⟩ rfl hn h.1 rfl (lv_room hcat) hdg hf) hS (fun H1 locs1 hP1 hS1 => kk v σ1 r hk H1 locs1 ls h hP1 hS1)
theorem Con.ofH {y : MethodName} {maxL mc ms : Nat} {rt : Option FieldType} {hh : List (Nat × Nat × Nat × Nat)} {wy wy' : List Cond} {rm : Room} {av : List Value} {lv0 : List (Nat × Value)} {r : ρ} (vo : ρ → Option Value) (so : ρ → ω) (hy : plainName y.cls = true) (hw : wy = Cond.codeWith y cc maxL rt hh :: wy') (hown : y.cls = own) (hav : (lg_sl av).length ≤ maxL) (hlv : lv_args 0 av = lv0) (hWF : WF ws ad) (hk : k = some r)
    (body : ∀ (p : Program) (e : Env) (s : State) (m : MethodId) (args : Array Value) (below : List Frame) (meth : Method) (c : Code), EV p s m args meth c cc maxL own wy rt D cy ws ad → c.exceptionTable.toList = tableOf hh → G p l e (headSpec wy rm).room s m args below meth c maxL 0 0 D ws ad (QM D ws ad below args s mc ms vo so) 0 lv0 [] σ k) : Con l D cy ws ad y wy rm mc ms av (vo r) σ (so r) := by
  intro sz
  refine MetFree.of_bodyS (code := cc) (maxLocals := maxL) (ret := rt) hy ?_ ?_
  · intro args s m h hn
    obtain ⟨m9, meth, c, hn9, h1, h2, h3, h4, -, h5, h6, -⟩ := Cond.codeWith_spec (atoms_spec (ws := wy) h _ (by rw [hw]; exact List.mem_cons_self))
    cases hn.symm.trans hn9
    exact ⟨meth, c, h1, h2, h3, h4, h5, h6⟩
  · intro p e s m args below meth c s₁ B hml hv _
    have hh0 : s₁.heap = s.heap := by rw [B.state]; rfl
    obtain ⟨rfl, hsz, hP, hK⟩ := hv
    subst hsz
    subst hown
    have hts := atoms_spec (ws := wy) B.pre
    have E : EV p s m av.toArray meth c cc maxL y.cls wy rt D cy ws ad := ⟨B.exec, B.bytes, hml, findClass_of_methodNamed B.named, hts, B.returns, B.notSynchronized, hK, hWF⟩
    have htab : c.exceptionTable.toList = tableOf hh := vx_table (x := y) B (hts _ (by rw [hw]; exact List.mem_cons_self))
    have hl := lv_entry av (n := maxL) hav
    have hb := body p e s m av.toArray below meth c E htab r hk s.heap [] _ (by rw [hlv] at hl; exact hl) hP va_S.rf
    rw [← lg_entry_eq] at hb
    obtain ⟨t, a1, o, b1, b2, b3⟩ := hb s₁ hh0 (Stand.of_body B)
    exact ⟨t, o, a1, b1, b2, ⟨b3.1, b3.2⟩⟩
end GL3
