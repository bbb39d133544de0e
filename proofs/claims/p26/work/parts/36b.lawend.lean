section TR
variable {p : Program} {l : Launch} {e : Env} {s : State} {m : MethodId} {args : Array Value} {below : List Frame} {meth : Method} {c : Code} {D : va_G} {cy : Nat → ClassId} {h : Nat → Nat}

/-- the law from its loop on -/
noncomputable def f_L_law (N : Nat) (L : Nat) (xs : Nat → Int32) (m0 : Int32) (t0 : Int32) (γ : Wd) (ν : Wd) : Option Unit :=
  fl_L_law_84 N L xs (fun s226 s227 =>
    bS (f_L_move N s226 6 0) fun v228 s229 =>
    if v228 = (-7200) then (
      bS (f_L_tree N s229 (-1)) fun v230 s231 =>
      if v230 = (-7200) then (
        some ())
      else (
        none))
    else (
      none)) 61 m0 t0 γ ν
set_option maxHeartbeats 4000000 in
set_option maxRecDepth 100000 in
theorem gl_L_law {N L b : Nat} {xs : Nat → Int32} (E : EV p s m #[Value.ref b] meth c cL_law 40 RL wsL_law ret D cy (wsL cy h) (adL h)) (hfl : l.stackTraces = false) (X0 : SX s (adL h) b L xs) (hge : ∀ q ∈ adL h, s.heap.size ≤ q) :
  ∀ (cb sb : Nat), cb ≤ 1000 → sb ≤ 10000 → ∀ (m0 : Int32) (t0 : Int32) (γ : Wd) (ν : Wd), G p l e room_1 s m #[Value.ref b] below meth c 40 cb sb D (wsL cy h) (adL h) (fun _ : Unit => lw_Z below #[Value.ref b] s) 84 [(0, .ref b), (1, .ref (h 0)), (2, .ref (h 58)), (3, .ref (h 59)), (4, .ref (h 60)), (5, .ref (h 61)), (6, .ref (h 62)), (7, .ref (h 63)), (8, .ref (h 64)), (9, .ref (h 65)), (10, .ref (h 66)), (11, .ref (h 67)), (12, .ref (h 68)), (13, .ref (h 69)), (14, .int m0), (15, .int t0)] [] (γ, ν) (f_L_law N L xs m0 t0 γ ν) := by
  intro cb sb hcb hsb m0 t0 γ ν
  unfold f_L_law
  refine gl_L_law_84 (cX := cb + 225480) (sX := sb + 4705320) E hfl X0 hge (by omega) (by omega) (fun s226 s227 => ?_) 61 cb sb (by omega) (by omega) _ _ _ _
  refine G.aload_n E dL_law_1476 0 rfl rfl ?_
  refine G.bipush (v := 6) E dL_law_1477 (by decide) ?_
  refine G.iconst (v := 0) E dL_law_1479 (by decide) ?_
  refine G.callWiW (mc := 3) (ms := 18) (rm := rm_L_move) (n := 3) (As := [.ref (h 0), .int 6, .int 0]) (fun x => (x, s227)) E dL_law_1480 (fun _ _ hv => c_L_move E.wf hfl hv) gL_law_L_move rfl rfl rfl (by decide +kernel) ⟨Nat.le_of_ble_eq_true rfl, Nat.le_of_ble_eq_true rfl⟩ rfl (Nat.le_of_ble_eq_true rfl) ⟨by show _ ≤ 600104; omega, by show _ ≤ 7301314; omega⟩ (fun v228 s229 => ?_)
  refine G.sipush (v := (-7200)) E dL_law_1483 (by decide) ?_
  refine G.icmp_ne (tgt := 1504) E dL_law_1486 (by decide) ?_ ?_
  · refine G.aload_n E dL_law_1489 0 rfl rfl ?_
    refine G.iconst (v := (-1)) E dL_law_1490 (by decide) ?_
    refine G.callWiW (mc := 1) (ms := 6) (rm := rm_L_tree) (n := 2) (As := [.ref (h 0), .int (-1)]) (fun x => (x, s227)) E dL_law_1491 (fun _ _ hv => c_L_tree E.wf hfl hv) gL_law_L_tree rfl rfl rfl (by decide +kernel) ⟨Nat.le_of_ble_eq_true rfl, Nat.le_of_ble_eq_true rfl⟩ rfl (Nat.le_of_ble_eq_true rfl) ⟨by show _ ≤ 600104; omega, by show _ ≤ 7301314; omega⟩ (fun v230 s231 => ?_)
    refine G.sipush (v := (-7200)) E dL_law_1494 (by decide) ?_
    refine G.icmp_ne (tgt := 1504) E dL_law_1497 (by decide) ?_ ?_
    · refine G.iconst (v := 1) E dL_law_1500 (by decide) ?_
      refine G.goto (tgt := 1505) E dL_law_1501 (by decide) ?_
      exact G.lawret E hge dL_law_1505 (by omega) (by omega)
    · refine G.iconst (v := 0) E dL_law_1504 (by decide) ?_
      exact G.no
  · refine G.iconst (v := 0) E dL_law_1504 (by decide) ?_
    exact G.no
end TR
