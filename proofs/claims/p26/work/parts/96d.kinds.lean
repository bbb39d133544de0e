/-! MOVES: the class's plan of each kind. -/
/-- what a plan says -/
def PO (σ s : Wd) (o : Option Mv) : Prop := FrP σ s ∧ ((o = none ∧ s.1 29 0 = 0) ∨ ∃ M, o = some M ∧ s.1 29 0 = 1 ∧ PS s M)
/-- the conductance of the wire at a place of those at a node -/
def lc (t : Nt) (v j : Nat) : Nat := t.c ((la t v).getD j 0)
def othW (t : Nt) (w : Nat) : Nat := fsP (fun x => btw t (t.f w) (t.s w) x && !(x == w)) 20 0
def s2B (t : Nt) (a b x : Nat) : Bool := !(a == b) && (t.wr.testBit x && ((t.f x == a || t.s x == a) && (!(t.far x a == a) && (!(t.far x a == b) && jnd t b (t.far x a)))))
def sec (t : Nt) (w : Nat) : Nat := fsP (s2B t (t.f w) (t.s w)) 20 0
def thd (t : Nt) (w : Nat) : Nat := fsP (btw t (t.s w) (t.far (sec t w) (t.f w))) 20 0
def prs (t : Nt) (w : Nat) : Nat := t.c w * t.c (sec t w) + t.c w * t.c (thd t w) + t.c (sec t w) * t.c (thd t w)
def pl0 (t : Nt) (w : Nat) : Option Mv := if (t.f w == t.s w) = true then some (Mv.mk 0 (2 ^ w) none 0 []) else none
def pl1 (t : Nt) (w : Nat) : Option Mv := if (!(t.f w == t.s w) && (decide (othW t w < 20) && decide (t.c w + t.c (othW t w) ≤ 60))) = true then some (Mv.mk 0 (2 ^ othW t w) (some (w, t.c w + t.c (othW t w))) 0 []) else none
def pl2 (t : Nt) (v : Nat) : Option Mv := if inn t v 1 = true then some (Mv.mk (2 ^ v) (WA t v) none 0 []) else none
def pl3 (t : Nt) (v : Nat) : Option Mv := if (inn t v 2 && whl (lc t v 0 * lc t v 1) (lc t v 0 + lc t v 1)) = true then some (Mv.mk (2 ^ v) (WA t v) none 0 [(fa t v 0, fa t v 1, lc t v 0 * lc t v 1 / (lc t v 0 + lc t v 1))]) else none
def sm3 (t : Nt) (v : Nat) : Nat := lc t v 0 + lc t v 1 + lc t v 2
def pl4 (t : Nt) (v : Nat) : Option Mv := if (inn t v 3 && (whl (lc t v 0 * lc t v 1) (sm3 t v) && (whl (lc t v 0 * lc t v 2) (sm3 t v) && whl (lc t v 1 * lc t v 2) (sm3 t v)))) = true then some (Mv.mk (2 ^ v) (WA t v) none 0 [(fa t v 0, fa t v 1, lc t v 0 * lc t v 1 / sm3 t v), (fa t v 0, fa t v 2, lc t v 0 * lc t v 2 / sm3 t v), (fa t v 1, fa t v 2, lc t v 1 * lc t v 2 / sm3 t v)]) else none
def pl5 (t : Nt) (w : Nat) : Option Mv := if (decide (sec t w < 20) && (whl (prs t w) (t.c (thd t w)) && (whl (prs t w) (t.c (sec t w)) && whl (prs t w) (t.c w)))) = true then some (Mv.mk 0 ((2 ^ w ||| 2 ^ sec t w) ||| 2 ^ thd t w) none 1 [(t.f w, t.nN, prs t w / t.c (thd t w)), (t.s w, t.nN, prs t w / t.c (sec t w)), (t.far (sec t w) (t.f w), t.nN, prs t w / t.c w)]) else none
theorem threeB {σ s : Wd} {ng wg nn : Nat} {ch : Option (Nat × Nat)} {x y z : Nat × Nat × Nat} {w1 w2 w3 : Bool} (fr : FrP σ s)
    (ps : PS s (Mv.mk ng wg ch nn (if w3 = true then (if w2 = true then (if w1 = true then [] ++ [x] else []) ++ [y] else (if w1 = true then [] ++ [x] else [])) ++ [z] else (if w2 = true then (if w1 = true then [] ++ [x] else []) ++ [y] else (if w1 = true then [] ++ [x] else [])))))
    (h : s.1 29 0 = (if w3 = true then (if w2 = true then (if w1 = true then 1 else 0) else 0) else 0)) : PO σ s (if (w1 && (w2 && w3)) = true then some (Mv.mk ng wg ch nn [x, y, z]) else none) := by
  cases w1 <;> cases w2 <;> cases w3 <;> first
    | exact ⟨fr, Or.inr ⟨_, rfl, h, ps⟩⟩
    | exact ⟨fr, Or.inl ⟨rfl, h⟩⟩
theorem len1 {x : Nat × Nat × Nat} {w1 : Bool} : (if w1 = true then [] ++ [x] else []).length < 3 := by cases w1 <;> simp
theorem len2 {x y : Nat × Nat × Nat} {w1 w2 : Bool} : (if w2 = true then (if w1 = true then [] ++ [x] else []) ++ [y] else (if w1 = true then [] ++ [x] else [])).length < 3 := by cases w1 <;> cases w2 <;> simp
theorem PO.none {σ s : Wd} (h : FrP σ s) (h0 : s.1 29 0 = 0) {o : Option Mv} (ho : o = Option.none) : PO σ s o := ⟨h, Or.inl ⟨ho, h0⟩⟩
section kinds
variable {N : Nat} {σ τ : Wd} {t : Nt}
theorem lc_b (i : IN t) {v j : Nat} (h : j < (la t v).length) : 1 ≤ lc t v j ∧ lc t v j ≤ 60 := i.cb _ (la_in h).2.1
theorem mul60 {a b : Nat} (ha : a ≤ 60) (hb : b ≤ 60) : a * b ≤ 3600 := Nat.mul_le_mul ha hb
theorem v_planLoop (r : RN σ t) (i : IN t) {w : Nat} (hw : w < 20) (h0 : σ.1 29 0 = 0) (ps : PS σ (Mv.mk 0 0 none 0 [])) : ∃ s, f_X3_planLoop N σ (nI w) = some s ∧ PO σ s (pl0 t w) := by
  unfold f_X3_planLoop
  rw [v_isRing r i hw, bP_s, zb_bI]
  simp (disch := omega) only [wI, v_setOf, bP_s]
  refine ⟨_, rfl, (FrP.put (by omega) (by omega)).trans (FrP.put (by omega) (by omega)), ?_⟩
  unfold pl0
  cases hr : t.f w == t.s w
  · refine Or.inl ⟨rfl, ?_⟩
    simp (disch := omega) only [sI_slot, sI_same]; rfl
  · refine Or.inr ⟨_, rfl, ?_, ?_, ?_, ⟨fun _ => ?_, fun x hx => absurd hx (by simp [Mv.ch, Mv.mk])⟩, ?_, ?_, fun j hj => absurd hj (Nat.not_lt_zero j)⟩
    · simp (disch := omega) only [sI_slot, sI_same]; rfl
    · simp (disch := omega) only [sI_slot]; exact ps.1
    · exact sI_same _ _ _ _
    · simp (disch := omega) only [sI_slot]; exact ps.2.2.1.1 rfl
    · simp (disch := omega) only [sI_slot]; exact ps.2.2.2.1
    · simp (disch := omega) only [sI_slot]; exact ps.2.2.2.2.1
theorem v_planParallel (r : RN σ t) (i : IN t) (hN : 100 ≤ N) {w : Nat} (hw : w < 20) (hwr : t.wr.testBit w = true) (h0 : σ.1 29 0 = 0) (ps : PS σ (Mv.mk 0 0 none 0 [])) : ∃ s, f_X3_planParallel N σ (nI w) = some s ∧ PO σ s (pl1 t w) := by
  have hf := i.fb w
  have hs := i.sb w
  have he : fsP (fun x => btw t (t.f w) (t.s w) x && !(decide (nI x = nI w))) 20 0 = othW t w := fsP_congr (fun x _ hx => by
    congr 2
    by_cases e : x = w
    · rw [e, decide_eq_true rfl]; simp
    · rw [decide_eq_false (fun z => e ((nI_eq (by omega) (by omega)).mp z)), beq_false_of_ne e])
  unfold f_X3_planParallel
  rw [v_firstOf r hw, bP_s, v_secondOf r hw, bP_s, v_lowestBetween r i hN hf hs, he, bP_s, v_isRing r i hw, bP_s, if_bI0]
  unfold pl1 oI
  cases hr : t.f w == t.s w
  · simp only [Bool.false_eq_true, if_false, Bool.not_false, Bool.true_and]
    obtain ⟨q1, q2, q3, q4⟩ := fsP_spec (fun x => btw t (t.f w) (t.s w) x && !(x == w)) 20 0
    by_cases ho : othW t w < 20
    · have hb := q4 ho
      rw [Bool.and_eq_true] at hb
      have hbw := hb.1
      unfold btw at hbw
      rw [Bool.and_eq_true] at hbw
      have hwo := bit_lt i.wr hbw.2
      have hww := bit_lt i.wr hwr
      have hwo' : othW t w < t.nW := hwo
      have c1 := i.cb _ hwr
      have c2 := i.cb _ hbw.2
      have c2' : 1 ≤ t.c (othW t w) ∧ t.c (othW t w) ≤ 60 := c2
      have r5 : RN (sI σ 29 3 (nI w)) t := r.same (fun p _ hp => sI_place (by omega))
      rw [if_pos ho, if_neg (by rw [nI_m1 (by omega)]; exact id)]
      simp only [wI, gI]
      rw [v_conductanceOf r5 hw hww, bP_s, v_conductanceOf r5 ho hwo', bP_s, nI_add, v_setOf (by omega), bP_s, sI_slot (by omega), sI_same, v_isCond, bP_s, zb_bI, decide_eq_true ho, Bool.true_and, decide_eq_false (show ¬ nI (t.c w + t.c (othW t w)) < 1 from nI_nlt (b := 1) (by omega) (by omega)), Bool.not_false, Bool.true_and]
      refine ⟨_, rfl, (FrP.put (by omega) (by omega)).trans ((FrP.put (by omega) (by omega)).trans ((FrP.put (by omega) (by omega)).trans (FrP.put (by omega) (by omega)))), ?_⟩
      by_cases h60 : t.c w + t.c (othW t w) ≤ 60
      · rw [decide_eq_true h60, decide_eq_false (show ¬ (60 : Int32) < nI (t.c w + t.c (othW t w)) from nI_nlt (a := 60) h60 (by omega))]
        refine Or.inr ⟨_, rfl, ?_, ?_, ?_, ⟨fun h => absurd h (by simp [Mv.ch, Mv.mk]), fun x hx => ?_⟩, ?_, ?_, fun j hj => absurd hj (Nat.not_lt_zero j)⟩
        · rw [sI_same]; rfl
        · simp (disch := omega) only [sI_slot]; exact ps.1
        · simp (disch := omega) only [sI_slot, sI_same]; rfl
        · have hx' : some (w, t.c w + t.c (othW t w)) = some x := hx
          simp only [Option.some.injEq] at hx'
          subst hx'
          simp (disch := omega) only [sI_slot, sI_same]
          exact ⟨trivial, trivial⟩
        · simp (disch := omega) only [sI_slot]; exact ps.2.2.2.1
        · simp (disch := omega) only [sI_slot]; exact ps.2.2.2.2.1
      · rw [decide_eq_false h60, decide_eq_true (show (60 : Int32) < nI (t.c w + t.c (othW t w)) from nI_lt (a := 60) (by omega) (by omega))]
        refine Or.inl ⟨rfl, ?_⟩
        rw [sI_same]; rfl
    · rw [if_neg ho, if_pos rfl, decide_eq_false ho]
      exact ⟨σ, rfl, PO.none (FrP.rfl' σ) h0 rfl⟩
  · simp only [if_true]
    exact ⟨σ, rfl, PO.none (FrP.rfl' σ) h0 rfl⟩
theorem v_planSpike (r : RN σ t) (i : IN t) (hN : 100 ≤ N) {v : Nat} (hv : v < 7) (h0 : σ.1 29 0 = 0) (ps : PS σ (Mv.mk 0 0 none 0 [])) : ∃ s, f_X3_planSpike N σ (nI v) = some s ∧ PO σ s (pl2 t v) := by
  obtain ⟨s1, e1, f1, g1, g2⟩ := v_without (N := N) r i hN hv (d := 1) (by omega) (by omega) h0 ps
  unfold f_X3_planSpike
  rw [show nI 1 = (1 : Int32) from rfl] at e1
  rw [e1, bS_s]
  refine ⟨s1, rfl, f1, ?_⟩
  unfold pl2
  cases hi : inn t v 1
  · rw [hi] at g1
    exact Or.inl ⟨rfl, g1⟩
  · rw [hi] at g1
    exact Or.inr ⟨_, rfl, g1, (g2 hi).1⟩
/-- spokes -/
theorem v_spoke {v j d : Nat} (hs : ∀ j, j < d → σ.1 33 j = nI ((la t v).getD j 0)) (hj : j < d) (hd : d ≤ 3) : f_X3_spokeAt N σ (nI j) = some (nI ((la t v).getD j 0)) := by
  unfold f_X3_spokeAt
  simp (disch := omega) only [lt0, if_false, lq3, nI_leI, if_neg, rI_n, hs j hj]
theorem v_cspoke (r : RN σ t) (i : IN t) {v j d : Nat} (hs : ∀ j, j < d → σ.1 33 j = nI ((la t v).getD j 0)) (hj : j < d) (hd : d ≤ 3) (hl : (la t v).length = d) : f_X3_conductanceOfSpoke N σ (nI j) = some (nI (lc t v j)) := by
  obtain ⟨h1, h2, -⟩ := la_in (t := t) (v := v) (j := j) (by omega)
  unfold f_X3_conductanceOfSpoke
  rw [v_spoke hs hj hd, bP_s, v_conductanceOf r h1 (bit_lt i.wr h2), bP_s]
  rfl
theorem v_across (r : RN σ t) (i : IN t) {v d x y l : Nat} (hv : v < 7) (hs : ∀ j, j < d → σ.1 33 j = nI ((la t v).getD j 0)) (hx : x < d) (hy : y < d) (hd : d ≤ 3) (hl : (la t v).length = d) (hl0 : 0 < l) (hl31 : l < 2 ^ 31)
    {ng wg nn : Nat} {ch : Option (Nat × Nat)} {L : List (Nat × Nat × Nat)} (hL : L.length < 3) (ps : PS σ (Mv.mk ng wg ch nn L)) :
    ∃ σ', f_X3_bringAcross N σ (nI v) (nI x) (nI y) (nI l) = some σ' ∧ PS σ' (Mv.mk ng wg ch nn (if whl (lc t v x * lc t v y) l = true then L ++ [(fa t v x, fa t v y, lc t v x * lc t v y / l)] else L)) ∧ σ'.1 29 0 = (if whl (lc t v x * lc t v y) l = true then σ.1 29 0 else 0) ∧ FrP σ σ' ∧ σ'.1 33 = σ.1 33 := by
  obtain ⟨a1, a2, -⟩ := la_in (t := t) (v := v) (j := x) (by omega)
  obtain ⟨b1, b2, -⟩ := la_in (t := t) (v := v) (j := y) (by omega)
  have c1 := lc_b i (v := v) (j := x) (by omega)
  have c2 := lc_b i (v := v) (j := y) (by omega)
  have hm := mul60 c1.2 c2.2
  obtain ⟨s', e1, g1, g2, g3, g4⟩ := v_bring (N := N) hL ps (a := fa t v x) (b := fa t v y) (u := lc t v x * lc t v y) (l := l) (by omega) hl0 hl31
  refine ⟨s', ?_, g1, g2, g3, g4⟩
  unfold f_X3_bringAcross
  rw [v_cspoke r i hs hx hd hl, bP_s, v_cspoke r i hs hy hd hl, bP_s, v_spoke hs hx hd, v_spoke hs hy hd]
  simp only [lI, bP_s]
  rw [v_farEndOf r i a1 hv, v_farEndOf r i b1 hv]
  simp only [bP_s, pk_mul]
  rw [show t.far ((la t v).getD x 0) v = fa t v x from rfl, show t.far ((la t v).getD y 0) v = fa t v y from rfl, e1, bP_s]
theorem inn_len {v d : Nat} (h : inn t v d = true) : (la t v).length = d := by
  unfold inn at h
  rw [Bool.and_eq_true, Bool.and_eq_true, beq_iff_eq] at h
  exact h.2.1
theorem v_planSeries (r : RN σ t) (i : IN t) (hN : 100 ≤ N) {v : Nat} (hv : v < 7) (h0 : σ.1 29 0 = 0) (ps : PS σ (Mv.mk 0 0 none 0 [])) : ∃ s, f_X3_planSeries N σ (nI v) = some s ∧ PO σ s (pl3 t v) := by
  obtain ⟨s1, e1, f1, g1, g2⟩ := v_without (N := N) r i hN hv (d := 2) (by omega) (by omega) h0 ps
  unfold f_X3_planSeries pl3
  rw [show nI 2 = (2 : Int32) from rfl] at e1
  rw [e1, bS_s, if_bI0]
  cases hi : inn t v 2
  · rw [hi] at g1
    rw [if_neg (by decide)]
    exact ⟨s1, rfl, PO.none f1 g1 rfl⟩
  · rw [hi] at g1
    obtain ⟨ps1, sp1⟩ := g2 hi
    have hl := inn_len hi
    have r1 := f1.RN r
    have c0 := lc_b i (v := v) (j := 0) (by omega)
    have c1 := lc_b i (v := v) (j := 1) (by omega)
    have k0 : f_X3_conductanceOfSpoke N s1 0 = some (nI (lc t v 0)) := v_cspoke (j := 0) r1 i sp1 (by omega) (by omega) hl
    have k1 : f_X3_conductanceOfSpoke N s1 1 = some (nI (lc t v 1)) := v_cspoke (j := 1) r1 i sp1 (by omega) (by omega) hl
    obtain ⟨s2, e2, l1, l2, l3, l4⟩ := v_across (N := N) r1 i (x := 0) (y := 1) (l := lc t v 0 + lc t v 1) hv sp1 (by omega) (by omega) (by omega) hl (by omega) (by omega) (by simp) ps1
    have e2' : f_X3_bringAcross N s1 (nI v) 0 1 (nI (lc t v 0 + lc t v 1)) = some s2 := e2
    rw [if_pos rfl, k0, bP_s, k1, bP_s]
    simp only [lI, nI_add]
    rw [e2', bP_s, Bool.true_and]
    refine ⟨s2, rfl, f1.trans l3, ?_⟩
    cases hw : whl (lc t v 0 * lc t v 1) (lc t v 0 + lc t v 1)
    · rw [hw] at l2
      exact Or.inl ⟨rfl, l2⟩
    · rw [hw] at l1 l2
      exact Or.inr ⟨_, rfl, l2.trans g1, l1⟩
theorem v_planTriangle (r : RN σ t) (i : IN t) (hN : 100 ≤ N) {v : Nat} (hv : v < 7) (h0 : σ.1 29 0 = 0) (ps : PS σ (Mv.mk 0 0 none 0 [])) : ∃ s, f_X3_planTriangle N σ (nI v) = some s ∧ PO σ s (pl4 t v) := by
  obtain ⟨s1, e1, f1, g1, g2⟩ := v_without (N := N) r i hN hv (d := 3) (by omega) (by omega) h0 ps
  unfold f_X3_planTriangle pl4
  rw [show nI 3 = (3 : Int32) from rfl] at e1
  rw [e1, bS_s, if_bI0]
  cases hi : inn t v 3
  · rw [hi] at g1
    rw [if_neg (by decide)]
    exact ⟨s1, rfl, PO.none f1 g1 rfl⟩
  · rw [hi] at g1
    obtain ⟨ps1, sp1⟩ := g2 hi
    have hl := inn_len hi
    have r1 := f1.RN r
    have c0 := lc_b i (v := v) (j := 0) (by omega)
    have c1 := lc_b i (v := v) (j := 1) (by omega)
    have c2 := lc_b i (v := v) (j := 2) (by omega)
    have hsm : sm3 t v = lc t v 0 + lc t v 1 + lc t v 2 := rfl
    have k0 : f_X3_conductanceOfSpoke N s1 0 = some (nI (lc t v 0)) := v_cspoke (j := 0) r1 i sp1 (by omega) (by omega) hl
    have k1 : f_X3_conductanceOfSpoke N s1 1 = some (nI (lc t v 1)) := v_cspoke (j := 1) r1 i sp1 (by omega) (by omega) hl
    have k2 : f_X3_conductanceOfSpoke N s1 2 = some (nI (lc t v 2)) := v_cspoke (j := 2) r1 i sp1 (by omega) (by omega) hl
    obtain ⟨s2, e2, l1, l2, l3, l4⟩ := v_across (N := N) r1 i (x := 0) (y := 1) (l := sm3 t v) hv sp1 (by omega) (by omega) (by omega) hl (by omega) (by omega) (by simp) ps1
    have sp2 : ∀ j, j < 3 → s2.1 33 j = nI ((la t v).getD j 0) := fun j hj => by rw [l4]; exact sp1 j hj
    obtain ⟨s3, e3, m1, m2, m3, m4⟩ := v_across (N := N) (l3.RN r1) i (x := 0) (y := 2) (l := sm3 t v) hv sp2 (by omega) (by omega) (by omega) hl (by omega) (by omega) len1 l1
    have sp3 : ∀ j, j < 3 → s3.1 33 j = nI ((la t v).getD j 0) := fun j hj => by rw [m4]; exact sp2 j hj
    obtain ⟨s4, e4, n1, n2, n3, n4⟩ := v_across (N := N) (m3.RN (l3.RN r1)) i (x := 1) (y := 2) (l := sm3 t v) hv sp3 (by omega) (by omega) (by omega) hl (by omega) (by omega) len2 m1
    have e2' : f_X3_bringAcross N s1 (nI v) 0 1 (nI (lc t v 0 + lc t v 1 + lc t v 2)) = some s2 := e2
    have e3' : f_X3_bringAcross N s2 (nI v) 0 2 (nI (lc t v 0 + lc t v 1 + lc t v 2)) = some s3 := e3
    have e4' : f_X3_bringAcross N s3 (nI v) 1 2 (nI (lc t v 0 + lc t v 1 + lc t v 2)) = some s4 := e4
    rw [if_pos rfl, k0, bP_s, k1, bP_s, k2, bP_s]
    simp only [lI, nI_add]
    rw [e2', bP_s, e3', bP_s, e4', bP_s, Bool.true_and]
    refine ⟨s4, rfl, ?_⟩
    rw [m2, l2, g1] at n2
    exact threeB (f1.trans (l3.trans (m3.trans n3))) n1 n2
theorem v_second (r : RN σ t) (i : IN t) (hN : 100 ≤ N) {w : Nat} (hw : w < 20) : f_X3_secondOfTriangle N σ (nI w) = some (oI (sec t w) 20) := by
  have ha := i.fb w
  have hb := i.sb w
  have go : ∀ d k n, k + d = 20 → d < n → fl_X3_secondOfTriangle_21 N σ (nI (t.f w)) (nI (t.s w)) (fun (_ : Unit) => some (-1)) n (nI k) = some (oI (fsP (s2B t (t.f w) (t.s w)) d k) 20) := by
    intro d
    induction d with
    | zero =>
      intro k n hk hn
      obtain ⟨n, rfl⟩ : ∃ m, n = m + 1 := ⟨n - 1, by omega⟩
      rw [fl_X3_secondOfTriangle_21, show k = 20 by omega, lq20, if_pos (nI_le (Nat.le_refl _) (by omega))]
      rfl
    | succ d ih =>
      intro k n hk hn
      obtain ⟨n, rfl⟩ : ∃ m, n = m + 1 := ⟨n - 1, by omega⟩
      have hfar := far_lt i k (t.f w)
      have e0 : fsP (s2B t (t.f w) (t.s w)) (d + 1) k = if s2B t (t.f w) (t.s w) k = true then k else fsP (s2B t (t.f w) (t.s w)) d (k + 1) := rfl
      have ih' := ih (k + 1) n (by omega) (by omega)
      rw [fl_X3_secondOfTriangle_21, e0]
      simp (disch := omega) only [lq20, nI_leI, if_neg, jn_e, nI_1, nI_eq]
      unfold s2B at ih' ⊢
      rw [ih', v_hasWire r i, bP_s, if_bI0, inS_n (by omega), v_isAt r i (by omega) ha, bP_s, if_bI0, v_farEndOf r i (by omega) ha, bP_s]
      simp (disch := omega) only [nI_eq]
      by_cases q1 : t.f w = t.s w
      · rw [if_pos q1, beq_iff_eq.mpr q1]; rfl
      · rw [if_neg q1, beq_false_of_ne q1]
        cases q2 : t.wr.testBit k
        · rfl
        · cases q3 : (t.f k == t.f w || t.s k == t.f w)
          · rfl
          · simp only [if_true]
            by_cases q4 : t.far k (t.f w) = t.f w
            · rw [if_pos q4, beq_iff_eq.mpr q4]; rfl
            · rw [if_neg q4, beq_false_of_ne q4]
              by_cases q5 : t.far k (t.f w) = t.s w
              · rw [if_pos q5, beq_iff_eq.mpr q5]; rfl
              · rw [if_neg q5, beq_false_of_ne q5, v_lb0 r i hN hb hfar, bP_s]
                cases q6 : jnd t (t.s w) (t.far k (t.f w))
                · rw [oI_no q6, if_pos rfl]
                  rfl
                · have hl := jnd_fsP.mp q6
                  rw [oI_yes q6, if_neg (by rw [nI_m1 (by omega)]; exact id)]
                  simp only [Bool.not_false, Bool.and_self, if_true]
                  exact congrArg some (if_pos (show k < 20 by omega)).symm
  unfold f_X3_secondOfTriangle
  rw [v_firstOf r hw, bP_s, v_secondOf r hw, bP_s]
  exact go 20 0 N (by omega) (by omega)
/-- what holds of the second and third wire -/
theorem sec_in {w : Nat} (h : sec t w < 20) : ¬ t.f w = t.s w ∧ t.wr.testBit (sec t w) = true ∧ (t.f (sec t w) = t.f w ∨ t.s (sec t w) = t.f w) ∧ ¬ t.far (sec t w) (t.f w) = t.f w ∧ ¬ t.far (sec t w) (t.f w) = t.s w ∧ thd t w < 20 ∧ t.wr.testBit (thd t w) = true ∧ ends t (t.s w) (t.far (sec t w) (t.f w)) (thd t w) = true := by
  obtain ⟨q1, q2, q3, q4⟩ := fsP_spec (s2B t (t.f w) (t.s w)) 20 0
  have hs : s2B t (t.f w) (t.s w) (sec t w) = true := q4 h
  unfold s2B at hs
  rw [Bool.and_eq_true, Bool.and_eq_true, Bool.and_eq_true, Bool.and_eq_true, Bool.and_eq_true, Bool.or_eq_true, Bool.not_eq_true', Bool.not_eq_true', Bool.not_eq_true', beq_iff_eq, beq_iff_eq, beq_eq_false_iff_ne, beq_eq_false_iff_ne, beq_eq_false_iff_ne] at hs
  obtain ⟨a1, a2, a3, a4, a5, a6⟩ := hs
  have hl := jnd_fsP.mp a6
  obtain ⟨p1, p2, p3, p4⟩ := fsP_spec (btw t (t.s w) (t.far (sec t w) (t.f w))) 20 0
  have hb := p4 (by omega)
  unfold btw at hb
  rw [Bool.and_eq_true] at hb
  exact ⟨a1, a2, a3, a4, a5, hl, hb.2, hb.1⟩
theorem v_planStar (r : RN σ t) (i : IN t) (hN : 100 ≤ N) {w : Nat} (hw : w < 20) (hwr : t.wr.testBit w = true) (h0 : σ.1 29 0 = 0) (ps : PS σ (Mv.mk 0 0 none 0 [])) : ∃ s, f_X3_planStar N σ (nI w) = some s ∧ PO σ s (pl5 t w) := by
  have ha := i.fb w
  have hb := i.sb w
  have hnN := i.nN
  unfold f_X3_planStar pl5
  rw [v_firstOf r hw, bP_s, v_secondOf r hw, bP_s, v_second r i hN hw, bP_s]
  by_cases hs : sec t w < 20
  · obtain ⟨a1, a2, a3, a4, a5, a6, a7, a8⟩ := sec_in hs
    have hfar := far_lt i (sec t w) (t.f w)
    have c1 := i.cb _ hwr
    have c2 := i.cb _ a2
    have c3 := i.cb _ a7
    have m1 := mul60 c1.2 c2.2
    have m2 := mul60 c1.2 c3.2
    have m3 := mul60 c2.2 c3.2
    have hprs : prs t w = t.c w * t.c (sec t w) + t.c w * t.c (thd t w) + t.c (sec t w) * t.c (thd t w) := rfl
    have o1 : oI (sec t w) 20 = nI (sec t w) := if_pos hs
    have o2 : oI (fsP (btw t (t.s w) (t.far (sec t w) (t.f w))) 20 0) 20 = nI (thd t w) := if_pos a6
    rw [o1, if_neg (by rw [nI_m1 (by omega)]; exact id), v_farEndOf r i hs ha, bP_s, v_lb0 r i hN hb hfar, o2, bP_s, v_conductanceOf r hw (bit_lt i.wr hwr), bP_s, v_conductanceOf r hs (bit_lt i.wr a2), bP_s, v_conductanceOf r a6 (bit_lt i.wr a7), bP_s, v_setOf (by omega), v_setOf (by omega), v_setOf (by omega)]
    simp only [lI, bP_s, wI, gI, pk_mul, nI_add, fa_or]
    rw [show (1 : Int32) = bI true from rfl, zb_bI, ← hprs]
    have fr0 : FrP σ (sI (sI (sI σ 29 0 (bI true)) 29 2 (nI ((2 ^ w ||| 2 ^ sec t w) ||| 2 ^ thd t w))) 29 5 (bI true)) := (FrP.put (by omega) (by omega)).trans ((FrP.put (by omega) (by omega)).trans (FrP.put (by omega) (by omega)))
    generalize hs15 : sI (sI (sI σ 29 0 (bI true)) 29 2 (nI ((2 ^ w ||| 2 ^ sec t w) ||| 2 ^ thd t w))) 29 5 (bI true) = s15 at fr0
    have ps15 : PS s15 (Mv.mk 0 ((2 ^ w ||| 2 ^ sec t w) ||| 2 ^ thd t w) none 1 []) := by
      rw [← hs15]
      refine ⟨?_, ?_, ⟨fun _ => ?_, fun x hx => absurd hx (by simp [Mv.ch, Mv.mk])⟩, ?_, ?_, fun j hj => absurd hj (Nat.not_lt_zero j)⟩
      · simp (disch := omega) only [sI_slot]; exact ps.1
      · simp (disch := omega) only [sI_slot, sI_same]; rfl
      · simp (disch := omega) only [sI_slot]; exact ps.2.2.1.1 rfl
      · exact sI_same _ _ _ _
      · simp (disch := omega) only [sI_slot]; exact ps.2.2.2.2.1
    have h15 : s15.1 29 0 = 1 := by rw [← hs15]; simp (disch := omega) only [sI_slot, sI_same]; rfl
    have r15 := fr0.RN r
    obtain ⟨s17, e1, l1, l2, l3, l4⟩ := v_bring (N := N) (by simp) ps15 (a := t.f w) (b := t.nN) (u := prs t w) (l := t.c (thd t w)) (by omega) (by omega) (by omega)
    have r17 := l3.RN r15
    obtain ⟨s19, e2, n1, n2, n3, n4⟩ := v_bring (N := N) len1 l1 (a := t.s w) (b := t.nN) (u := prs t w) (l := t.c (sec t w)) (by omega) (by omega) (by omega)
    have r19 := n3.RN r17
    obtain ⟨s22, e3, k1, k2, k3, k4⟩ := v_bring (N := N) len2 n1 (a := t.far (sec t w) (t.f w)) (b := t.nN) (u := prs t w) (l := t.c w) (by omega) (by omega) (by omega)
    rw [r15.nN, e1, bP_s, r17.nN, e2, bP_s, v_farEndOf r19 i hs ha, bP_s, r19.nN, e3, bP_s, decide_eq_true hs, Bool.true_and]
    refine ⟨s22, rfl, ?_⟩
    rw [n2, l2, h15] at k2
    exact threeB (fr0.trans (l3.trans (n3.trans k3))) k1 k2
  · have o1 : oI (sec t w) 20 = -1 := if_neg hs
    rw [o1, if_pos rfl, decide_eq_false hs]
    exact ⟨σ, rfl, PO.none (FrP.rfl' σ) h0 rfl⟩
end kinds
