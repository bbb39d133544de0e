/-! UNDO, class and law. -/
section undo
variable {N L : Nat} {xs : Nat → Int32} {γ : Wd} {x14 x15 x16 : Int32} {σ ν : Wd} {mk : Int32} {t : Nt}
/-- the moves of the log, once more -/
theorem s889 {ρ : Type} {K : Int32 → Wd → Option ρ} {net : Nat → Nt} {lg : Nat → Nat × Nat} {left : Nat} (hl : left ≤ 18) (hD : ∀ k, k < left → Dn N (net k) (lg k).1 (lg k).2 (net (k + 1))) : ∀ d k n (s : Wd), k + d = left → d < n → RQ s (net k) → (∀ j, j < left → s.1 8 j = nI (32 * (lg j).1 + (lg j).2)) →
    ∃ s', fl_L_law_889 N L xs γ x14 x15 x16 (nI left) K n 1 (nI k) s = K 1 s' ∧ RQ s' (net left) ∧ (∀ p, 3 < p → s'.1 p = s.1 p) ∧ s'.2 = s.2 := by
  intro d
  induction d with
  | zero =>
    intro k n s hk hn r _
    obtain ⟨n, rfl⟩ : ∃ m, n = m + 1 := ⟨n - 1, by omega⟩
    refine ⟨s, ?_, by rw [show left = k by omega]; exact r, fun _ _ => rfl, rfl⟩
    rw [fl_L_law_889, if_pos (nI_le (by omega) (by omega))]
  | succ d ih =>
    intro k n s hk hn r hs
    obtain ⟨n, rfl⟩ : ∃ m, n = m + 1 := ⟨n - 1, by omega⟩
    obtain ⟨h5, h20, hd⟩ := hD k (by omega)
    obtain ⟨s1, e1, r1, f1⟩ := hd s r
    obtain ⟨s2, e2, r2, f2, g2⟩ := ih (k + 1) n s1 (by omega) (by omega) r1 (fun j hj => by rw [f1.2.1 8 (by omega)]; exact hs j hj)
    refine ⟨s2, ?_, r2, fun p hp => (f2 p hp).trans (f1.2.1 p hp), g2.trans f1.1⟩
    have q1 : (32 * (lg k).1 + (lg k).2) / 32 = (lg k).1 := by omega
    have q2 : (32 * (lg k).1 + (lg k).2) % 32 = (lg k).2 := by omega
    rw [fl_L_law_889, if_neg (nI_ge (by omega) (by omega)), ck_s (by omega), rI_n (by omega) (by omega), hs k (by omega), show (32 : Int32) = nI 32 from rfl, dIn (by omega) (by omega) (by omega), q1, rI_n (by omega) (by omega), hs k (by omega), mIn (by omega) (by omega) (by omega), q2, e1, bS_s]
    simp only [lI]
    rw [show (1 : Int32) &&& 1 = 1 by decide, nI_1]
    exact e2
/-- what the class's call leaves -/
theorem l_undoC (h : RT N σ ν mk t True) {j : Nat} (hj : σ.1 28 9 = nI (j + 1)) (hj18 : j ≤ 17) {s : Sn} (c1 : σ.1 34 j = nI s.nd) (c2 : σ.1 35 j = nI s.wr) (c3 : σ.1 36 j = nI s.nN) (c4 : σ.1 37 j = nI s.nW) (hs20 : s.nW ≤ 20) (st : KStp σ j s t.nW t.c) :
    ∃ s', f_L_undo N σ = some (nI j, s') ∧ RN s' (s.at t) ∧ s'.1 28 9 = nI j ∧ (∀ p, 34 ≤ p → s'.1 p = σ.1 p) ∧ s'.2 = σ.2 := by
  have h1 := h.1
  have hhow : ∀ s : Wd, f_X3_howMany N s = some (s.1 28 9) := fun s => rfl
  obtain ⟨st1, st2⟩ := st
  have hcl : ∃ s', f_X3_takeBack N σ = some s' ∧ RN s' (s.at t) ∧ s'.1 28 9 = nI j ∧ (∀ p, 34 ≤ p → s'.1 p = σ.1 p) ∧ s'.2 = σ.2 := by
    unfold f_X3_takeBack
    simp only [gI, wI, hj]
    rw [if_neg (show ¬ nI (j + 1) ≤ 0 from nI_nle (by omega) (by omega)), if_pos (show nI (j + 1) ≤ 20 from nI_le (b := 20) (by omega) (by omega)), nI_pred]
    simp (disch := omega) only [sI_same, sI_place, sI_slot, rI_n, c1, c2, c3, c4, hj]
    have base : ∀ s0 : Wd, s0.1 1 0 = nI s.nd → s0.1 1 1 = σ.1 1 1 → s0.1 1 2 = nI s.wr → s0.1 1 3 = nI s.nN → s0.1 1 4 = nI s.nW → s0.1 2 = σ.1 2 → s0.1 3 = σ.1 3 → (∀ w, w < s.nW → s0.1 4 w = nI (s.c w)) → RN s0 (s.at t) := fun s0 q0 q1 q2 q3 q4 q5 q6 q7 =>
      ⟨q0, q1.trans h1.ed, q2, q3, q4, fun w hw => by rw [q5]; exact h1.f w hw, fun w hw => by rw [q6]; exact h1.s w hw, q7⟩
    rcases st2 with ⟨e1, e2⟩ | ⟨w0, hw0, e1, e2, e3⟩
    · rw [e1, v_setCond1, bP_s]
      refine ⟨_, rfl, base _ ?_ ?_ ?_ ?_ ?_ ?_ ?_ (fun w hw => ?_), ?_, fun p hp => ?_, rfl⟩
      · simp (disch := omega) only [sI_same, sI_slot, sI_place]
      · simp (disch := omega) only [sI_same, sI_slot, sI_place]
      · simp (disch := omega) only [sI_same, sI_slot, sI_place]
      · simp (disch := omega) only [sI_same, sI_slot, sI_place]
      · simp (disch := omega) only [sI_same, sI_slot, sI_place]
      · simp (disch := omega) only [sI_same, sI_slot, sI_place]
      · simp (disch := omega) only [sI_same, sI_slot, sI_place]
      · simp (disch := omega) only [sI_same, sI_slot, sI_place]
        rw [e2 w hw]; exact h1.c w (by omega)
      · simp (disch := omega) only [sI_same, sI_slot, sI_place]
      · simp (disch := omega) only [sI_same, sI_slot, sI_place]
    · rw [e1, v_setCond (by omega), bP_s]
      refine ⟨_, rfl, base _ ?_ ?_ ?_ ?_ ?_ ?_ ?_ (fun w hw => ?_), ?_, fun p hp => ?_, rfl⟩
      · simp (disch := omega) only [sI_same, sI_slot, sI_place]
      · simp (disch := omega) only [sI_same, sI_slot, sI_place]
      · simp (disch := omega) only [sI_same, sI_slot, sI_place]
      · simp (disch := omega) only [sI_same, sI_slot, sI_place]
      · simp (disch := omega) only [sI_same, sI_slot, sI_place]
      · simp (disch := omega) only [sI_same, sI_slot, sI_place]
      · simp (disch := omega) only [sI_same, sI_slot, sI_place]
      · by_cases e : w = w0
        · subst e; rw [sI_same, e2]
        · simp (disch := omega) only [sI_same, sI_slot, sI_place]
          rw [e3 w hw e]; exact h1.c w (by omega)
      · simp (disch := omega) only [sI_same, sI_slot, sI_place]
      · simp (disch := omega) only [sI_same, sI_slot, sI_place]
  obtain ⟨s', e1, rn, g1, g2, g3⟩ := hcl
  refine ⟨s', ?_, rn, g1, g2, g3⟩
  have hne : ¬ nI (j + 1) = 0 := fun z => absurd ((nI_eq (b := 0) (by omega) (by omega)).mp z) (by omega)
  unfold f_L_undo f_X7_undo
  rw [hhow, bP_s, hj, if_neg hne, e1, bP_s, hhow, bP_s, g1]
  rfl
theorem l_undo0 (h : σ.1 28 9 = nI 0) : f_L_undo N σ = some (-7300, σ) := by
  have hhow : ∀ s : Wd, f_X3_howMany N s = some (s.1 28 9) := fun s => rfl
  unfold f_L_undo f_X7_undo
  rw [hhow, bP_s, h, if_pos (show nI 0 = 0 from rfl)]
  rfl
/-- undo -/
theorem l_undo (h : RT N σ ν mk t True) (hN : 100 ≤ N) {x15 v1 v2 : Int32} (J : Int32 → Int32 → Wd → Wd → Option Unit) : ∃ s s' t', tnU N L xs mk x15 v1 v2 σ ν J = J mk 1 s s' ∧ RT N s s' mk t' False ∧ t'.ed = t.ed := by
  obtain ⟨h1, h2, i, h4, ⟨mE, a1, a2, a3, a4⟩, m, sn, k1, k2, k3, k4, k5⟩ := id h
  have hw := i.nW
  have hm : m ≤ 18 := by omega
  have r5 : ∀ {ρ : Type} (K : Int32 → Option ρ), rI ν 0 6 5 K = K (nI m) := fun K => by rw [show (5 : Int32) = nI 5 from rfl, rI_n (by omega) (by omega), k2]
  unfold tnU
  simp only [jn_p, r5]
  by_cases q : m = 0
  · rw [q] at k1 ⊢
    rw [l_undo0 k1, bS_s]
    rw [if_pos (show nI 0 = 0 from rfl), if_pos rfl, if_pos (show nI 0 = 0 from rfl)]
    exact ⟨σ, ν, t, rfl, h.weak, rfl⟩
  · obtain ⟨j, rfl⟩ : ∃ j, m = j + 1 := ⟨m - 1, by omega⟩
    have hne : ¬ nI (j + 1) = 0 := fun z => q ((nI_eq (b := 0) (by omega) (by omega)).mp z)
    obtain ⟨b1, b2, ⟨c1, c2, c3, c4⟩, b4, b5⟩ := k5 j (by omega)
    rw [if_neg (by omega)] at b5
    have hs20 : (sn j).nW ≤ 20 := b2.nW
    obtain ⟨s1, e1, rn, g1, g2, g3⟩ := l_undoC (N := N) h k1 (by omega) c1 c2 c3 c4 hs20 b5
    rw [e1, bS_s, if_neg hne, if_neg hne, if_neg hne, nI_pred, if_pos rfl]
    simp only [lI]
    -- the networks on the way
    have nxe : ∀ x, x ≤ j → nx ((sn j).at t) sn j x = nx t sn (j + 1) x := fun x hx => by
      unfold nx
      rw [if_pos (show x < j + 1 by omega)]
      by_cases e : x < j
      · rw [if_pos e]; rfl
      · rw [if_neg e, show x = j by omega]
    have hnx0 : IN (nx t sn (j + 1) 0) := by
      unfold nx
      rw [if_pos (by omega)]
      exact (k5 0 (by omega)).2.1
    have hRB := k4 (Or.inl trivial)
    have hlog : ∃ lg : Nat → Nat × Nat, ∀ x, x < j + 1 → ν.1 8 x = nI (32 * (lg x).1 + (lg x).2) ∧ Dn N (nx t sn (j + 1) x) (lg x).1 (lg x).2 (nx t sn (j + 1) (x + 1)) := by
      have := fun x (hx : x < j + 1) => (k5 x hx).2.2.2.1
      refine ⟨fun x => if hx : x < j + 1 then (Classical.choose (this x hx), Classical.choose (Classical.choose_spec (this x hx))) else (0, 0), fun x hx => ?_⟩
      simp only [dif_pos hx]
      exact Classical.choose_spec (Classical.choose_spec (this x hx))
    obtain ⟨lg, hlg⟩ := hlog
    obtain ⟨u1, e2, r1, f1, f1'⟩ := cp_back (N := N) hN hRB hnx0 (fun s175 => fl_L_law_889 N L xs s1 mk x15 v1 (nI j) (fun v183 s184 => aI s184 0 6 5 (nI j) fun s185 => J mk v183 s1 s185) 25 1 0 s175)
    obtain ⟨u2, e3, r2, f2, f2'⟩ := s889 (N := N) (L := L) (xs := xs) (γ := s1) (x14 := mk) (x15 := x15) (x16 := v1) (K := fun v183 s184 => aI s184 0 6 5 (nI j) fun s185 => J mk v183 s1 s185) (net := fun x => nx t sn (j + 1) x) (lg := lg) (left := j) (by omega) (fun k hk => (hlg k (by omega)).2) j 0 25 u1 (by omega) (by omega) r1 (fun x hx => by rw [f1 8 (by omega)]; exact (hlg x (by omega)).1)
    have hlast : nx t sn (j + 1) j = (sn j).at t := if_pos (by omega)
    refine ⟨s1, sI u2 0 5 (nI j), (sn j).at t, ?_, ⟨rn, ?_, b2, fun x hx => ?_, ⟨mE, ?_, a2, a3, fun x y hxy hy hx' hy' => ?_⟩, j, sn, g1, sI_same _ _ _ _, b1, fun _ => ?_, fun x hx => ?_⟩, rfl⟩
    · refine e2.trans (e3.trans ?_)
      show (aI u2 0 6 (nI 5) (nI j) fun s185 => J mk 1 s1 s185) = _
      rw [aI_n (by omega) (by omega)]
    · have r2' : RQ u2 ((sn j).at t) := by
        have := r2
        simp only [hlast] at this
        exact this
      exact r2'.same (fun k hk => sI_slot (by omega)) (fun p hp hq => sI_place (by omega))
    · rw [g2 57 (by omega), sI_place (by omega), f2 9 (by omega), f1 9 (by omega)]; exact h4 x hx
    · rw [g2 40 (by omega)]; exact a1
    · rw [g3]
      show _ = u2.2 10 _ ∧ _ = u2.2 11 _
      rw [f2', f1']; exact a4 x y hxy hy hx' hy'
    · rw [nxe 0 (Nat.zero_le _)]
      exact hRB.same (fun p hp hq => by rw [sI_place (by omega), f2 p (by omega), f1 p (by omega)])
    · obtain ⟨y1, y2, y3, ⟨kk, ww, y4, y4'⟩, y5⟩ := k5 x (by omega)
      rw [if_pos (by omega)] at y5
      have ks : ∀ z nW c, KStp σ x z nW c → KStp s1 x z nW c := fun z nW c q => by
        unfold KStp at *
        rw [g2 38 (by omega), g2 39 (by omega)]; exact q
      refine ⟨y1, y2, ?_, ⟨kk, ww, ?_, ?_⟩, ?_⟩
      · rw [g2 34 (by omega), g2 35 (by omega), g2 36 (by omega), g2 37 (by omega)]; exact y3
      · rw [sI_place (by omega), f2 8 (by omega), f1 8 (by omega)]; exact y4
      · rw [nxe x (by omega), nxe (x + 1) (by omega)]; exact y4'
      · by_cases q : x + 1 < j
        · rw [if_pos q]; exact ks _ _ _ y5
        · rw [if_neg q]
          have e : x + 1 = j := by omega
          rw [e] at y5
          exact ks _ _ _ y5
end undo
