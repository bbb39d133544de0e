/-! THE LAW'S LOOP. -/
theorem v_cell {N L : Nat} {xs : Nat → Int32} {j : Nat} (hL : L < 2 ^ 31) (hj : j < 2 ^ 31) : ∃ v, f_L_cell N L xs (nI j) = some v := by
  unfold f_L_cell
  rw [show Int32.ofNat L = nI L from rfl]
  by_cases h : L ≤ j
  · rw [if_pos (nI_le h hj)]
    exact ⟨_, rfl⟩
  · rw [if_neg (nI_ge (by omega) hL)]
    unfold sG
    rw [if_pos (inb_n (by omega) hL)]
    exact ⟨_, rfl⟩
section loop
variable {N L : Nat} {xs : Nat → Int32} {γ ν : Wd} {mk x15 v1 v2 : Int32} {t : Nt}
theorem t_tail (h : RT N γ ν mk t False) (hN : 200 ≤ N) (he : t.ed ≠ 0) {K : Wd → Wd → Option Unit} {n : Nat} : ∃ s22 s9, tnT N L xs x15 v1 K n mk 1 γ ν = fl_L_law_84 N L xs K n mk (x15 + 1) s22 s9 ∧ RT N s22 s9 mk t True := by
  have q := h.2.1
  have i := h.2.2.1
  have hW := i.nW
  -- behind the copies
  have go : ∀ s9, RT N γ s9 mk t True → ∃ s22, (bP (f_L_rest N s9) fun v10 => fl_L_law_1336 N L xs γ s9 mk x15 v1 1 v10 (fun v18 => if (1 : Int32) = 0 then none else (bS (f_X7_keeps N γ) fun v19 s20 => if v19 = v18 then (bS (f_L_isTold N s20 s9 v1) fun v21 s22 => if v21 = 0 then none else fl_L_law_84 N L xs K n mk (x15 + 1) s22 s9) else none)) 8 1 0) = fl_L_law_84 N L xs K n mk (x15 + 1) s22 s9 ∧ RT N s22 s9 mk t True := fun s9 r9 => by
    obtain ⟨v, s1, e1, f1, e2⟩ := l_keeps (N := N) (L := L) (xs := xs) (x15 := x15) (x16 := v1) (x19 := 1) r9 hN
    have r1 := r9.eq f1
    have lk : Lk s1 s9 t := ⟨r1.1, r1.2.1, i, he, r1.2.2.2.1⟩
    obtain ⟨s2, e3, f3⟩ := l_told (N := N) lk hN v1
    refine ⟨s2, ?_, r1.eq f3⟩
    rw [v_rest r9.2.1 i hN he, bP_s, e2, if_neg (by decide), e1, bS_s, if_pos rfl, e3, bS_s, if_neg (by decide)]
  obtain ⟨h1, h2, h3, h4, h5, m, sn, k1, k2, k3, k4, k5⟩ := id h
  have r5 : ∀ {ρ : Type} (K : Int32 → Option ρ), rI ν 0 6 5 K = K (nI m) := fun K => by rw [show (5 : Int32) = nI 5 from rfl, rI_n (by omega) (by omega), k2]
  unfold tnT
  rw [r5]
  simp only [jn_p]
  by_cases hm : m = 0
  · subst hm
    rw [if_pos (show nI 0 = 0 from rfl)]
    have hck := fun (K' : Wd → Option Unit) => cp_keep (N := N) (show 100 ≤ N by omega) q i K'
    obtain ⟨s9, e9, b9, p9, l9⟩ := hck (fun s26 => bP (f_L_rest N s26) fun v10 => fl_L_law_1336 N L xs γ s26 mk x15 v1 1 v10 (fun v18 => if (1 : Int32) = 0 then none else (bS (f_X7_keeps N γ) fun v19 s20 => if v19 = v18 then (bS (f_L_isTold N s20 s26 v1) fun v21 s22 => if v21 = 0 then none else fl_L_law_84 N L xs K n mk (x15 + 1) s22 s26) else none)) 8 1 0)
    have r9 : RT N γ s9 mk t True := by
      refine ⟨h1, h2.same (fun k _ => by rw [p9 0 (by omega)]) (fun p hp hq => p9 p (by omega)), h3, fun x hx => by rw [p9 9 (by omega)]; exact h4 x hx, ?_, 0, sn, k1, ?_, k3, fun _ => b9, fun j hj => absurd hj (Nat.not_lt_zero j)⟩
      · obtain ⟨mE, a1, a2, a3, a4⟩ := h5
        refine ⟨mE, a1, a2, a3, fun x y z1 z2 z3 z4 => ?_⟩
        rw [l9]; exact a4 x y z1 z2 z3 z4
      · rw [p9 0 (by omega)]; exact k2
    obtain ⟨s22, e, r⟩ := go s9 r9
    exact ⟨s22, s9, e9.trans e, r⟩
  · rw [if_neg (show ¬ nI m = 0 from fun z => hm ((nI_eq (b := 0) (by omega) (by omega)).mp z))]
    have r9 : RT N γ ν mk t True := ⟨h1, h2, h3, h4, h5, m, sn, k1, k2, k3, fun _ => k4 (Or.inr (by omega)), k5⟩
    obtain ⟨s22, e, r⟩ := go ν r9
    exact ⟨s22, ν, e, r⟩
theorem t_kind (h : RT N γ ν mk t True) (hN : 200 ≤ N) {r : Nat} (hr : r < 16) (hx : x15 = 0 → t.nN < 6 ∧ r = 0) (he : x15 ≠ 0 → t.ed ≠ 0) (J : Int32 → Int32 → Wd → Wd → Option Unit) : ∃ mk' γ' ν' t', tnK N L xs mk x15 v1 v2 γ ν (nI r) J = J mk' 1 γ' ν' ∧ RT N γ' ν' mk' t' False ∧ t'.ed ≠ 0 := by
  have q : ∀ k : Nat, k < 16 → ((nI r = nI k) ↔ r = k) := fun k hk => nI_eq (by omega) (by omega)
  have ne : ∀ k : Nat, k < 16 → r ≠ k → ¬ nI r = nI k := fun k hk h z => h ((q k hk).mp z)
  have tk : ∀ {f : Option Unit}, r ≠ 0 → TK N γ ν mk t f J → ∃ mk' γ' ν' t', f = J mk' 1 γ' ν' ∧ RT N γ' ν' mk' t' False ∧ t'.ed ≠ 0 := fun {f} h0 ht => by
    obtain ⟨a, b, c, d, e1, e2, e3⟩ := ht
    exact ⟨a, b, c, d, e1, e2, e3 (he (fun z => h0 (hx z).2))⟩
  unfold tnK
  by_cases z0 : r = 0
  · rw [if_pos (by rw [z0]; rfl)]
    obtain ⟨a, b, c, d, e1, e2, e3⟩ := k_node (N := N) (L := L) (xs := xs) (x15 := x15) (v1 := v1) (v2 := v2) (J := J) h (fun z => (hx z).1)
    refine ⟨a, b, c, d, e1, e2, e3 ?_⟩
    by_cases y : x15 = 0
    · exact Or.inr y
    · exact Or.inl (he y)
  · rw [if_neg (show ¬ nI r = 0 from ne 0 (by omega) z0)]
    by_cases z1 : r = 1
    · rw [if_pos (by rw [z1]; rfl)]
      exact tk z0 (k_wire (N := N) h (by omega))
    · rw [if_neg (show ¬ nI r = 1 from ne 1 (by omega) z1)]
      by_cases z2 : r = 2
      · rw [if_pos (by rw [z2]; rfl)]
        exact tk z0 (k_wire (N := N) h (by omega))
      · rw [if_neg (show ¬ nI r = 2 from ne 2 (by omega) z2)]
        by_cases z3 : r = 3
        · rw [if_pos (by rw [z3]; rfl)]
          exact tk z0 (k_wire (N := N) h (by omega))
        · rw [if_neg (show ¬ nI r = 3 from ne 3 (by omega) z3)]
          by_cases z4 : r = 4
          · rw [if_pos (by rw [z4]; rfl)]
            exact tk z0 (k_wire (N := N) h (by omega))
          · rw [if_neg (show ¬ nI r = 4 from ne 4 (by omega) z4)]
            by_cases z5 : r = 5
            · rw [if_pos (by rw [z5]; rfl)]
              exact tk z0 (k_value (N := N) h)
            · rw [if_neg (show ¬ nI r = 5 from ne 5 (by omega) z5)]
              by_cases z6 : r = 6
              · rw [if_pos (by rw [z6]; rfl)]
                exact tk z0 (k_simplify (N := N) h (by omega))
              · rw [if_neg (show ¬ nI r = 6 from ne 6 (by omega) z6)]
                by_cases z7 : r = 7
                · rw [if_pos (by rw [z7]; rfl)]
                  exact tk z0 (k_undo (N := N) h (by omega))
                · rw [if_neg (show ¬ nI r = 7 from ne 7 (by omega) z7)]
                  by_cases z8 : r = 8
                  · rw [if_pos (by rw [z8]; rfl)]
                    exact tk z0 (k_mark (N := N) h hN (he (fun z => z0 (hx z).2)))
                  · rw [if_neg (show ¬ nI r = 8 from ne 8 (by omega) z8)]
                    exact tk z0 (k_moves (N := N) h (by omega))
theorem t_loop (hN : 200 ≤ N) (hL : L < 2 ^ 31) {K : Wd → Wd → Option Unit} : ∀ d k n (γ ν : Wd) (mk : Int32) (t : Nt), k + d = 60 → d < n → RT N γ ν mk t True → (k = 0 → t.nN < 6) → (k ≠ 0 → t.ed ≠ 0) → ∃ γ' ν', fl_L_law_84 N L xs K n mk (nI k) γ ν = K γ' ν' := by
  intro d
  induction d with
  | zero =>
    intro k n γ ν mk t hk hn h _ _
    obtain ⟨n, rfl⟩ : ∃ m, n = m + 1 := ⟨n - 1, by omega⟩
    refine ⟨γ, ν, ?_⟩
    rw [law84_eq, lq60, if_pos (nI_le (by omega) (by omega))]
  | succ d ih =>
    intro k n γ ν mk t hk hn h h0 he
    obtain ⟨n, rfl⟩ : ∃ m, n = m + 1 := ⟨n - 1, by omega⟩
    obtain ⟨v1, e1⟩ := v_cell (N := N) (L := L) (xs := xs) (j := 2 * k) hL (by omega)
    obtain ⟨v2, e2⟩ := v_cell (N := N) (L := L) (xs := xs) (j := 2 * k + 1) hL (by omega)
    have hk0 : (nI k = 0) ↔ k = 0 := by rw [lq0]; exact nI_eq (by omega) (by omega)
    -- one turn
    have turn : ∀ r, r < 16 → (k = 0 → r = 0) → ∃ γ' ν', tnK N L xs mk (nI k) v1 v2 γ ν (nI r) (fun v4 v5 s6 s7 => tnT N L xs (nI k) v1 K n v4 v5 s6 s7) = K γ' ν' := fun r hr hr0 => by
      obtain ⟨mk', g1, n1, t1, q1, q2, q3⟩ := t_kind (N := N) (L := L) (xs := xs) (x15 := nI k) (v1 := v1) (v2 := v2) h hN hr (fun z => ⟨h0 (hk0.mp z), hr0 (hk0.mp z)⟩) (fun z => he (fun y => z (hk0.mpr y))) (fun v4 v5 s6 s7 => tnT N L xs (nI k) v1 K n v4 v5 s6 s7)
      obtain ⟨g2, n2, q4, q5⟩ := t_tail (N := N) (L := L) (xs := xs) (x15 := nI k) (v1 := v1) (K := K) (n := n) q2 hN q3
      obtain ⟨g3, n3, q6⟩ := ih (k + 1) n g2 n2 mk' t1 (by omega) (by omega) q5 (fun z => absurd z (by omega)) (fun _ => q3)
      exact ⟨g3, n3, q1.trans (q4.trans (by rw [nI_1]; exact q6))⟩
    rw [law84_eq, lq60, if_neg (nI_ge (by omega) (by omega)), ck_s (by omega), lq2, pk_mul, e1, bP_s, nI_1, e2, bP_s]
    by_cases c4 : 4 ≤ k
    · rw [if_pos (show (4 : Int32) ≤ nI k from nI_le (a := 4) c4 (by omega))]
      by_cases c9 : 9 ≤ k
      · rw [if_pos (show (9 : Int32) ≤ nI k from nI_le (a := 9) c9 (by omega))]
        obtain ⟨r, hr, er⟩ := v_low (N := N) v1 (n := 16) (by omega) (by omega)
        rw [show (16 : Int32) = nI 16 from rfl, er, bP_s]
        exact turn r hr (fun z => absurd z (by omega))
      · rw [if_neg (show ¬ (9 : Int32) ≤ nI k from nI_ge (b := 9) (by omega) (by omega))]
        exact turn 2 (by omega) (fun z => absurd z (by omega))
    · rw [if_neg (show ¬ (4 : Int32) ≤ nI k from nI_ge (b := 4) (by omega) (by omega))]
      exact turn 0 (by omega) (fun _ => rfl)
end loop
theorem RT_z0 (N : Nat) : RT N z0 z0 0 t0 True := by
  refine ⟨⟨rfl, rfl, rfl, rfl, rfl, fun _ _ => rfl, fun _ _ => rfl, fun _ _ => rfl⟩, ⟨rfl, rfl, rfl, rfl, rfl, fun _ _ => rfl, fun _ _ => rfl, fun _ _ => rfl⟩, IN_t0, fun i _ => ⟨rfl, ⟨show (-99 : Int) ≤ (0 : Int32).toInt by decide, show (0 : Int32).toInt ≤ 99 by decide⟩, fun _ => rfl⟩, ⟨0, rfl, fun i h => absurd h (fun z => no_bit z), Or.inl ⟨rfl, rfl⟩, fun i j _ _ h _ => absurd h (fun z => no_bit z)⟩, 0, fun _ => ((0, 0, 0, 0), fun _ => 0), rfl, rfl, by decide, fun _ => ⟨rfl, rfl, rfl, rfl, rfl, fun _ _ => rfl, fun _ _ => rfl, fun _ _ => rfl⟩, fun j hj => absurd hj (Nat.not_lt_zero j)⟩
/-- what the law computes -/
theorem law_all {N L : Nat} {xs : Nat → Int32} (hN : 200 ≤ N) (hL : L < 2 ^ 31) : f_L_law N L xs 0 0 z0 z0 = some () := by
  unfold f_L_law
  have h0 : t0.nN < 6 := by decide
  obtain ⟨g, n, e⟩ := t_loop (N := N) (L := L) (xs := xs) (K := fun s226 s227 => bS (f_L_move N s226 6 0) fun v228 s229 => if v228 = (-7200) then (bS (f_L_tree N s229 (-1)) fun v230 s231 => if v230 = (-7200) then (some ()) else none) else none) hN hL 60 0 61 z0 z0 0 t0 (by omega) (by omega) (RT_z0 N) (fun _ => h0) (fun z => absurd rfl z)
  refine Eq.trans e ?_
  rw [l_move6, bS_s, if_pos rfl, l_tree1, bS_s, if_pos rfl]
