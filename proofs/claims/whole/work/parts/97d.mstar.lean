/-! MOVES: the reference does a star. -/
section mstar
variable {N : Nat} {σ τ : Wd} {t : Nt}
theorem node_FrD {n : Nat} {τ τ' : Wd} (h1 : ∀ p, p ≠ 0 → p ≠ 4 → τ'.1 p = τ.1 p) (h2 : ∀ k, k = 0 ∨ 5 < k → τ'.1 0 k = τ.1 0 k) (h3 : τ'.1 4 n = 0) (h4 : ∀ k, k ≠ n → τ'.1 4 k = τ.1 4 k) (h5 : τ'.2 = τ.2) : FrD n τ τ' := ⟨fun p hp => h1 p (by omega) (by omega), h2, h4, Or.inr h3, h5⟩
theorem m_does5 (r : RM τ t) (i : IN t) (hN : 100 ≤ N) {m w : Nat} (hm : m ≤ 18) (hk : τ.1 0 10 = nI m) (hw : w < 20) (hwr : t.wr.testBit w = true) {M : Mv} (h : pl5 t w = some M) (g : GM t M) (hmt : MT τ t w) : ∃ τ', f_X8_does N τ 5 (nI w) = some τ' ∧ DN t (t.app M) m τ τ' := by
  unfold pl5 at h
  split at h
  · rename_i hc
    rw [Bool.and_eq_true, decide_eq_true_eq] at hc
    obtain ⟨hs, -⟩ := hc
    simp only [Option.some.injEq] at h
    subst h
    obtain ⟨b1, b2, b3, b4, b5, b6, b7, b8⟩ := sec_in hs
    obtain ⟨B1, B2, B3, B4, B5, B6, B7⟩ := g.base i
    obtain ⟨A1, A2, A3, A4, A5, A6, A7, A8, A9, A10, A11⟩ := g
    have A6' : t.nN + 1 ≤ 7 := A6
    have A7' : t.nW + 3 ≤ 20 := A7
    have c1 := i.cb _ hwr
    have c2 := i.cb _ b2
    have c3 := i.cb _ b7
    have m1 := mul60 c1.2 c2.2
    have m2 := mul60 c1.2 c3.2
    have m3 := mul60 c2.2 c3.2
    have hprs : prs t w = t.c w * t.c (sec t w) + t.c w * t.c (thd t w) + t.c (sec t w) * t.c (thd t w) := rfl
    have hww := bit_lt i.wr hwr
    have hsw := bit_lt i.wr b2
    obtain ⟨s1, e1, r1, a1, a2, a3, a4, a5, a6⟩ := m_keepsNetwork (N := N) r hN hm hk
    have hmt1 : MT s1 t w := by
      unfold MT at *
      rw [a5 12 (by omega) (by omega), a5 11 (by omega) (by omega)]; exact hmt
    obtain ⟨⟨h120, h121, h122⟩, h110, h111, h112⟩ := id hmt1
    obtain ⟨p1, p2⟩ := m_goes (N := N) r1 hw
    obtain ⟨q1, q2⟩ := m_goes (N := N) p2 hs
    obtain ⟨v1, v2⟩ := m_goes (N := N) q2 b6
    generalize hG : sI (sI (sI s1 0 5 (nI (mn t.wr (2 ^ w)))) 0 5 (nI (mn (t.dW w).wr (2 ^ sec t w)))) 0 5 (nI (mn ((t.dW w).dW (sec t w)).wr (2 ^ thd t w))) = G at v1 v2
    have frG : FrD t.nN s1 G := by
      rw [← hG]
      exact (FrD.slot (by omega) (by omega)).trans ((FrD.slot (by omega) (by omega)).trans (FrD.slot (by omega) (by omega)))
    have e : ((t.dW w).dW (sec t w)).dW (thd t w) = t.cut 0 ((2 ^ w ||| 2 ^ sec t w) ||| 2 ^ thd t w) t.c := by
      show Nt.mk t.nd t.ed (mn (mn (mn t.wr (2 ^ w)) (2 ^ sec t w)) (2 ^ thd t w)) t.nN t.nW t.f t.s t.c = Nt.mk (mn t.nd 0) t.ed (mn t.wr ((2 ^ w ||| 2 ^ sec t w) ||| 2 ^ thd t w)) t.nN t.nW t.f t.s t.c
      rw [mn_mn, mn_mn, mn_0, Nat.or_assoc]
    rw [e] at v2
    have ic : IN (t.cut 0 ((2 ^ w ||| 2 ^ sec t w) ||| 2 ^ thd t w) t.c) := B7
    obtain ⟨s7, n1, n2, n3, n4, n5, n6, n7⟩ := m_addsNode (N := N) v2 ic (show t.nN < 7 by omega) false
    have ib : IN ((t.cut 0 ((2 ^ w ||| 2 ^ sec t w) ||| 2 ^ thd t w) t.c).addN false) := B1
    have hpc : pc ((t.cut 0 ((2 ^ w ||| 2 ^ sec t w) ||| 2 ^ thd t w) t.c).addN false).wr + pc ((2 ^ w ||| 2 ^ sec t w) ||| 2 ^ thd t w) = pc t.wr := B4
    have hpw : 3 + 2 * 3 ≤ 3 * pc ((2 ^ w ||| 2 ^ sec t w) ||| 2 ^ thd t w) := A9
    have hfew := i.few
    have B6' : ∀ e ∈ [(t.f w, t.nN, prs t w / t.c (thd t w)), (t.s w, t.nN, prs t w / t.c (sec t w)), (t.far (sec t w) (t.f w), t.nN, prs t w / t.c w)], ((t.cut 0 ((2 ^ w ||| 2 ^ sec t w) ||| 2 ^ thd t w) t.c).addN false).nd.testBit e.1 = true ∧ ((t.cut 0 ((2 ^ w ||| 2 ^ sec t w) ||| 2 ^ thd t w) t.c).addN false).nd.testBit e.2.1 = true ∧ 1 ≤ e.2.2 ∧ e.2.2 ≤ 60 := B6
    obtain ⟨z1, z2, z3⟩ := B6' _ List.mem_cons_self
    obtain ⟨y1, y2, y3⟩ := B6' _ (List.mem_cons_of_mem _ List.mem_cons_self)
    generalize hu : (t.cut 0 ((2 ^ w ||| 2 ^ sec t w) ||| 2 ^ thd t w) t.c).addN false = u at n2 ib hpc z1 z2 y1 y2
    have unW : u.nW = t.nW := by rw [← hu]; rfl
    have uc : u.c = t.c := by rw [← hu]; rfl
    obtain ⟨s13, x1, x2, x3, x4, x5⟩ := m_addsWire (N := N) n2 ib (by rw [unW]; omega) (t.f w) t.nN (prs t w / t.c (thd t w))
    have i2 : IN (u.addW (t.f w) t.nN (prs t w / t.c (thd t w))) := ib.addW (by rw [unW]; omega) (by omega) z1 z2 z3
    have pc2 : pc (u.addW (t.f w) t.nN (prs t w / t.c (thd t w))).wr = pc u.wr + 1 := pc_or ib.wr (by rw [unW]; omega)
    have w2 : (u.addW (t.f w) t.nN (prs t w / t.c (thd t w))).nW = t.nW + 1 := by rw [← unW]; rfl
    obtain ⟨s19, w1, k2, w3, w4, w5⟩ := m_addsWire (N := N) x2 i2 (by rw [w2]; omega) (t.s w) t.nN (prs t w / t.c (sec t w))
    have i3 : IN ((u.addW (t.f w) t.nN (prs t w / t.c (thd t w))).addW (t.s w) t.nN (prs t w / t.c (sec t w))) := i2.addW (by rw [w2]; omega) (by omega) y1 y2 y3
    have w6 : ((u.addW (t.f w) t.nN (prs t w / t.c (thd t w))).addW (t.s w) t.nN (prs t w / t.c (sec t w))).nW = t.nW + 1 + 1 := by rw [← w2]; rfl
    obtain ⟨s25, l1, l2, l3, l4, l5⟩ := m_addsWire (N := N) k2 i3 (by rw [w6]; omega) (t.far (sec t w) (t.f w)) t.nN (prs t w / t.c w)
    have r0 : ∀ (s : Wd) (q : Nat) (K' : Int32 → Option Wd), rI s q 3 0 K' = K' (s.1 q 0) := fun s q K' => rI_n (j := 0) (by omega) (by omega)
    have r1' : ∀ (s : Wd) (q : Nat) (K' : Int32 → Option Wd), rI s q 3 1 K' = K' (s.1 q 1) := fun s q K' => rI_n (j := 1) (by omega) (by omega)
    have r2' : ∀ (s : Wd) (q : Nat) (K' : Int32 → Option Wd), rI s q 3 2 K' = K' (s.1 q 2) := fun s q K' => rI_n (j := 2) (by omega) (by omega)
    have hloop : ∀ (x1 x2 : Int32) (K : Wd → Option Wd), fl_X8_star_12 N x1 x2 K N 0 s1 = K G := fun x1 x2 K => by
      obtain ⟨n, hn⟩ : ∃ n, N = n + 4 := ⟨N - 4, by omega⟩
      have gen : ∀ y, (∀ w (s : Wd), f_X8_goes y s w = f_X8_goes N s w) → fl_X8_star_12 y x1 x2 K (n + 4) 0 s1 = K G := fun y hy => by
        rw [fl_X8_star_12, if_neg (by decide), r0, h120, hy, p1, bP_s, fl_X8_star_12, if_neg (by decide), show (0 : Int32) + 1 = 1 from rfl, r1', sI_place (show (12 : Nat) ≠ 0 by decide), h121, hy, q1, bP_s, fl_X8_star_12, if_neg (by decide), show (1 : Int32) + 1 = 2 from rfl, r2', sI_place (show (12 : Nat) ≠ 0 by decide), sI_place (show (12 : Nat) ≠ 0 by decide), h122, hy, v1, bP_s, fl_X8_star_12, if_pos (by decide)]
      have := gen N (fun _ _ => rfl)
      rw [← hn] at this
      exact this
    -- what is read on the way
    have G12 : G.1 12 = s1.1 12 := frG.1 12 (by omega)
    have G11 : G.1 11 = s1.1 11 := frG.1 11 (by omega)
    have s7_12 : s7.1 12 = s1.1 12 := (n3 12 (by omega) (by omega)).trans G12
    have s7_11 : s7.1 11 = s1.1 11 := (n3 11 (by omega) (by omega)).trans G11
    have s13_12 : s13.1 12 = s1.1 12 := (x3 12 (by omega)).trans s7_12
    have s13_11 : s13.1 11 = s1.1 11 := (x3 11 (by omega)).trans s7_11
    have s19_12 : s19.1 12 = s1.1 12 := (w3 12 (by omega)).trans s13_12
    have s19_11 : s19.1 11 = s1.1 11 := (w3 11 (by omega)).trans s13_11
    have d3 : s7.1 3 (thd t w) = nI (t.c (thd t w)) := by rw [n2.c _ b6, uc]
    have d2 : s13.1 3 (sec t w) = nI (t.c (sec t w)) := by
      rw [x2.c _ hs]
      show nI (upN u.c u.nW _ (sec t w)) = _
      rw [upN_o (by rw [unW]; omega), uc]
    have d1 : s19.1 3 w = nI (t.c w) := by
      rw [k2.c _ hw]
      show nI (upN (upN u.c u.nW _) (u.nW + 1) _ w) = _
      rw [upN_o (by rw [unW]; omega), upN_o (by rw [unW]; omega), uc]
    have hstar : f_X8_star N s1 = some s25 := by
      unfold f_X8_star
      rw [m_products r1 i hw hs hmt1, bP_s]
      simp only [gI, r1.nN]
      rw [hloop, show (0 : Int32) = bI false from rfl, n1, bS_s]
      rw [show bI false = (0 : Int32) from rfl]
      simp only [r0, r2', s7_12, s7_11, h110, h122]
      rw [rI_n b6 (by omega), d3, dIn (by omega) (by omega) (by omega), x1, bS_s]
      simp only [r1', s13_12, s13_11, h111, h121]
      rw [rI_n hs (by omega), d2, dIn (by omega) (by omega) (by omega), w1, bS_s]
      simp only [r0, r2', s19_12, s19_11, h112, h120]
      rw [rI_n hw (by omega), d1, dIn (by omega) (by omega) (by omega), l1, bS_s]
    have hfin : ((u.addW (t.f w) t.nN (prs t w / t.c (thd t w))).addW (t.s w) t.nN (prs t w / t.c (sec t w))).addW (t.far (sec t w) (t.f w)) t.nN (prs t w / t.c w) = t.app (Mv.mk 0 ((2 ^ w ||| 2 ^ sec t w) ||| 2 ^ thd t w) none 1 [(t.f w, t.nN, prs t w / t.c (thd t w)), (t.s w, t.nN, prs t w / t.c (sec t w)), (t.far (sec t w) (t.f w), t.nN, prs t w / t.c w)]) := by
      rw [← hu]; rfl
    rw [hfin] at l2
    refine ⟨s25, ?_, DN.of l2 a1 a2 a3 a4 a5 a6 (frG.trans ((node_FrD n3 n4 n5 n6 n7).trans ((add_FrD x3 x4 x5).trans ((add_FrD w3 w4 w5).trans (add_FrD l3 l4 l5)))))⟩
    unfold f_X8_does
    rw [e1, bP_s, if_neg (by decide), if_neg (by decide), if_neg (by decide), if_neg (by decide), if_neg (by decide), hstar, bP_s]
  · exact absurd h (by simp)
end mstar
