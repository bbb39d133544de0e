/-! MOVES: the reference does them. -/
/-- what a move leaves of the reference -/
def DN (t t' : Nt) (m : Nat) (τ τ' : Wd) : Prop := RM τ' t' ∧ τ'.1 0 10 = nI (m + 1) ∧
  (τ'.1 5 (25 * m) = nI t.nd ∧ τ'.1 5 (25 * m + 1) = nI t.ed ∧ τ'.1 5 (25 * m + 2) = nI t.nN ∧ τ'.1 5 (25 * m + 3) = nI t.wr ∧ τ'.1 5 (25 * m + 4) = nI t.nW ∧ ∀ w, w < 20 → τ'.1 5 (25 * m + 5 + w) = nI (t.c w)) ∧
  (∀ j, j < 25 * m → τ'.1 5 j = τ.1 5 j) ∧ (∀ k, (k = 0 ∨ 10 < k) → τ'.1 0 k = τ.1 0 k) ∧ (∀ j, j ≠ t.nN → τ'.1 4 j = τ.1 4 j) ∧ (τ'.1 4 t.nN = τ.1 4 t.nN ∨ τ'.1 4 t.nN = 0) ∧ τ'.2 = τ.2
/-- a wire less, a node less -/
def Nt.dW (t : Nt) (w : Nat) : Nt := Nt.mk t.nd t.ed (mn t.wr (2 ^ w)) t.nN t.nW t.f t.s t.c
def Nt.dN (t : Nt) (v : Nat) : Nt := Nt.mk (mn t.nd (2 ^ v)) t.ed t.wr t.nN t.nW t.f t.s t.c
/-- what does not change while a move is done -/
def FrD (n : Nat) (τ τ' : Wd) : Prop := (∀ p, 4 < p → τ'.1 p = τ.1 p) ∧ (∀ k, (k = 0 ∨ 5 < k) → τ'.1 0 k = τ.1 0 k) ∧ (∀ j, j ≠ n → τ'.1 4 j = τ.1 4 j) ∧ (τ'.1 4 n = τ.1 4 n ∨ τ'.1 4 n = 0) ∧ τ'.2 = τ.2
theorem FrD.rfl' (n : Nat) (τ : Wd) : FrD n τ τ := ⟨fun _ _ => rfl, fun _ _ => rfl, fun _ _ => rfl, Or.inl rfl, rfl⟩
theorem FrD.trans {n : Nat} {a b c : Wd} (h : FrD n a b) (g : FrD n b c) : FrD n a c :=
  ⟨fun p hp => (g.1 p hp).trans (h.1 p hp), fun k hk => (g.2.1 k hk).trans (h.2.1 k hk), fun j hj => (g.2.2.1 j hj).trans (h.2.2.1 j hj), by
    rcases g.2.2.2.1 with q | q
    · rw [q]; exact h.2.2.2.1
    · exact Or.inr q, g.2.2.2.2.trans h.2.2.2.2⟩
theorem FrD.slot {n : Nat} {τ : Wd} {k : Nat} {v : Int32} (h1 : 1 ≤ k) (h2 : k ≤ 5) : FrD n τ (sI τ 0 k v) := ⟨fun p hp => sI_place (by omega), fun j hj => sI_slot (by omega), fun j _ => by rw [sI_place (by omega)], Or.inl (by rw [sI_place (by omega)]), rfl⟩
theorem orP_eq (p : Nat → Bool) : ∀ m, stB p m = (pick p m).foldl (fun e x => e ||| 2 ^ x) 0
  | 0 => rfl
  | m + 1 => by
    unfold stB pick
    cases h : p m
    · simp only [Bool.false_eq_true, if_false]; exact orP_eq p m
    · simp only [if_true]
      rw [List.foldl_append, ← orP_eq p m]; rfl
theorem list1 {l : List Nat} (h : l.length = 1) : l = [l.getD 0 0] := by
  match l, h with
  | [a], _ => rfl
theorem list2 {l : List Nat} (h : l.length = 2) : l = [l.getD 0 0, l.getD 1 0] := by
  match l, h with
  | [a, b], _ => rfl
theorem list3 {l : List Nat} (h : l.length = 3) : l = [l.getD 0 0, l.getD 1 0, l.getD 2 0] := by
  match l, h with
  | [a, b, c], _ => rfl
section mdoes
variable {N : Nat} {σ τ : Wd} {t : Nt}
theorem WA_1 {v : Nat} (h : (la t v).length = 1) : WA t v = 2 ^ (la t v).getD 0 0 := by
  unfold WA
  rw [orP_eq]
  show (la t v).foldl (fun e x => e ||| 2 ^ x) 0 = _
  rw [list1 h]
  show 0 ||| 2 ^ _ = _
  rw [Nat.zero_or]; rfl
theorem WA_2 {v : Nat} (h : (la t v).length = 2) : WA t v = 2 ^ (la t v).getD 0 0 ||| 2 ^ (la t v).getD 1 0 := by
  unfold WA
  rw [orP_eq]
  show (la t v).foldl (fun e x => e ||| 2 ^ x) 0 = _
  rw [list2 h]
  show (0 ||| 2 ^ _) ||| 2 ^ _ = _
  rw [Nat.zero_or]; rfl
theorem WA_3 {v : Nat} (h : (la t v).length = 3) : WA t v = (2 ^ (la t v).getD 0 0 ||| 2 ^ (la t v).getD 1 0) ||| 2 ^ (la t v).getD 2 0 := by
  unfold WA
  rw [orP_eq]
  show (la t v).foldl (fun e x => e ||| 2 ^ x) 0 = _
  rw [list3 h]
  show ((0 ||| 2 ^ _) ||| 2 ^ _) ||| 2 ^ _ = _
  rw [Nat.zero_or]; rfl
theorem m_goes (r : RM τ t) {w : Nat} (hw : w < 20) : f_X8_goes N τ (nI w) = some (sI τ 0 5 (nI (mn t.wr (2 ^ w)))) ∧ RM (sI τ 0 5 (nI (mn t.wr (2 ^ w)))) (t.dW w) := by
  constructor
  · unfold f_X8_goes
    simp (disch := omega) only [gI, wI, r.wr, c_shl, mn_c]
  · exact ⟨by rw [sI_slot (by omega)]; exact r.nd, by rw [sI_slot (by omega)]; exact r.ed, sI_same _ _ _ _, by rw [sI_slot (by omega)]; exact r.nN, by rw [sI_slot (by omega)]; exact r.nW, fun x hx => by rw [sI_place (by omega)]; exact r.f x hx, fun x hx => by rw [sI_place (by omega)]; exact r.s x hx, fun x hx => by rw [sI_place (by omega)]; exact r.c x hx⟩
theorem m_dN (r : RM τ t) {v : Nat} (hv : v < 7) : τ.1 0 2 &&& ((1 <<< (nI v &&& 31)) ^^^ (-1)) = nI (mn t.nd (2 ^ v)) ∧ RM (sI τ 0 2 (nI (mn t.nd (2 ^ v)))) (t.dN v) := by
  constructor
  · simp (disch := omega) only [r.nd, c_shl, mn_c]
  · exact ⟨sI_same _ _ _ _, by rw [sI_slot (by omega)]; exact r.ed, by rw [sI_slot (by omega)]; exact r.wr, by rw [sI_slot (by omega)]; exact r.nN, by rw [sI_slot (by omega)]; exact r.nW, fun x hx => by rw [sI_place (by omega)]; exact r.f x hx, fun x hx => by rw [sI_place (by omega)]; exact r.s x hx, fun x hx => by rw [sI_place (by omega)]; exact r.c x hx⟩
theorem m_keeps68 {ρ : Type} {K : Wd → Option ρ} {q : Nat} (hq : q ≤ 1400) : ∀ d k n (s : Wd), k + d = 20 → d < n →
    ∃ s', fl_X8_keepsNetwork_68 N (nI q) K n (nI k) s = K s' ∧ (∀ w, k ≤ w → w < 20 → s'.1 5 (q + 5 + w) = s.1 3 w) ∧ (∀ j, j < q + 5 + k → s'.1 5 j = s.1 5 j) ∧ (∀ p, p ≠ 5 → s'.1 p = s.1 p) ∧ s'.2 = s.2 := by
  intro d
  induction d with
  | zero =>
    intro k n s hk hn
    obtain ⟨n, rfl⟩ : ∃ m, n = m + 1 := ⟨n - 1, by omega⟩
    refine ⟨s, ?_, fun w h1 h2 => by omega, fun j _ => rfl, fun p _ => rfl, rfl⟩
    rw [fl_X8_keepsNetwork_68]
    simp (disch := omega) only [lq20, nI_leI, if_pos]
  | succ d ih =>
    intro k n s hk hn
    obtain ⟨n, rfl⟩ : ∃ m, n = m + 1 := ⟨n - 1, by omega⟩
    obtain ⟨s', e1, g1, g2, g3, g4⟩ := ih (k + 1) n (sI s 5 (q + 5 + k) (s.1 3 k)) (by omega) (by omega)
    refine ⟨s', ?_, fun w h1 h2 => ?_, fun j h => ?_, fun p hp => ?_, g4⟩
    · rw [fl_X8_keepsNetwork_68]
      simp (disch := omega) only [lq20, show (5 : Int32) = nI 5 from rfl, nI_leI, if_neg, nI_add, rI_n, aI_n, nI_1]
      exact e1
    · by_cases e : w = k
      · subst e; rw [g2 _ (by omega), sI_same]
      · rw [g1 w (by omega) h2, sI_place (by omega)]
    · rw [g2 j (by omega), sI_slot (by omega)]
    · rw [g3 p hp, sI_place hp]
theorem m_keepsNetwork (r : RM τ t) (hN : 100 ≤ N) {m : Nat} (hm : m ≤ 18) (hk : τ.1 0 10 = nI m) : ∃ τ', f_X8_keepsNetwork N τ = some τ' ∧ RM τ' t ∧ τ'.1 0 10 = nI (m + 1) ∧
    (τ'.1 5 (25 * m) = nI t.nd ∧ τ'.1 5 (25 * m + 1) = nI t.ed ∧ τ'.1 5 (25 * m + 2) = nI t.nN ∧ τ'.1 5 (25 * m + 3) = nI t.wr ∧ τ'.1 5 (25 * m + 4) = nI t.nW ∧ ∀ w, w < 20 → τ'.1 5 (25 * m + 5 + w) = nI (t.c w)) ∧
    (∀ j, j < 25 * m → τ'.1 5 j = τ.1 5 j) ∧ (∀ k, k ≠ 10 → τ'.1 0 k = τ.1 0 k) ∧ (∀ p, p ≠ 0 → p ≠ 5 → τ'.1 p = τ.1 p) ∧ τ'.2 = τ.2 := by
  obtain ⟨s1, e1, g1, g2, g3, g4⟩ := m_keeps68 (N := N) (K := fun s15 => gI s15 0 10 fun v16 => wI s15 0 10 (v16 + 1) fun s17 => some s17) (q := 25 * m) (by omega) 20 0 N (sI (sI (sI (sI (sI τ 5 (25 * m) (nI t.nd)) 5 (25 * m + 1) (nI t.ed)) 5 (25 * m + 2) (nI t.nN)) 5 (25 * m + 3) (nI t.wr)) 5 (25 * m + 4) (nI t.nW)) (by omega) (by omega)
  have up : ∀ p, p ≠ 5 → s1.1 p = τ.1 p := fun p hp => by rw [g3 p hp]; simp (disch := omega) only [sI_place]
  refine ⟨sI s1 0 10 (nI (m + 1)), ?_, ?_, sI_same _ _ _ _, ⟨?_, ?_, ?_, ?_, ?_, fun w hw => ?_⟩, fun j hj => ?_, fun k hk' => ?_, fun p h1 h2 => ?_, g4⟩
  · unfold f_X8_keepsNetwork
    simp only [gI, wI, hk, lI, show (25 : Int32) = nI 25 from rfl, pk_mul]
    simp only [lq1, lq2, lq3, show (4 : Int32) = nI 4 from rfl, nI_add, r.nd]
    simp (disch := omega) only [aI_n, sI_place, r.ed, r.nN, r.wr, r.nW]
    refine Eq.trans e1 ?_
    simp only [gI, wI]
    rw [up 0 (by omega), hk, nI_1]
  · refine RM.same (τ := sI τ 0 10 (nI (m + 1))) (r.slot (Or.inr (by omega)) _) (fun p hp => ?_)
    by_cases e : p = 0
    · subst e
      funext j
      by_cases ej : j = 10
      · subst ej; rw [sI_same, sI_same]
      · rw [sI_slot ej, sI_slot ej, up 0 (by omega)]
    · rw [sI_place e, sI_place e, up p (by omega)]
  · rw [sI_place (by omega), g2 _ (by omega)]; simp (disch := omega) only [sI_slot, sI_same]
  · rw [sI_place (by omega), g2 _ (by omega)]; simp (disch := omega) only [sI_slot, sI_same]
  · rw [sI_place (by omega), g2 _ (by omega)]; simp (disch := omega) only [sI_slot, sI_same]
  · rw [sI_place (by omega), g2 _ (by omega)]; simp (disch := omega) only [sI_slot, sI_same]
  · rw [sI_place (by omega), g2 _ (by omega)]; simp (disch := omega) only [sI_slot, sI_same]
  · rw [sI_place (by omega), g1 w (by omega) hw, sI_place (by omega), sI_place (by omega), sI_place (by omega), sI_place (by omega), sI_place (by omega)]; exact r.c w hw
  · rw [sI_place (by omega), g2 _ (by omega)]; simp (disch := omega) only [sI_slot]
  · rw [sI_slot hk', up 0 (by omega)]
  · rw [sI_place h1, up p h2]
/-- behind keepsNetwork -/
theorem DN.of {m : Nat} {t' : Nt} {τ1 τ' : Wd} (hRM : RM τ' t') (h10 : τ1.1 0 10 = nI (m + 1))
    (hrow : τ1.1 5 (25 * m) = nI t.nd ∧ τ1.1 5 (25 * m + 1) = nI t.ed ∧ τ1.1 5 (25 * m + 2) = nI t.nN ∧ τ1.1 5 (25 * m + 3) = nI t.wr ∧ τ1.1 5 (25 * m + 4) = nI t.nW ∧ ∀ w, w < 20 → τ1.1 5 (25 * m + 5 + w) = nI (t.c w))
    (h5 : ∀ j, j < 25 * m → τ1.1 5 j = τ.1 5 j) (h0 : ∀ k, k ≠ 10 → τ1.1 0 k = τ.1 0 k) (hp : ∀ p, p ≠ 0 → p ≠ 5 → τ1.1 p = τ.1 p) (h2 : τ1.2 = τ.2) (fr : FrD t.nN τ1 τ') : DN t t' m τ τ' := by
  obtain ⟨f1, f2, f3, f4, f5⟩ := fr
  refine ⟨hRM, by rw [f2 10 (by omega)]; exact h10, ?_, fun j hj => by rw [f1 5 (by omega)]; exact h5 j hj, fun k hk => by rw [f2 k (by omega)]; exact h0 k (by omega), fun j hj => by rw [f3 j hj, hp 4 (by omega) (by omega)], ?_, f5.trans h2⟩
  · rw [f1 5 (by omega)]; exact hrow
  · rw [hp 4 (by omega) (by omega)] at f4; exact f4
theorem add_FrD {n : Nat} {τ τ' : Wd} (h1 : ∀ p, 3 < p → τ'.1 p = τ.1 p) (h2 : ∀ k, k = 0 ∨ 5 < k → τ'.1 0 k = τ.1 0 k) (h3 : τ'.2 = τ.2) : FrD n τ τ' := ⟨fun p hp => h1 p (by omega), h2, fun j _ => by rw [h1 4 (by omega)], Or.inl (by rw [h1 4 (by omega)]), h3⟩
theorem m_does0 (r : RM τ t) (hN : 100 ≤ N) {m w : Nat} (hm : m ≤ 18) (hk : τ.1 0 10 = nI m) (hw : w < 20) {M : Mv} (h : pl0 t w = some M) : ∃ τ', f_X8_does N τ 0 (nI w) = some τ' ∧ DN t (t.app M) m τ τ' := by
  unfold pl0 at h
  split at h
  · simp only [Option.some.injEq] at h
    subst h
    obtain ⟨s1, e1, r1, a1, a2, a3, a4, a5, a6⟩ := m_keepsNetwork (N := N) r hN hm hk
    obtain ⟨g1, g2⟩ := m_goes (N := N) r1 hw
    have e : t.dW w = t.app (Mv.mk 0 (2 ^ w) none 0 []) := by
      show t.dW w = t.cut 0 (2 ^ w) t.c
      unfold Nt.dW Nt.cut
      rw [mn_0]
    rw [e] at g2
    refine ⟨_, ?_, DN.of g2 a1 a2 a3 a4 a5 a6 (FrD.slot (by omega) (by omega))⟩
    unfold f_X8_does
    rw [e1, bP_s, if_pos rfl, g1, bP_s]
  · exact absurd h (by simp)
theorem m_does1 (r : RM τ t) (i : IN t) (hN : 100 ≤ N) {m w : Nat} (hm : m ≤ 18) (hk : τ.1 0 10 = nI m) (hw : w < 20) {M : Mv} (h : pl1 t w = some M) : ∃ τ', f_X8_does N τ 1 (nI w) = some τ' ∧ DN t (t.app M) m τ τ' := by
  unfold pl1 at h
  split at h
  · rename_i hc
    rw [Bool.and_eq_true, Bool.and_eq_true, decide_eq_true_eq, Bool.not_eq_true'] at hc
    obtain ⟨hr, ho, -⟩ := hc
    simp only [Option.some.injEq] at h
    subst h
    obtain ⟨s1, e1, r1, a1, a2, a3, a4, a5, a6⟩ := m_keepsNetwork (N := N) r hN hm hk
    have hal := m_alike (N := N) r1 i hN hw
    rw [hr, if_neg (by decide)] at hal
    have hoI : oI (othW t w) 20 = nI (othW t w) := if_pos ho
    rw [hoI] at hal
    have r2 : RM (sI s1 3 w (nI (t.c w + t.c (othW t w)))) (Nt.mk t.nd t.ed t.wr t.nN t.nW t.f t.s (upN t.c w (t.c w + t.c (othW t w)))) := by
      refine ⟨by rw [sI_place (by omega)]; exact r1.nd, by rw [sI_place (by omega)]; exact r1.ed, by rw [sI_place (by omega)]; exact r1.wr, by rw [sI_place (by omega)]; exact r1.nN, by rw [sI_place (by omega)]; exact r1.nW, fun x hx => by rw [sI_place (by omega)]; exact r1.f x hx, fun x hx => by rw [sI_place (by omega)]; exact r1.s x hx, fun x hx => ?_⟩
      show _ = nI (upN t.c w (t.c w + t.c (othW t w)) x)
      by_cases e : x = w
      · rw [e, sI_same, upN_s]
      · rw [sI_slot e, upN_o e]; exact r1.c x hx
    obtain ⟨g1, g2⟩ := m_goes (N := N) r2 ho
    have fr1 : FrD t.nN s1 (sI s1 3 w (nI (t.c w + t.c (othW t w)))) := ⟨fun p hp => sI_place (by omega), fun k _ => by rw [sI_place (by omega)], fun j _ => by rw [sI_place (by omega)], Or.inl (by rw [sI_place (by omega)]), rfl⟩
    have e : (Nt.mk t.nd t.ed t.wr t.nN t.nW t.f t.s (upN t.c w (t.c w + t.c (othW t w)))).dW (othW t w) = t.app (Mv.mk 0 (2 ^ othW t w) (some (w, t.c w + t.c (othW t w))) 0 []) := by
      show Nt.mk t.nd t.ed (mn t.wr (2 ^ othW t w)) t.nN t.nW t.f t.s (upN t.c w (t.c w + t.c (othW t w))) = Nt.mk (mn t.nd 0) t.ed (mn t.wr (2 ^ othW t w)) t.nN t.nW t.f t.s (upN t.c w (t.c w + t.c (othW t w)))
      rw [mn_0]
    rw [e] at g2
    refine ⟨_, ?_, DN.of g2 a1 a2 a3 a4 a5 a6 (fr1.trans (FrD.slot (by omega) (by omega)))⟩
    unfold f_X8_does
    rw [e1, bP_s, if_neg (by decide), if_pos rfl, hal, bP_s]
    simp (disch := omega) only [rI_n, r1.c w hw, r1.c _ ho, nI_add, aI_n]
    rw [g1, bP_s]
  · exact absurd h (by simp)
theorem m_does2 (r : RM τ t) (hN : 100 ≤ N) {m v : Nat} (hm : m ≤ 18) (hk : τ.1 0 10 = nI m) (hv : v < 7) {M : Mv} (h : pl2 t v = some M) (hmb : MB τ t v 1) : ∃ τ', f_X8_does N τ 2 (nI v) = some τ' ∧ DN t (t.app M) m τ τ' := by
  unfold pl2 at h
  split at h
  · rename_i hc
    have hl := inn_len hc
    simp only [Option.some.injEq] at h
    subst h
    obtain ⟨b0, -, -⟩ := la_in (t := t) (v := v) (j := 0) (by omega)
    obtain ⟨s1, e1, r1, a1, a2, a3, a4, a5, a6⟩ := m_keepsNetwork (N := N) r hN hm hk
    have h12 : s1.1 12 0 = nI ((la t v).getD 0 0) := by rw [a5 12 (by omega) (by omega)]; exact (hmb 0 (by omega)).1
    obtain ⟨g1, g2⟩ := m_goes (N := N) r1 b0
    obtain ⟨k1, k2⟩ := m_dN g2 hv
    have r0 : ∀ (s : Wd) (K' : Int32 → Option Wd), rI s 12 3 0 K' = K' (s.1 12 0) := fun s K' => rI_n (j := 0) (by omega) (by omega)
    have e : (t.dW ((la t v).getD 0 0)).dN v = t.app (Mv.mk (2 ^ v) (WA t v) none 0 []) := by
      show Nt.mk (mn t.nd (2 ^ v)) t.ed (mn t.wr (2 ^ (la t v).getD 0 0)) t.nN t.nW t.f t.s t.c = Nt.mk (mn t.nd (2 ^ v)) t.ed (mn t.wr (WA t v)) t.nN t.nW t.f t.s t.c
      rw [WA_1 hl]
    rw [e] at k2
    refine ⟨_, ?_, DN.of k2 a1 a2 a3 a4 a5 a6 ((FrD.slot (by omega) (by omega)).trans (FrD.slot (by omega) (by omega)))⟩
    unfold f_X8_does
    rw [e1, bP_s, if_neg (by decide), if_neg (by decide), if_pos rfl, r0, h12, g1, bP_s]
    simp only [gI, wI]
    rw [k1]
  · exact absurd h (by simp)
theorem m_does3 (r : RM τ t) (i : IN t) (hN : 100 ≤ N) {m v : Nat} (hm : m ≤ 18) (hk : τ.1 0 10 = nI m) (hv : v < 7) {M : Mv} (h : pl3 t v = some M) (g : GM t M) (hmb : MB τ t v 2) : ∃ τ', f_X8_does N τ 3 (nI v) = some τ' ∧ DN t (t.app M) m τ τ' := by
  unfold pl3 at h
  split at h
  · rename_i hc
    rw [Bool.and_eq_true] at hc
    have hl := inn_len hc.1
    simp only [Option.some.injEq] at h
    subst h
    obtain ⟨B1, B2, B3, B4, B5, B6, B7⟩ := g.base i
    obtain ⟨A1, A2, A3, A4, A5, A6, A7, A8, A9, A10, A11⟩ := g
    have A7' : t.nW + 1 ≤ 20 := A7
    obtain ⟨b0, -, -⟩ := la_in (t := t) (v := v) (j := 0) (by omega)
    obtain ⟨b1, -, -⟩ := la_in (t := t) (v := v) (j := 1) (by omega)
    have c0 := lc_b i (v := v) (j := 0) (by omega)
    have c1 := lc_b i (v := v) (j := 1) (by omega)
    have m01 := mul60 c0.2 c1.2
    have k0 : t.c ((la t v).getD 0 0) = lc t v 0 := rfl
    have k1 : t.c ((la t v).getD 1 0) = lc t v 1 := rfl
    obtain ⟨s1, e1, r1, a1, a2, a3, a4, a5, a6⟩ := m_keepsNetwork (N := N) r hN hm hk
    have h120 : s1.1 12 0 = nI ((la t v).getD 0 0) := by rw [a5 12 (by omega) (by omega)]; exact (hmb 0 (by omega)).1
    have h121 : s1.1 12 1 = nI ((la t v).getD 1 0) := by rw [a5 12 (by omega) (by omega)]; exact (hmb 1 (by omega)).1
    have h110 : s1.1 11 0 = nI (fa t v 0) := by rw [a5 11 (by omega) (by omega)]; exact (hmb 0 (by omega)).2
    have h111 : s1.1 11 1 = nI (fa t v 1) := by rw [a5 11 (by omega) (by omega)]; exact (hmb 1 (by omega)).2
    obtain ⟨p1, p2⟩ := m_goes (N := N) r1 b0
    obtain ⟨q1, q2⟩ := m_goes (N := N) p2 b1
    obtain ⟨u1, u2⟩ := m_dN q2 hv
    have e : ((t.dW ((la t v).getD 0 0)).dW ((la t v).getD 1 0)).dN v = t.cut (2 ^ v) (WA t v) t.c := by
      show Nt.mk (mn t.nd (2 ^ v)) t.ed (mn (mn t.wr (2 ^ (la t v).getD 0 0)) (2 ^ (la t v).getD 1 0)) t.nN t.nW t.f t.s t.c = Nt.mk (mn t.nd (2 ^ v)) t.ed (mn t.wr (WA t v)) t.nN t.nW t.f t.s t.c
      rw [WA_2 hl, mn_mn]
    rw [e] at u2
    have ic : IN (t.cut (2 ^ v) (WA t v) t.c) := B7
    obtain ⟨s2, x1, x2, x3, x4, x5⟩ := m_addsWire (N := N) u2 ic (by show t.nW < 20; omega) (fa t v 0) (fa t v 1) (lc t v 0 * lc t v 1 / (lc t v 0 + lc t v 1))
    have r0 : ∀ (s : Wd) (q : Nat) (K' : Int32 → Option Wd), rI s q 3 0 K' = K' (s.1 q 0) := fun s q K' => rI_n (j := 0) (by omega) (by omega)
    have r1' : ∀ (s : Wd) (q : Nat) (K' : Int32 → Option Wd), rI s q 3 1 K' = K' (s.1 q 1) := fun s q K' => rI_n (j := 1) (by omega) (by omega)
    have hser : f_X8_series N s1 (nI v) = some s2 := by
      unfold f_X8_series
      simp only [r0, r1', h120, h121]
      simp (disch := omega) only [rI_n, r1.c _ b0, r1.c _ b1, k0, k1]
      rw [p1]
      simp only [bP_s]
      rw [sI_place (show (12 : Nat) ≠ 0 by decide), h121, q1]
      simp only [bP_s, gI, wI]
      rw [u1]
      simp (disch := omega) only [sI_place, h110, h111, pk_mul, nI_add, dIn]
      rw [x1, bS_s]
    refine ⟨s2, ?_, DN.of x2 a1 a2 a3 a4 a5 a6 ((FrD.slot (by omega) (by omega)).trans ((FrD.slot (by omega) (by omega)).trans ((FrD.slot (by omega) (by omega)).trans (add_FrD x3 x4 x5))))⟩
    unfold f_X8_does
    rw [e1, bP_s, if_neg (by decide), if_neg (by decide), if_neg (by decide), if_pos rfl, hser, bP_s]
  · exact absurd h (by simp)
theorem m_does4 (r : RM τ t) (i : IN t) (hN : 100 ≤ N) {m v : Nat} (hm : m ≤ 18) (hk : τ.1 0 10 = nI m) (hv : v < 7) {M : Mv} (h : pl4 t v = some M) (g : GM t M) (hmb : MB τ t v 3) : ∃ τ', f_X8_does N τ 4 (nI v) = some τ' ∧ DN t (t.app M) m τ τ' := by
  unfold pl4 at h
  split at h
  · rename_i hc
    rw [Bool.and_eq_true] at hc
    have hl := inn_len hc.1
    simp only [Option.some.injEq] at h
    subst h
    obtain ⟨B1, B2, B3, B4, B5, B6, B7⟩ := g.base i
    obtain ⟨A1, A2, A3, A4, A5, A6, A7, A8, A9, A10, A11⟩ := g
    have A7' : t.nW + 3 ≤ 20 := A7
    obtain ⟨b0, -, -⟩ := la_in (t := t) (v := v) (j := 0) (by omega)
    obtain ⟨b1, -, -⟩ := la_in (t := t) (v := v) (j := 1) (by omega)
    obtain ⟨b2, -, -⟩ := la_in (t := t) (v := v) (j := 2) (by omega)
    have c0 := lc_b i (v := v) (j := 0) (by omega)
    have c1 := lc_b i (v := v) (j := 1) (by omega)
    have c2 := lc_b i (v := v) (j := 2) (by omega)
    have m01 := mul60 c0.2 c1.2
    have m02 := mul60 c0.2 c2.2
    have m12 := mul60 c1.2 c2.2
    have k0 : t.c ((la t v).getD 0 0) = lc t v 0 := rfl
    have k1 : t.c ((la t v).getD 1 0) = lc t v 1 := rfl
    have k2 : t.c ((la t v).getD 2 0) = lc t v 2 := rfl
    have hsm : lc t v 0 + lc t v 1 + lc t v 2 = sm3 t v := rfl
    obtain ⟨s1, e1, r1, a1, a2, a3, a4, a5, a6⟩ := m_keepsNetwork (N := N) r hN hm hk
    have h120 : s1.1 12 0 = nI ((la t v).getD 0 0) := by rw [a5 12 (by omega) (by omega)]; exact (hmb 0 (by omega)).1
    have h121 : s1.1 12 1 = nI ((la t v).getD 1 0) := by rw [a5 12 (by omega) (by omega)]; exact (hmb 1 (by omega)).1
    have h122 : s1.1 12 2 = nI ((la t v).getD 2 0) := by rw [a5 12 (by omega) (by omega)]; exact (hmb 2 (by omega)).1
    have h110 : s1.1 11 0 = nI (fa t v 0) := by rw [a5 11 (by omega) (by omega)]; exact (hmb 0 (by omega)).2
    have h111 : s1.1 11 1 = nI (fa t v 1) := by rw [a5 11 (by omega) (by omega)]; exact (hmb 1 (by omega)).2
    have h112 : s1.1 11 2 = nI (fa t v 2) := by rw [a5 11 (by omega) (by omega)]; exact (hmb 2 (by omega)).2
    obtain ⟨p1, p2⟩ := m_goes (N := N) r1 b0
    obtain ⟨q1, q2⟩ := m_goes (N := N) p2 b1
    obtain ⟨v1, v2⟩ := m_goes (N := N) q2 b2
    obtain ⟨u1, u2⟩ := m_dN v2 hv
    have e : (((t.dW ((la t v).getD 0 0)).dW ((la t v).getD 1 0)).dW ((la t v).getD 2 0)).dN v = t.cut (2 ^ v) (WA t v) t.c := by
      show Nt.mk (mn t.nd (2 ^ v)) t.ed (mn (mn (mn t.wr (2 ^ (la t v).getD 0 0)) (2 ^ (la t v).getD 1 0)) (2 ^ (la t v).getD 2 0)) t.nN t.nW t.f t.s t.c = Nt.mk (mn t.nd (2 ^ v)) t.ed (mn t.wr (WA t v)) t.nN t.nW t.f t.s t.c
      rw [WA_3 hl, mn_mn, mn_mn, Nat.or_assoc]
    rw [e] at u2
    have ic : IN (t.cut (2 ^ v) (WA t v) t.c) := B7
    have hpc : pc (t.cut (2 ^ v) (WA t v) t.c).wr + pc (WA t v) = pc t.wr := B4
    have hpw : pc (WA t v) = 3 := (pc_WA t v).trans hl
    have hfew := i.few
    have B6' : ∀ e ∈ [(fa t v 0, fa t v 1, lc t v 0 * lc t v 1 / sm3 t v), (fa t v 0, fa t v 2, lc t v 0 * lc t v 2 / sm3 t v), (fa t v 1, fa t v 2, lc t v 1 * lc t v 2 / sm3 t v)], (t.cut (2 ^ v) (WA t v) t.c).nd.testBit e.1 = true ∧ (t.cut (2 ^ v) (WA t v) t.c).nd.testBit e.2.1 = true ∧ 1 ≤ e.2.2 ∧ e.2.2 ≤ 60 := B6
    obtain ⟨z1, z2, z3⟩ := B6' _ List.mem_cons_self
    obtain ⟨y1, y2, y3⟩ := B6' _ (List.mem_cons_of_mem _ List.mem_cons_self)
    obtain ⟨s2, x1, x2, x3, x4, x5⟩ := m_addsWire (N := N) u2 ic (by show t.nW < 20; omega) (fa t v 0) (fa t v 1) (lc t v 0 * lc t v 1 / sm3 t v)
    have i2 : IN ((t.cut (2 ^ v) (WA t v) t.c).addW (fa t v 0) (fa t v 1) (lc t v 0 * lc t v 1 / sm3 t v)) := ic.addW (by show t.nW < 20; omega) (by omega) z1 z2 z3
    have pc2 : pc ((t.cut (2 ^ v) (WA t v) t.c).addW (fa t v 0) (fa t v 1) (lc t v 0 * lc t v 1 / sm3 t v)).wr = pc (t.cut (2 ^ v) (WA t v) t.c).wr + 1 := pc_or ic.wr (by show t.nW < 20; omega)
    obtain ⟨s3, w1, w2, w3, w4, w5⟩ := m_addsWire (N := N) x2 i2 (by show t.nW + 1 < 20; omega) (fa t v 0) (fa t v 2) (lc t v 0 * lc t v 2 / sm3 t v)
    have i3 : IN (((t.cut (2 ^ v) (WA t v) t.c).addW (fa t v 0) (fa t v 1) (lc t v 0 * lc t v 1 / sm3 t v)).addW (fa t v 0) (fa t v 2) (lc t v 0 * lc t v 2 / sm3 t v)) := i2.addW (by show t.nW + 1 < 20; omega) (by omega) y1 y2 y3
    obtain ⟨s4, n1, n2, n3, n4, n5⟩ := m_addsWire (N := N) w2 i3 (by show t.nW + 1 + 1 < 20; omega) (fa t v 1) (fa t v 2) (lc t v 1 * lc t v 2 / sm3 t v)
    have r0 : ∀ (s : Wd) (q : Nat) (K' : Int32 → Option Wd), rI s q 3 0 K' = K' (s.1 q 0) := fun s q K' => rI_n (j := 0) (by omega) (by omega)
    have r1' : ∀ (s : Wd) (q : Nat) (K' : Int32 → Option Wd), rI s q 3 1 K' = K' (s.1 q 1) := fun s q K' => rI_n (j := 1) (by omega) (by omega)
    have r2' : ∀ (s : Wd) (q : Nat) (K' : Int32 → Option Wd), rI s q 3 2 K' = K' (s.1 q 2) := fun s q K' => rI_n (j := 2) (by omega) (by omega)
    have hloop : ∀ (x1 x2 x3 x4 : Int32) (K : Wd → Option Wd), fl_X8_triangle_40 N x1 x2 x3 x4 K N 0 s1 = K (sI (sI (sI s1 0 5 (nI (mn t.wr (2 ^ (la t v).getD 0 0)))) 0 5 (nI (mn (t.dW ((la t v).getD 0 0)).wr (2 ^ (la t v).getD 1 0)))) 0 5 (nI (mn ((t.dW ((la t v).getD 0 0)).dW ((la t v).getD 1 0)).wr (2 ^ (la t v).getD 2 0)))) := fun x1 x2 x3 x4 K => by
      obtain ⟨n, hn⟩ : ∃ n, N = n + 4 := ⟨N - 4, by omega⟩
      have gen : ∀ y, (∀ w (s : Wd), f_X8_goes y s w = f_X8_goes N s w) → fl_X8_triangle_40 y x1 x2 x3 x4 K (n + 4) 0 s1 = K (sI (sI (sI s1 0 5 (nI (mn t.wr (2 ^ (la t v).getD 0 0)))) 0 5 (nI (mn (t.dW ((la t v).getD 0 0)).wr (2 ^ (la t v).getD 1 0)))) 0 5 (nI (mn ((t.dW ((la t v).getD 0 0)).dW ((la t v).getD 1 0)).wr (2 ^ (la t v).getD 2 0)))) := fun y hy => by
        rw [fl_X8_triangle_40, if_neg (by decide), r0, h120, hy, p1, bP_s, fl_X8_triangle_40, if_neg (by decide), show (0 : Int32) + 1 = 1 from rfl, r1', sI_place (show (12 : Nat) ≠ 0 by decide), h121, hy, q1, bP_s, fl_X8_triangle_40, if_neg (by decide), show (1 : Int32) + 1 = 2 from rfl, r2', sI_place (show (12 : Nat) ≠ 0 by decide), sI_place (show (12 : Nat) ≠ 0 by decide), h122, hy, v1, bP_s, fl_X8_triangle_40, if_pos (by decide)]
      have := gen N (fun _ _ => rfl)
      rw [← hn] at this
      exact this
    have htri : f_X8_triangle N s1 (nI v) = some s4 := by
      unfold f_X8_triangle
      simp only [r0, r1', r2', h120, h121, h122]
      simp (disch := omega) only [rI_n, r1.c _ b0, r1.c _ b1, r1.c _ b2, k0, k1, k2]
      rw [hloop]
      simp only [gI, wI]
      rw [u1]
      simp (disch := omega) only [sI_place, h110, h111, h112, pk_mul, nI_add, hsm, dIn]
      rw [x1, bS_s]
      rw [x3 11 (by omega)]
      simp (disch := omega) only [sI_place, h110, h111, h112]
      rw [w1, bS_s, w3 11 (by omega), x3 11 (by omega)]
      simp (disch := omega) only [sI_place, h110, h111, h112]
      rw [n1, bS_s]
    refine ⟨s4, ?_, DN.of n2 a1 a2 a3 a4 a5 a6 ((FrD.slot (by omega) (by omega)).trans ((FrD.slot (by omega) (by omega)).trans ((FrD.slot (by omega) (by omega)).trans ((FrD.slot (by omega) (by omega)).trans ((add_FrD x3 x4 x5).trans ((add_FrD w3 w4 w5).trans (add_FrD n3 n4 n5)))))))⟩
    unfold f_X8_does
    rw [e1, bP_s, if_neg (by decide), if_neg (by decide), if_neg (by decide), if_neg (by decide), if_pos rfl, htri, bP_s]
  · exact absurd h (by simp)
end mdoes
