/-! MOVES: what the reference finds. -/
def FrQ (τ τ' : Wd) : Prop := τ'.2 = τ.2 ∧ ∀ p, p ≠ 11 → p ≠ 12 → τ'.1 p = τ.1 p
theorem FrQ.rfl' (τ : Wd) : FrQ τ τ := ⟨rfl, fun _ _ _ => rfl⟩
theorem FrQ.trans {σ σ' σ'' : Wd} (h : FrQ σ σ') (g : FrQ σ' σ'') : FrQ σ σ'' := ⟨g.1.trans h.1, fun p hp hq => (g.2 p hp hq).trans (h.2 p hp hq)⟩
theorem FrQ.put {τ : Wd} {q k : Nat} {v : Int32} (h : q = 11 ∨ q = 12) : FrQ τ (sI τ q k v) := ⟨rfl, fun p h1 h2 => sI_place (by omega)⟩
theorem FrQ.RM {τ τ' : Wd} {t : Nt} (h : FrQ τ τ') (r : RM τ t) : RM τ' t := r.same (fun p hp => h.2 p (by omega) (by omega))
theorem FrQ.eq {τ τ' : Wd} (h : FrQ τ τ') : EqM τ τ' := ⟨fun p h1 h2 => h.2 p (by omega) (by omega), fun k _ _ => by rw [h.2 0 (by omega) (by omega)], h.1⟩
/-- the wires of a node, and the nodes beside -/
def MB (τ : Wd) (t : Nt) (v d : Nat) : Prop := ∀ j, j < d → τ.1 12 j = nI ((la t v).getD j 0) ∧ τ.1 11 j = nI (fa t v j)
section mfinds
variable {N : Nat} {σ τ : Wd} {t : Nt}
theorem m_otherEnd (r : RM τ t) (i : IN t) {w v : Nat} (hw : w < 20) (hv : v < 7) : f_X8_otherEnd N τ (nI w) (nI v) = some (nI (t.far w v)) := by
  have h1 := i.fb w
  unfold f_X8_otherEnd Nt.far
  simp (disch := omega) only [rI_n, r.f w hw, r.s w hw, nI_eq]
  by_cases q : t.f w = v
  · rw [if_pos q, if_pos q]
  · rw [if_neg q, if_neg q]
theorem m_wiresOf (r : RM τ t) (i : IN t) (hN : 100 ≤ N) {v : Nat} (hv : v < 7) : f_X8_wiresOf N τ (nI v) = some (nI (la t v).length) := by
  have h20 := i.wr20
  have go : ∀ d k n, k + d = 20 → d < n → fl_X8_wiresOf_4 N τ (nI v) (fun v7 => some v7) n (nI (pick (atB t v) k).length) (nI k) = some (nI (la t v).length) := by
    intro d
    induction d with
    | zero =>
      intro k n hk hn
      obtain ⟨n, rfl⟩ : ∃ m, n = m + 1 := ⟨n - 1, by omega⟩
      rw [fl_X8_wiresOf_4, show k = 20 by omega, lq20, if_pos (nI_le (Nat.le_refl _) (by omega))]
      rfl
    | succ d ih =>
      intro k n hk hn
      obtain ⟨n, rfl⟩ : ∃ m, n = m + 1 := ⟨n - 1, by omega⟩
      have hf := i.fb k
      have hs := i.sb k
      have ih' := ih (k + 1) n (by omega) (by omega)
      have e0 : (pick (atB t v) (k + 1)).length = if atB t v k = true then (pick (atB t v) k).length + 1 else (pick (atB t v) k).length := by
        rw [pick]
        cases atB t v k
        · rfl
        · simp
      rw [e0] at ih'
      rw [fl_X8_wiresOf_4]
      simp (disch := omega) only [lq20, nI_leI, if_neg, jn_e, gI, r.wr, v_isIn8, bP_s, if_bI0, rI_n, r.f k (by omega), r.s k (by omega), nI_eq, lI, nI_1, Int32.add_zero]
      unfold atB at ih' ⊢
      cases hw : t.wr.testBit k
      · rw [hw, Bool.false_and, if_neg (by decide)] at ih'
        exact ih'
      · rw [hw, Bool.true_and] at ih'
        simp only [if_true]
        by_cases q : t.f k = v
        · rw [if_pos q]
          rw [beq_iff_eq.mpr q, Bool.true_or, if_pos rfl] at ih'
          exact ih'
        · rw [if_neg q]
          rw [beq_false_of_ne q, Bool.false_or] at ih'
          by_cases q2 : t.s k = v
          · rw [if_pos q2]
            rw [beq_iff_eq.mpr q2, if_pos rfl] at ih'
            exact ih'
          · rw [if_neg q2]
            rw [beq_false_of_ne q2, if_neg (by decide)] at ih'
            exact ih'
  exact go 20 0 N (by omega) (by omega)
theorem m_finds4 {ρ : Type} {K : Int32 → Wd → Option ρ} (i : IN t) {v d : Nat} (hv : v < 7) (hd : (la t v).length = d) (hd3 : d ≤ 3) : ∀ e k n (s : Wd), k + e = 20 → e < n → RM s t → (∀ j, j < (pick (atB t v) k).length → s.1 12 j = nI ((la t v).getD j 0) ∧ s.1 11 j = nI (fa t v j)) →
    ∃ s', fl_X8_finds_4 N (nI v) K n (nI (pick (atB t v) k).length) (nI k) s = K (nI d) s' ∧ MB s' t v d ∧ FrQ s s' := by
  have h20 := i.wr20
  intro e
  induction e with
  | zero =>
    intro k n s hk hn r h
    obtain ⟨n, rfl⟩ : ∃ m, n = m + 1 := ⟨n - 1, by omega⟩
    have hk : k = 20 := by omega
    subst hk
    have hl : (pick (atB t v) 20).length = d := hd
    refine ⟨s, ?_, fun j hj => h j (by omega), FrQ.rfl' s⟩
    rw [fl_X8_finds_4, lq20, if_pos (nI_le (Nat.le_refl _) (by omega)), hl]
  | succ e ih =>
    intro k n s hk hn r h
    obtain ⟨n, rfl⟩ : ∃ m, n = m + 1 := ⟨n - 1, by omega⟩
    have hf := i.fb k
    have hs := i.sb k
    rw [fl_X8_finds_4]
    simp (disch := omega) only [lq20, nI_leI, if_neg, jn_e, gI, r.wr, v_isIn8, bP_s, if_bI0, rI_n, r.f k (by omega), r.s k (by omega), nI_eq, nI_1]
    have skip : atB t v k = false → ∃ s', fl_X8_finds_4 N (nI v) K n (nI (pick (atB t v) k).length) (nI (k + 1)) s = K (nI d) s' ∧ MB s' t v d ∧ FrQ s s' := fun hp => by
      have e1 : pick (atB t v) (k + 1) = pick (atB t v) k := by rw [pick, hp]; rfl
      have := ih (k + 1) n s (by omega) (by omega) r (by rw [e1]; exact h)
      rw [e1] at this
      exact this
    have take : atB t v k = true → ∃ s', (aI s 12 3 (nI (pick (atB t v) k).length) (nI k) fun s6 => bP (f_X8_otherEnd N s6 (nI k) (nI v)) fun v7 => aI s6 11 3 (nI (pick (atB t v) k).length) v7 fun s8 => fl_X8_finds_4 N (nI v) K n (nI ((pick (atB t v) k).length + 1)) (nI (k + 1)) s8) = K (nI d) s' ∧ MB s' t v d ∧ FrQ s s' := fun hp => by
      have e1 : pick (atB t v) (k + 1) = pick (atB t v) k ++ [k] := by rw [pick, hp]; rfl
      obtain ⟨p1, p2⟩ := pick_at (p := atB t v) hp (show k < 20 by omega)
      have hl : (pick (atB t v) 20).length = d := hd
      have hfar : t.far k v = fa t v (pick (atB t v) k).length := by
        unfold fa la
        rw [p1]
      have hla : (la t v).getD (pick (atB t v) k).length 0 = k := p1
      have hlen : (pick (atB t v) k ++ [k]).length = (pick (atB t v) k).length + 1 := by simp
      obtain ⟨s', e2, g1, g2⟩ := ih (k + 1) n (sI (sI s 12 (pick (atB t v) k).length (nI k)) 11 (pick (atB t v) k).length (nI (t.far k v))) (by omega) (by omega) (r.same (fun p hp => by rw [sI_place (by omega), sI_place (by omega)])) (fun j hj => by
        rw [e1, hlen] at hj
        by_cases q : j = (pick (atB t v) k).length
        · rw [q, sI_same, sI_place (by omega), sI_same, hla, hfar]
          exact ⟨rfl, rfl⟩
        · refine ⟨?_, ?_⟩
          · rw [sI_place (show (12 : Nat) ≠ 11 by decide), sI_slot q]; exact (h j (by omega)).1
          · rw [sI_slot q, sI_place (show (11 : Nat) ≠ 12 by decide)]; exact (h j (by omega)).2)
      rw [e1, hlen] at e2
      refine ⟨s', ?_, g1, (FrQ.put (Or.inr rfl)).trans ((FrQ.put (Or.inl rfl)).trans g2)⟩
      rw [aI_n (by omega) (by omega), m_otherEnd (r.same (fun p hp => sI_place (by omega))) i (by omega) hv, bP_s, aI_n (by omega) (by omega)]
      exact e2
    cases hw : t.wr.testBit k
    · exact skip (by unfold atB; rw [hw]; rfl)
    · simp only [if_true]
      by_cases q : t.f k = v
      · rw [if_pos q]
        exact take (by unfold atB; rw [hw, beq_iff_eq.mpr q]; rfl)
      · rw [if_neg q]
        by_cases q2 : t.s k = v
        · rw [if_pos q2]
          exact take (by unfold atB; rw [hw, beq_iff_eq.mpr q2]; simp)
        · rw [if_neg q2]
          exact skip (by unfold atB; rw [hw, beq_false_of_ne q, beq_false_of_ne q2]; rfl)
theorem m_finds111 {ρ : Type} {K : Int32 → Option ρ} {f : Nat → Nat} {d m : Nat} {x1 x2 : Int32} (hd : d ≤ 3) (hm : m < d) (hf : ∀ j, j < d → f j < 7) (hc : ∀ j, j < d → τ.1 11 j = nI (f j)) : ∀ e k n (b : Bool), k + e = m → e < n → fl_X8_finds_111 N τ x1 x2 (nI m) K n (bI b) (nI k) = K (bI (b && al (fun j => !(f j == f m)) e k)) := by
  intro e
  induction e with
  | zero =>
    intro k n b hk hn
    obtain ⟨n, rfl⟩ : ∃ m, n = m + 1 := ⟨n - 1, by omega⟩
    rw [fl_X8_finds_111, if_pos (nI_le (by omega) (by omega))]
    show _ = K (bI (b && true))
    rw [Bool.and_true]
  | succ e ih =>
    intro k n b hk hn
    obtain ⟨n, rfl⟩ : ∃ m, n = m + 1 := ⟨n - 1, by omega⟩
    have e0 : al (fun j => !(f j == f m)) (e + 1) k = (!(f k == f m) && al (fun j => !(f j == f m)) e (k + 1)) := rfl
    have h1 := hf k (by omega)
    have h2 := hf m hm
    have t1 := ih (k + 1) n true (by omega) (by omega)
    have f1 := ih (k + 1) n false (by omega) (by omega)
    rw [bI_t] at t1
    rw [bI_f] at f1
    rw [fl_X8_finds_111, e0, if_neg (nI_ge (by omega) (by omega))]
    simp only [jn_e, nI_1]
    rw [f1]
    cases b
    · rw [if_pos (show bI false = 0 from rfl)]; rfl
    · rw [if_neg (show ¬ bI true = 0 by decide), t1]
      simp (disch := omega) only [lq3, rI_n, hc k (by omega), hc m (by omega), nI_eq]
      by_cases q : f k = f m
      · rw [if_pos q, beq_iff_eq.mpr q]; rfl
      · rw [if_neg q, beq_false_of_ne q]; rfl
theorem m_finds81 {ρ : Type} {K : Int32 → Option ρ} (hN : 100 ≤ N) {f : Nat → Nat} {v d : Nat} (hv : v < 7) (hd : d ≤ 3) (hf : ∀ j, j < d → f j < 7) (hc : ∀ j, j < d → τ.1 11 j = nI (f j)) : ∀ e k n (b : Bool), k + e = d → e < n → fl_X8_finds_81 N τ (nI v) (nI d) K n (bI b) (nI k) = K (bI (b && al (fun i => !(f i == v) && al (fun j => !(f j == f i)) i 0) e k)) := by
  intro e
  induction e with
  | zero =>
    intro k n b hk hn
    obtain ⟨n, rfl⟩ : ∃ m, n = m + 1 := ⟨n - 1, by omega⟩
    rw [fl_X8_finds_81, if_pos (nI_le (by omega) (by omega))]
    show _ = K (bI (b && true))
    rw [Bool.and_true]
  | succ e ih =>
    intro k n b hk hn
    obtain ⟨n, rfl⟩ : ∃ m, n = m + 1 := ⟨n - 1, by omega⟩
    have e0 : al (fun i => !(f i == v) && al (fun j => !(f j == f i)) i 0) (e + 1) k = ((!(f k == v) && al (fun j => !(f j == f k)) k 0) && al (fun i => !(f i == v) && al (fun j => !(f j == f i)) i 0) e (k + 1)) := rfl
    have h1 := hf k (by omega)
    have step : ∀ c : Bool, fl_X8_finds_111 N τ (nI v) (nI d) (nI k) (fun v16 => fl_X8_finds_81 N τ (nI v) (nI d) K n v16 (nI k + 1)) N (bI c) 0 = K (bI ((c && al (fun j => !(f j == f k)) k 0) && al (fun i => !(f i == v) && al (fun j => !(f j == f i)) i 0) e (k + 1))) := fun c => by
      have z := m_finds111 (N := N) (τ := τ) (K := fun v16 => fl_X8_finds_81 N τ (nI v) (nI d) K n v16 (nI k + 1)) (x1 := nI v) (x2 := nI d) hd (show k < d by omega) hf hc k 0 N c (by omega) (by omega)
      rw [show nI 0 = (0 : Int32) from rfl] at z
      rw [z, nI_1]
      exact ih (k + 1) n _ (by omega) (by omega)
    have s0 := step false
    have s1 := step true
    rw [bI_f] at s0
    rw [bI_t] at s1
    rw [fl_X8_finds_81, e0, if_neg (nI_ge (by omega) (by omega))]
    simp only [jn_e]
    rw [s0]
    cases b
    · rw [if_pos (show bI false = 0 from rfl)]; rfl
    · rw [if_neg (show ¬ bI true = 0 by decide), s1]
      simp (disch := omega) only [lq3, rI_n, hc k (by omega), nI_eq]
      by_cases q : f k = v
      · rw [if_pos q, beq_iff_eq.mpr q]; rfl
      · rw [if_neg q, beq_false_of_ne q]; rfl
theorem m_isInner (r : RM τ t) (i : IN t) (hN : 100 ≤ N) {v d : Nat} (hv : v < 7) (hd1 : 1 ≤ d) (hd3 : d ≤ 3) : ∃ τ', f_X8_isInner N τ (nI v) (nI d) = some (bI (inn t v d), τ') ∧ FrQ τ τ' ∧ (inn t v d = true → MB τ' t v d) := by
  have h7 := i.ed7
  have hle : (la t v).length ≤ 20 := pick_len_le (atB t v) 20
  unfold f_X8_isInner
  simp (disch := omega) only [gI, r.ed, v_isIn8, bP_s, if_bI0]
  cases he : t.ed.testBit v
  · simp only [Bool.false_eq_true, if_false]
    rw [m_wiresOf r i hN hv, bP_s]
    by_cases hl : (la t v).length = d
    · rw [if_pos (by rw [hl])]
      obtain ⟨s1, e1, g1, g2⟩ := m_finds4 (N := N) (K := fun v10 s11 => fl_X8_finds_81 N s11 (nI v) v10 (fun v18 => zb v18 (some (v18, s11))) N 1 0) i hv hl hd3 20 0 N τ (by omega) (by omega) r (fun j hj => absurd hj (Nat.not_lt_zero j))
      have e2 := m_finds81 (N := N) (τ := s1) (K := fun v18 => zb v18 (some (v18, s1))) hN (f := fa t v) hv hd3 (fun j _ => far_lt i _ _) (fun j hj => (g1 j hj).2) d 0 N true (by omega) (by omega)
      have e3 : f_X8_finds N τ (nI v) = some (bI (mdB (fa t v) v d), s1) := by
        unfold f_X8_finds
        refine Eq.trans e1 ?_
        refine Eq.trans e2 ?_
        rw [zb_bI, Bool.true_and]
        rfl
      have hinn : inn t v d = mdB (fa t v) v d := by
        unfold inn
        rw [he, beq_iff_eq.mpr hl]; rfl
      rw [e3, bS_s, if_bI0, hinn]
      refine ⟨s1, ?_, g2, fun _ => g1⟩
      cases mdB (fa t v) v d <;> rfl
    · rw [if_neg (fun z => hl ((nI_eq (by omega) (by omega)).mp z))]
      have hinn : inn t v d = false := by
        unfold inn
        rw [beq_false_of_ne hl]; simp
      rw [hinn]
      exact ⟨τ, rfl, FrQ.rfl' τ, fun q => absurd q (by decide)⟩
  · have hinn : inn t v d = false := by
      unfold inn
      rw [he]; rfl
    rw [hinn]
    exact ⟨τ, rfl, FrQ.rfl' τ, fun q => absurd q (by decide)⟩
theorem m_isWhole {u l : Nat} (hu : u < 2 ^ 31) (hl0 : 0 < l) (hl : l < 2 ^ 31) : f_X8_isWhole N (nI u) (nI l) = some (bI (whl u l)) := by
  have hdiv : u / l ≤ u := Nat.div_le_self _ _
  unfold f_X8_isWhole
  rw [mIn hu hl0 hl]
  by_cases h1 : u % l = 0
  · rw [if_pos (by rw [h1]; rfl), dIn hu hl0 hl, v_in60, bP_s, if_bI0]
    by_cases h2 : 1 ≤ u / l
    · by_cases h3 : u / l ≤ 60
      · rw [show whl u l = true from decide_eq_true ⟨h1, h2, h3⟩, decide_eq_false (show ¬ nI (u / l) < 1 from nI_nlt (b := 1) h2 (by omega)), decide_eq_false (show ¬ (60 : Int32) < nI (u / l) from nI_nlt (a := 60) h3 (by omega))]; rfl
      · rw [show whl u l = false from decide_eq_false (fun z => h3 z.2.2), decide_eq_true (show (60 : Int32) < nI (u / l) from nI_lt (a := 60) (by omega) (by omega)), Bool.not_true, Bool.and_false]; rfl
    · rw [show whl u l = false from decide_eq_false (fun z => h2 z.2.1), decide_eq_true (show nI (u / l) < 1 from nI_lt (b := 1) (by omega) (by omega))]; rfl
  · rw [if_neg (show ¬ nI (u % l) = 0 from fun z => h1 ((nI_eq (b := 0) (by have := Nat.mod_lt u hl0; omega) (by omega)).mp z)), show whl u l = false from decide_eq_false (fun z => h1 z.1)]; rfl
theorem al_ends {ρ : Type} {F6 : Int32 → Option ρ} (r : RM τ t) (i : IN t) {k w : Nat} (hk : k < 20) (hw : w < 20) :
    (rI τ 1 20 (nI k) fun v4 => rI τ 1 20 (nI w) fun v5 => jn F6 fun j112 => jn (fun (_u : Unit) => ((j112 1) : Option ρ)) fun j107 =>
      jn (fun (_u : Unit) => ((rI τ 1 20 (nI k) fun v8 => rI τ 2 20 (nI w) fun v9 => jn (fun (_u : Unit) => ((j112 0) : Option ρ)) fun j111 => if v8 = v9 then (rI τ 2 20 (nI k) fun v10 => rI τ 1 20 (nI w) fun v11 => if v10 = v11 then (j107 ()) else (j111 ())) else (j111 ())) : Option ρ)) fun j77 =>
      if v4 = v5 then (rI τ 2 20 (nI k) fun v12 => rI τ 2 20 (nI w) fun v13 => if v12 = v13 then (j107 ()) else (j77 ())) else (j77 ())) = if ends t (t.f w) (t.s w) k = true then F6 1 else F6 0 := by
  have h1 := i.fb k
  have h2 := i.sb k
  have h3 := i.fb w
  have h4 := i.sb w
  simp (disch := omega) only [rI_n, r.f k hk, r.s k hk, r.f w hw, r.s w hw, nI_eq, jn_e]
  exact if_ends (F6 1) (F6 0)
/-- the other wire beside a wire -/
theorem m_alike (r : RM τ t) (i : IN t) (hN : 100 ≤ N) {w : Nat} (hw : w < 20) : f_X8_alike N τ (nI w) = some (if (t.f w == t.s w) = true then -1 else oI (othW t w) 20) := by
  have h20 := i.wr20
  have hfw := i.fb w
  have hsw := i.sb w
  have go : ∀ k n, k ≤ 20 → k < n → fl_X8_alike_5 N τ (nI w) (fun v16 => some v16) n (oI (fsP (fun x => !(t.f w == t.s w) && (btw t (t.f w) (t.s w) x && !(x == w))) (20 - k) k) 20) (nI k - 1) = some (oI (fsP (fun x => !(t.f w == t.s w) && (btw t (t.f w) (t.s w) x && !(x == w))) 20 0) 20) := by
    intro k
    induction k with
    | zero =>
      intro n hk hn
      obtain ⟨n, rfl⟩ : ∃ m, n = m + 1 := ⟨n - 1, by omega⟩
      rw [fl_X8_alike_5, if_pos (by decide)]
    | succ k ih =>
      intro n hk hn
      obtain ⟨n, rfl⟩ : ∃ m, n = m + 1 := ⟨n - 1, by omega⟩
      have ih' := ih n (by omega) (by omega)
      have e0 : fsP (fun x => !(t.f w == t.s w) && (btw t (t.f w) (t.s w) x && !(x == w))) (20 - k) k = if (!(t.f w == t.s w) && (btw t (t.f w) (t.s w) k && !(k == w))) = true then k else fsP (fun x => !(t.f w == t.s w) && (btw t (t.f w) (t.s w) x && !(x == w))) (20 - (k + 1)) (k + 1) := by
        rw [show 20 - k = (20 - (k + 1)) + 1 by omega]; rfl
      rw [e0] at ih'
      have hf := i.fb k
      have hs := i.sb k
      generalize oI (fsP (fun x => !(t.f w == t.s w) && (btw t (t.f w) (t.s w) x && !(x == w))) 20 0) 20 = res at ih' ⊢
      generalize fsP (fun x => !(t.f w == t.s w) && (btw t (t.f w) (t.s w) x && !(x == w))) (20 - (k + 1)) (k + 1) = old at ih' ⊢
      have no : (!(t.f w == t.s w) && (btw t (t.f w) (t.s w) k && !(k == w))) = false → fl_X8_alike_5 N τ (nI w) (fun v16 => some v16) n (oI old 20) (nI k - 1) = some res := fun h => by
        rw [h, if_neg (by decide)] at ih'; exact ih'
      have yes : (!(t.f w == t.s w) && (btw t (t.f w) (t.s w) k && !(k == w))) = true → fl_X8_alike_5 N τ (nI w) (fun v16 => some v16) n (nI k) (nI k - 1) = some res := fun h => by
        rw [h, if_pos rfl] at ih'
        have : oI k 20 = nI k := if_pos (by omega)
        rw [this] at ih'; exact ih'
      rw [nI_pred, fl_X8_alike_5, if_neg (nI_pos (by omega))]
      simp only [gI, r.wr]
      rw [v_isIn8 (by omega) (by omega), bP_s]
      simp only [al_ends r i (show k < 20 by omega) hw]
      simp (disch := omega) only [jn_e, if_bI0, rI_n, r.f w hw, r.s w hw, nI_eq, m1_eq]
      simp only [if_true, if_neg (show ¬ (1 : Int32) = 0 by decide), ite_self]
      cases hwr : t.wr.testBit k
      · simp only [Bool.false_eq_true, if_false]
        exact no (by unfold btw; rw [hwr]; simp)
      · simp only [if_true]
        by_cases y1 : k = w
        · rw [if_pos y1]
          exact no (by rw [y1]; simp)
        · rw [if_neg y1]
          by_cases y2 : t.f w = t.s w
          · rw [if_pos y2]
            exact no (by rw [beq_iff_eq.mpr y2]; rfl)
          · rw [if_neg y2]
            cases he : ends t (t.f w) (t.s w) k
            · rw [if_neg (by decide)]
              exact no (by unfold btw; rw [he]; simp)
            · rw [if_pos rfl]
              exact yes (by unfold btw; rw [he, hwr, beq_false_of_ne y1, beq_false_of_ne y2]; rfl)
  have h := go 20 N (by omega) (by omega)
  have hz : oI (fsP (fun x => !(t.f w == t.s w) && (btw t (t.f w) (t.s w) x && !(x == w))) (20 - 20) 20) 20 = -1 := rfl
  rw [hz] at h
  unfold f_X8_alike
  refine h.trans ?_
  cases hr : t.f w == t.s w
  · rw [if_neg (by decide)]
    unfold othW
    congr 2
  · rw [if_pos rfl]
    have : fsP (fun x => !true && (btw t (t.f w) (t.s w) x && !(x == w))) 20 0 = 20 := by
      obtain ⟨q1, q2, q3, q4⟩ := fsP_spec (fun x => !true && (btw t (t.f w) (t.s w) x && !(x == w))) 20 0
      refine Classical.byContradiction fun q => ?_
      have := q4 (by omega)
      exact absurd this (by simp)
    rw [this]; rfl
end mfinds
