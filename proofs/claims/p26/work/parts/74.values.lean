/-! VALUES, POTENTIALS, CURRENTS, THE POWER. -/
theorem i64_lZ (x : Int32) : x.toInt64 = lZ x.toInt := by
  have h1 := x.le_toInt
  have h2 := x.toInt_lt
  apply Int64.toInt_inj.mp
  rw [Int32.toInt_toInt64, lZ_t (by omega) (by omega)]
def smI (f : Nat → Int) : Nat → Int
  | 0 => 0
  | n + 1 => smI f n + f n
theorem smI_bound {f : Nat → Int} {p : Nat → Bool} {B : Nat} : ∀ n, (∀ i, i < n → (p i = true → (f i).natAbs ≤ B) ∧ (p i = false → f i = 0)) → (smI f n).natAbs ≤ fb_ct p n * B
  | 0, _ => by show Int.natAbs 0 ≤ _; simp
  | n + 1, h => by
    have ih := smI_bound (f := f) (p := p) (B := B) n (fun i hi => h i (by omega))
    have hn := h n (by omega)
    rw [fb_ct_succ]
    show (smI f n + f n).natAbs ≤ _
    have h1 := Int.natAbs_add_le (smI f n) (f n)
    cases hp : p n
    · rw [hn.2 hp] at h1 ⊢
      simp only [Bool.false_eq_true, if_false, Nat.add_zero, Int.add_zero] at *
      exact ih
    · have := hn.1 hp
      simp only [if_true]
      rw [Nat.add_mul, Nat.one_mul]
      omega
noncomputable def curT (t : Nt) (v : Nat → Int) (e o : Nat) : Int := if o ≠ e ∧ t.ed.testBit o = true then (v e - v o) * (cntC t (mn t.ed (2 ^ e)) e o : Int) else 0
noncomputable def cur (t : Nt) (v : Nat → Int) (e : Nat) : Int := smI (curT t v e) 7
noncomputable def potT (t : Nt) (v : Nat → Int) (n e : Nat) : Int := if t.ed.testBit e = true then v e * (cntC t t.ed n e : Int) else 0
noncomputable def pot (t : Nt) (v : Nat → Int) (n : Nat) : Int := smI (potT t v n) 7
noncomputable def powT (t : Nt) (v : Nat → Int) (e : Nat) : Int := if t.ed.testBit e = true then v e * cur t v e else 0
noncomputable def pow' (t : Nt) (v : Nat → Int) : Int := smI (powT t v) 7
theorem pc_mn {S e : Nat} (hS : S < 128) (he : S.testBit e = true) : pc (mn S (2 ^ e)) + 1 = pc S := by
  have h7 := bit7 hS he
  unfold pc
  have h1 := ct_pull (fun k => S.testBit k) e 20
  rw [if_pos ⟨by omega, he⟩] at h1
  rw [h1]
  congr 1
  refine fb_ct_cong (fun k _ => ?_)
  rw [mn_bit, Nat.testBit_two_pow]
  congr 2
  by_cases h : e = k
  · subst h; simp
  · have h' : ¬ k = e := fun e => h e.symm
    simp [h, h']
theorem cur_bound {t : Nt} (i : IN t) {v : Nat → Int} (hv : ∀ j, j < 7 → -99 ≤ v j ∧ v j ≤ 99) {e : Nat} (he : t.ed.testBit e = true) : (cur t v e).natAbs ≤ (pc t.ed - 1) * (198 * (2 ^ 12 * 60 ^ (pc t.nd - (pc t.ed - 1)))) := by
  have h7 := i.ed7
  have he7 := bit7 h7 he
  have hp := pc_mn h7 he
  have hc : fb_ct (fun o => t.ed.testBit o && !(o == e)) 7 = pc t.ed - 1 := by
    rw [pc_upto (n := 7) h7 (by omega)]
    have := ct_pull (fun k => t.ed.testBit k) e 7
    rw [if_pos ⟨he7, he⟩] at this
    omega
  rw [← hc]
  refine smI_bound 7 (fun o ho => ⟨fun hp' => ?_, fun hp' => ?_⟩)
  · rw [Bool.and_eq_true, Bool.not_eq_true', beq_eq_false_iff_ne] at hp'
    unfold curT
    rw [if_pos ⟨hp'.2, hp'.1⟩, Int.natAbs_mul]
    have hb := cnt_bound i (mn t.ed (2 ^ e)) e o
    rw [show pc (mn t.ed (2 ^ e)) = pc t.ed - 1 by omega] at hb
    have h1 := hv e he7
    have h2 := hv o ho
    have h3 : (v e - v o).natAbs ≤ 198 := by omega
    exact Nat.mul_le_mul h3 (by rw [hc]; exact hb)
  · unfold curT
    refine if_neg (fun q => ?_)
    rw [q.2] at hp'
    simp at hp'
    exact q.1 hp'
theorem pow_fin : ∀ k : Fin 8, k.val * (99 * ((k.val - 1) * (198 * (2 ^ 12 * 60 ^ (7 - (k.val - 1)))))) < 2 ^ 63 := by decide +kernel
theorem cur_fin : ∀ k : Fin 8, (k.val - 1) * (198 * (2 ^ 12 * 60 ^ (7 - (k.val - 1)))) < 2 ^ 63 := by decide +kernel
theorem cur_lt {t : Nt} (i : IN t) {v : Nat → Int} (hv : ∀ j, j < 7 → -99 ≤ v j ∧ v j ≤ 99) {e : Nat} (he : t.ed.testBit e = true) : (cur t v e).natAbs ≤ (pc t.ed - 1) * (198 * (2 ^ 12 * 60 ^ (7 - (pc t.ed - 1)))) :=
  Nat.le_trans (cur_bound i hv he) (Nat.mul_le_mul_left _ (Nat.mul_le_mul_left _ (Nat.mul_le_mul_left _ (Nat.pow_le_pow_right (by decide) (by have := pc_le7 i.nd7; omega)))))
theorem cur_63 {t : Nt} (i : IN t) {v : Nat → Int} (hv : ∀ j, j < 7 → -99 ≤ v j ∧ v j ≤ 99) {e : Nat} (he : t.ed.testBit e = true) : -2 ^ 63 < cur t v e ∧ cur t v e < 2 ^ 63 := by
  have h1 := cur_lt i hv he
  have h2 := cur_fin ⟨pc t.ed, by have := pc_le7 i.ed7; omega⟩
  simp only at h2
  generalize (pc t.ed - 1) * (198 * (2 ^ 12 * 60 ^ (7 - (pc t.ed - 1)))) = z at h1 h2
  omega
theorem pow_63 {t : Nt} (i : IN t) {v : Nat → Int} (hv : ∀ j, j < 7 → -99 ≤ v j ∧ v j ≤ 99) : -2 ^ 63 < pow' t v ∧ pow' t v < 2 ^ 63 := by
  have h2 := pow_fin ⟨pc t.ed, by have := pc_le7 i.ed7; omega⟩
  simp only at h2
  have h1 : (pow' t v).natAbs ≤ fb_ct (fun o => t.ed.testBit o) 7 * (99 * ((pc t.ed - 1) * (198 * (2 ^ 12 * 60 ^ (7 - (pc t.ed - 1)))))) := by
    refine smI_bound 7 (fun o ho => ⟨fun hp' => ?_, fun hp' => ?_⟩)
    · unfold powT
      rw [if_pos hp', Int.natAbs_mul]
      have h1 := hv o ho
      exact Nat.mul_le_mul (by omega) (cur_lt i hv hp')
    · unfold powT
      exact if_neg (fun q => by rw [q] at hp'; exact absurd hp' (by decide))
  rw [← pc_upto (n := 7) i.ed7 (by omega)] at h1
  generalize pc t.ed * (99 * ((pc t.ed - 1) * (198 * (2 ^ 12 * 60 ^ (7 - (pc t.ed - 1)))))) = z at h1 h2
  omega
theorem pot_63 {t : Nt} (i : IN t) {v : Nat → Int} (hv : ∀ j, j < 7 → -99 ≤ v j ∧ v j ≤ 99) (n : Nat) : -2 ^ 63 < pot t v n ∧ pot t v n < 2 ^ 63 := by
  have h1 : (pot t v n).natAbs ≤ fb_ct (fun o => t.ed.testBit o) 7 * (99 * (2 ^ 12 * 60 ^ 7)) := by
    refine smI_bound 7 (fun o ho => ⟨fun hp' => ?_, fun hp' => ?_⟩)
    · unfold potT
      rw [if_pos hp', Int.natAbs_mul]
      have h1 := hv o ho
      refine Nat.mul_le_mul (by omega) ?_
      have h2 := cnt_bound i t.ed n o
      exact Nat.le_trans h2 (Nat.mul_le_mul_left _ (Nat.pow_le_pow_right (by decide) (by have := pc_le7 i.nd7; omega)))
    · unfold potT
      exact if_neg (fun q => by rw [q] at hp'; exact absurd hp' (by decide))
  have h2 : fb_ct (fun o => t.ed.testBit o) 7 ≤ 7 := fb_ct_le _ 7
  have h3 := Nat.mul_le_mul_right (99 * (2 ^ 12 * 60 ^ 7)) h2
  have h4 : 7 * (99 * (2 ^ 12 * 60 ^ 7)) < 2 ^ 63 := by decide
  omega
section vals
variable {N : Nat} {t : Nt}
theorem v_valueOf {σ : Wd} {e : Nat} (he : e < 7) : f_X7_valueOf N σ (nI e) = some (lZ (σ.1 57 e).toInt) := by
  unfold f_X7_valueOf
  simp (disch := omega) only [lt0, if_false, lq7, nI_leI, if_neg, rI_n, i64_lZ]
theorem v_cur5 {ρ : Type} {K : Int64 → Wd → Option ρ} (i : IN t) (hN : 100 ≤ N) {v : Nat → Int} {e : Nat} (he : e < 7) : ∀ d k n (s : Wd), k + d = 7 → d < n → RN s t → (∀ j, j < 7 → (s.1 57 j).toInt = v j) →
    ∃ s', fl_X7_upperOfCurrent_5 N (nI e) K n (lZ (smI (curT t v e) k)) (nI k) s = K (lZ (cur t v e)) s' ∧ FrC s s' := by
  intro d
  induction d with
  | zero =>
    intro k n s hk hn r hv
    obtain ⟨n, rfl⟩ : ∃ m, n = m + 1 := ⟨n - 1, by omega⟩
    have hk : k = 7 := by omega
    subst hk
    refine ⟨s, ?_, FrC.rfl' s⟩
    rw [fl_X7_upperOfCurrent_5, lq7, if_pos (nI_le (Nat.le_refl _) (by omega))]
    rfl
  | succ d ih =>
    intro k n s hk hn r hv
    obtain ⟨n, rfl⟩ : ∃ m, n = m + 1 := ⟨n - 1, by omega⟩
    have e0 : smI (curT t v e) (k + 1) = smI (curT t v e) k + curT t v e k := rfl
    rw [fl_X7_upperOfCurrent_5]
    simp (disch := omega) only [lq7, nI_leI, if_neg, jn_e, nI_1, nI_eq]
    by_cases q : k = e
    · rw [if_pos q]
      obtain ⟨s', e1, f1⟩ := ih (k + 1) n s (by omega) (by omega) r hv
      rw [e0, show curT t v e k = 0 from if_neg (fun z => z.1 q), Int.add_zero] at e1
      exact ⟨s', e1, f1⟩
    · rw [if_neg q, v_hasEdge r i, bP_s, if_bI0, inS_n (by omega)]
      cases hb : t.ed.testBit k
      · obtain ⟨s', e1, f1⟩ := ih (k + 1) n s (by omega) (by omega) r hv
        rw [e0, show curT t v e k = 0 from if_neg (fun z => by rw [hb] at z; exact absurd z.2 (by decide)), Int.add_zero] at e1
        exact ⟨s', e1, f1⟩
      · obtain ⟨s1, e1, f1⟩ := v_upperOfAnswer (N := N) r i hN he (show k < 7 by omega)
        obtain ⟨s', e2, f2⟩ := ih (k + 1) n s1 (by omega) (by omega) (f1.RN r) (fun j hj => by rw [f1.2 57 (by omega)]; exact hv j hj)
        refine ⟨s', ?_, f1.trans f2⟩
        rw [e0, show curT t v e k = (v e - v k) * (cntC t (mn t.ed (2 ^ e)) e k : Int) from if_pos ⟨q, hb⟩] at e2
        simp only [if_true]
        rw [v_valueOf he, bP_s, v_valueOf (by omega), bP_s, e1, bS_s, hv e he, hv k (by omega), lZ_sub, lN_lZ, lZ_mul]
        simp only [lL]
        rw [lZ_add]
        exact e2
theorem v_upperOfCurrent {σ : Wd} (r : RN σ t) (i : IN t) (hN : 100 ≤ N) {v : Nat → Int} {e : Nat} (he : e < 7) (hv : ∀ j, j < 7 → (σ.1 57 j).toInt = v j) : ∃ σ', f_X7_upperOfCurrent N σ (nI e) = some (lZ (cur t v e), σ') ∧ FrC σ σ' :=
  v_cur5 (K := fun v9 s10 => some (v9, s10)) i hN he 7 0 N σ (by omega) (by omega) r hv
end vals
