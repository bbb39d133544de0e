/-! THE LAW'S SMALL METHODS. -/
theorem u32_nI (u : UInt32) : u.toInt32 = nI u.toNat := by
  apply Int32.toBitVec_inj.mp
  apply BitVec.eq_of_toNat_eq
  show u.toBitVec.toNat = (BitVec.ofNat 32 u.toNat).toNat
  rw [BitVec.toNat_ofNat, UInt32.toNat_toBitVec]
  exact (Nat.mod_eq_of_lt (UInt32.toNat_lt u)).symm
theorem ush1 (a : Int32) : (Int32.toUInt32 a >>> (Int32.toUInt32 1 &&& Int32.toUInt32 31)).toInt32 = nI (a.toUInt32.toNat / 2) := by
  have h : (Int32.toUInt32 a >>> (Int32.toUInt32 1 &&& Int32.toUInt32 31)).toNat = a.toUInt32.toNat / 2 := by
    rw [show (Int32.toUInt32 1 &&& Int32.toUInt32 31) = 1 by decide, UInt32.toNat_shiftRight]
    rfl
  rw [← h]
  exact u32_nI _
/-- a number below n -/
theorem v_low {N : Nat} (v : Int32) {n : Nat} (h0 : 0 < n) (hn : n < 2 ^ 31) : ∃ k, k < n ∧ f_L_low N v (nI n) = some (nI k) := by
  have hb : v.toUInt32.toNat < 2 ^ 32 := UInt32.toNat_lt _
  refine ⟨v.toUInt32.toNat / 2 % n, Nat.mod_lt _ h0, ?_⟩
  unfold f_L_low
  rw [ush1, mIn (by omega) h0 hn]
/-- and with an edge's bit -/
theorem and_bit {A k : Nat} (hA : A < 2 ^ 31) (hk : k < 31) : ((nI A &&& (1 <<< (nI k &&& 31))) ≤ 0) ↔ A.testBit k = false := by
  rw [c_shl hk, fa_and]
  have h2 : A &&& 2 ^ k ≤ A := Nat.and_le_left
  rw [lq0, nI_leI (by omega) (by omega), Nat.le_zero, fb_bit_nat]
theorem and_bit0 {A k : Nat} (hA : A < 2 ^ 31) (hk : k < 31) : ((nI A &&& (1 <<< (nI k &&& 31))) = 0) ↔ A.testBit k = false := by
  rw [c_shl hk, fa_and]
  have h2 : A &&& 2 ^ k ≤ A := Nat.and_le_left
  rw [lq0, nI_eq (by omega) (by omega), fb_bit_nat]
theorem nd_and {t : Nt} (i : IN t) : t.nd &&& t.ed = t.ed := by rw [Nat.and_comm]; exact ed_and i
/-- the lowest one taken away -/
theorem low_off : ∀ S : Fin 128, S.val ≠ 0 → ∃ l : Fin 7, S.val.testBit l.val = true ∧ S.val &&& (S.val - 1) = mn S.val (2 ^ l.val) ∧ ∀ k : Fin 7, k.val < l.val → S.val.testBit k.val = false := by decide +kernel
section small
variable {N : Nat} {ν : Wd} {t : Nt}
theorem v_wO6 {ρ : Type} {K : Int32 → Option ρ} (r : RQ ν t) (i : IN t) {v : Nat} (hv : v < 7) : ∀ d k n, k + d = t.nW → d < n → fl_L_wiresOf_6 N ν (nI v) K n (nI (stB (atB t v) k)) (nI k) = K (nI (stB (atB t v) t.nW)) := by
  have hW := i.nW
  have h20 := i.wr20
  intro d
  induction d with
  | zero =>
    intro k n hk hn
    obtain ⟨n, rfl⟩ : ∃ m, n = m + 1 := ⟨n - 1, by omega⟩
    rw [fl_L_wiresOf_6, rg_3 r, if_pos (nI_le (by omega) (by omega)), show k = t.nW by omega]
  | succ d ih =>
    intro k n hk hn
    obtain ⟨n, rfl⟩ : ∃ m, n = m + 1 := ⟨n - 1, by omega⟩
    have hkW : k < t.nW := by omega
    have hf := i.fb k
    have hs := i.sb k
    have ih' := ih (k + 1) n (by omega) (by omega)
    have e0 : stB (atB t v) (k + 1) = if atB t v k = true then stB (atB t v) k ||| 2 ^ k else stB (atB t v) k := rfl
    have eA : atB t v k = (t.wr.testBit k && (t.f k == v || t.s k == v)) := rfl
    rw [e0, eA] at ih'
    have q1 : (nI (t.f k) = nI v) ↔ t.f k = v := nI_eq (by omega) (by omega)
    have q2 : (nI (t.s k) = nI v) ↔ t.s k = v := nI_eq (by omega) (by omega)
    rw [fl_L_wiresOf_6, rg_3 r, if_neg (nI_ge hkW (by omega)), rg_4 r, jn_e, c_in (by omega) (by omega), if_bI1]
    simp only [rp_1 r i hkW, rp_2 r i hkW, jn_e, lI, q1, q2, nI_1]
    rw [c_shl (by omega), fa_or]
    cases hw : t.wr.testBit k
    · rw [hw] at ih'
      simpa using ih'
    · rw [hw] at ih'
      by_cases a1 : t.f k = v
      · simpa [a1] using ih'
      · by_cases a2 : t.s k = v
        · simpa [a1, a2] using ih'
        · simpa [a1, a2] using ih'
theorem stB_out {p : Nat → Bool} {a b : Nat} (hab : a ≤ b) (h : ∀ k, a ≤ k → p k = false) : stB p b = stB p a := by
  apply Nat.eq_of_testBit_eq
  intro k
  apply Bool.eq_iff_iff.mpr
  rw [stB_bit, stB_bit]
  constructor
  · rintro ⟨h1, h2⟩
    refine ⟨?_, h2⟩
    rcases Nat.lt_or_ge k a with z | z
    · exact z
    · rw [h k z] at h2; exact absurd h2 (by decide)
  · rintro ⟨h1, h2⟩
    exact ⟨by omega, h2⟩
theorem wr_out (i : IN t) {k : Nat} (h : t.nW ≤ k) : t.wr.testBit k = false := Nat.testBit_lt_two_pow (Nat.lt_of_lt_of_le i.wr (Nat.pow_le_pow_right (by decide) h))
theorem v_wiresOf (r : RQ ν t) (i : IN t) (hN : 100 ≤ N) {v : Nat} (hv : v < 7) : f_L_wiresOf N ν (nI v) = some (nI (WA t v)) := by
  have hW := i.nW
  have h := v_wO6 (N := N) (K := fun v7 => some v7) r i hv t.nW 0 N (by omega) (by omega)
  unfold WA
  rw [stB_out hW (fun k hk => by show (t.wr.testBit k && _) = false; rw [wr_out i hk]; rfl)]
  exact h
/-- the lowest one of a set of wires -/
theorem v_lowest (hN : 100 ≤ N) {S : Nat} (hS : S < 2 ^ 20) {k : Nat} (hk : S.testBit k = true) (hlow : ∀ j, j < k → S.testBit j = false) : f_L_lowest N (nI S) = some (nI k) := by
  have hk20 := bit_lt hS hk
  have go : ∀ d j n, j + d = k → d < n → fl_L_lowest_2 N (nI S) (fun v1 => some v1) n (nI j) = some (nI k) := by
    intro d
    induction d with
    | zero =>
      intro j n hj hn
      obtain ⟨n, rfl⟩ : ∃ m, n = m + 1 := ⟨n - 1, by omega⟩
      rw [fl_L_lowest_2, c_in (by omega) (by omega), if_bI0, show j = k by omega, hk, if_pos rfl]
    | succ d ih =>
      intro j n hj hn
      obtain ⟨n, rfl⟩ : ∃ m, n = m + 1 := ⟨n - 1, by omega⟩
      rw [fl_L_lowest_2, c_in (by omega) (by omega), if_bI0, hlow j (by omega), if_neg (by decide), nI_1]
      exact ih (j + 1) n (by omega) (by omega)
  exact go k 0 N (by omega) (by omega)
/-- the same with the least number of a set -/
theorem v_lowestP (hN : 100 ≤ N) {p : Nat → Bool} {S : Nat} (hS : S < 2 ^ 20) (hp : ∀ k, k < 20 → S.testBit k = p k) (h : fsP p 20 0 < 20) : f_L_lowest N (nI S) = some (nI (fsP p 20 0)) := by
  obtain ⟨h1, h2, h3, h4⟩ := fsP_spec p 20 0
  refine v_lowest hN hS (by rw [hp _ h]; exact h4 (by omega)) (fun j hj => ?_)
  rw [hp j (by omega)]
  exact h3 j (Nat.zero_le _) hj
/-- what a call that changes the network in the law's rows leaves of the rest -/
def FrL (ν ν' : Wd) : Prop := ν'.2 = ν.2 ∧ (∀ p, 3 < p → ν'.1 p = ν.1 p) ∧ ν'.1 0 5 = ν.1 0 5
theorem FrL.rfl' (ν : Wd) : FrL ν ν := ⟨rfl, fun _ _ => rfl, rfl⟩
theorem FrL.trans {a b c : Wd} (h : FrL a b) (g : FrL b c) : FrL a c := ⟨g.1.trans h.1, fun p hp => (g.2.1 p hp).trans (h.2.1 p hp), g.2.2.trans h.2.2⟩
theorem FrL.put {ν : Wd} {q k : Nat} {v : Int32} (h : 1 ≤ q ∧ q ≤ 3 ∨ (q = 0 ∧ k ≠ 5)) : FrL ν (sI ν q k v) := by
  refine ⟨rfl, fun p hp => sI_place (by omega), ?_⟩
  rw [sI_at]
  exact if_neg (fun z => by omega)
theorem v_adds (r : RQ ν t) (h : t.nW < 20) (x y c : Nat) : ∃ ν', f_L_adds N ν (nI x) (nI y) (nI c) = some (nI t.nW, ν') ∧ RQ ν' (t.addW x y c) ∧ FrL ν ν' := by
  refine ⟨sI (sI (sI (sI (sI ν 0 3 (nI (t.nW + 1))) 1 t.nW (nI x)) 2 t.nW (nI y)) 3 t.nW (nI c)) 0 4 (nI (t.wr ||| 2 ^ t.nW)), ?_, ?_, ?_⟩
  · unfold f_L_adds
    rw [rg_3 r]
    simp (disch := omega) only [lq3, lq4, aI_n, rI_n, nI_1, sI_slot, sI_place, r.wr, c_shl, fa_or]
  · refine ⟨?_, ?_, ?_, ?_, ?_, fun w hw => ?_, fun w hw => ?_, fun w hw => ?_⟩
    · simp (disch := omega) only [sI_slot, sI_place]; exact r.nN
    · simp (disch := omega) only [sI_slot, sI_place]; exact r.nd
    · simp (disch := omega) only [sI_slot, sI_place]; exact r.ed
    · simp (disch := omega) only [sI_slot, sI_place, sI_same]; rfl
    · simp (disch := omega) only [sI_same]; rfl
    · have hw' : w < t.nW + 1 := hw
      show _ = nI (upN t.f t.nW x w)
      by_cases e : w = t.nW
      · subst e
        simp (disch := omega) only [sI_place, sI_same, upN_s]
      · simp (disch := omega) only [sI_place, sI_slot, upN_o]; exact r.f w (by omega)
    · have hw' : w < t.nW + 1 := hw
      show _ = nI (upN t.s t.nW y w)
      by_cases e : w = t.nW
      · subst e
        simp (disch := omega) only [sI_place, sI_same, upN_s]
      · simp (disch := omega) only [sI_place, sI_slot, upN_o]; exact r.s w (by omega)
    · have hw' : w < t.nW + 1 := hw
      show _ = nI (upN t.c t.nW c w)
      by_cases e : w = t.nW
      · subst e
        simp (disch := omega) only [sI_place, sI_same, upN_s]
      · simp (disch := omega) only [sI_place, sI_slot, upN_o]; exact r.c w (by omega)
  · exact ((((FrL.put (Or.inr ⟨rfl, by omega⟩)).trans (FrL.put (Or.inl (by omega)))).trans (FrL.put (Or.inl (by omega)))).trans (FrL.put (Or.inl (by omega)))).trans (FrL.put (Or.inr ⟨rfl, by omega⟩))
theorem v_isThere (r : RQ ν t) (i : IN t) {k w : Nat} (hk : k ≤ 5) (hw : w < 31) : f_L_isThere N ν (nI k) (nI w) = some (bI (if (k == 0 || k == 1 || k == 5) = true then t.wr.testBit w else t.nd.testBit w)) := by
  have h7 := i.nd7
  have h20 := i.wr20
  unfold f_L_isThere
  simp only [jn_e, rg_4 r, rg_1 r]
  rw [c_in (by omega) hw, c_in (by omega) hw, if_bI1, if_bI1, bI_if, bI_if]
  rcases (show k = 0 ∨ k = 1 ∨ k = 2 ∨ k = 3 ∨ k = 4 ∨ k = 5 by omega) with rfl | rfl | rfl | rfl | rfl | rfl <;> rfl
end small
