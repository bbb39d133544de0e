/-! THE LAW'S MINORS: the walk over the sets. -/
theorem sg_par : ∀ n, sg n = if n % 2 = 0 then 1 else -1
  | 0 => rfl
  | n + 1 => by
    show - sg n = _
    rw [sg_par n]
    rcases Nat.mod_two_eq_zero_or_one n with h | h
    · rw [if_pos h, if_neg (by omega)]
    · rw [if_neg (by omega), if_pos (by omega)]; rfl
/-- what the two rows hold: the labels, and a value for each set -/
def MI (τ : Wd) (L : List Nat) (v : Nat → Int) : Prop := (∀ j, j < L.length → τ.1 13 j = nI (L.getD j 0)) ∧ ∀ X, X < 2 ^ L.length → τ.2 12 X = lZ (v X)
/-- the entries by places -/
def eA (t : Nt) (ao : Option (Nat × Nat)) (L : List Nat) (r k : Nat) : Int := en t ao (L.getD r 0) (L.getD k 0)
section mwalk
variable {N : Nat} {ν : Wd} {t : Nt} {x1 x2 : Int32}
theorem p6 {m : Nat} (h : m ≤ 6) : 2 ^ m ≤ 64 := Nat.pow_le_pow_right (show 0 < 2 by decide) h
theorem v_m104 {ρ : Type} {K : Wd → Option ρ} (r : RQ ν t) (i : IN t) (hN : 100 ≤ N) {ao : Option (Nat × Nat)} (h : AT x1 x2 ao) {L : List Nat} (hL : ∀ j, j < L.length → L.getD j 0 < 7) (hm : L.length ≤ 6) {s : Nat} (hs : s < 2 ^ L.length) (hps : pc s < L.length) : ∀ d k n (τ : Wd), k + d = L.length → d < n → MI τ L (vlX (eA t ao L) s k) →
    ∃ τ', fl_L_minor_104 N ν x1 x2 (nI L.length) (nI s) (nI (pc s)) K n (nI k) τ = K τ' ∧ MI τ' L (vlX (eA t ao L) s L.length) := by
  have h64 := p6 hm
  intro d
  induction d with
  | zero =>
    intro k n τ hk hn hI
    obtain ⟨n, rfl⟩ : ∃ m, n = m + 1 := ⟨n - 1, by omega⟩
    have ek : L.length = k := by omega
    refine ⟨τ, ?_, by rw [ek]; exact hI⟩
    rw [fl_L_minor_104, if_pos (nI_le (by omega) (by omega))]
  | succ d ih =>
    intro k n τ hk hn hI
    obtain ⟨n, rfl⟩ : ∃ m, n = m + 1 := ⟨n - 1, by omega⟩
    rw [fl_L_minor_104, if_neg (nI_ge (by omega) (by omega)), c_in (by omega) (by omega), jn_e, if_bI1]
    rcases Bool.eq_false_or_eq_true (s.testBit k) with hb | hb
    · rw [if_pos hb, nI_1]
      refine ih (k + 1) n τ (by omega) (by omega) ⟨hI.1, fun X hX => ?_⟩
      rw [hI.2 X hX]
      unfold vlX
      rw [ptX_keep (fun q => by
        have : (mn X (2 ^ k)).testBit k = true := by rw [q.2]; exact hb
        rw [mn_bit, Nat.testBit_two_pow] at this
        simp at this)]
    · rw [if_neg (by rw [hb]; decide)]
      simp only [lI]
      have h134 : ∀ K' : Int32 → Option ρ, fl_L_minor_134 N ν τ x1 x2 (nI L.length) (nI s) (nI (pc s)) (nI k) K' N 0 (nI (k + 1)) = K' (nI (fb_ct (fun z => s.testBit (k + 1 + z)) (L.length - (k + 1)))) := fun (K' : Int32 → Option ρ) => v_m134 (N := N) (ν := ν) (x1 := x1) (x2 := x2) (K := K') (τ := τ) (x11 := nI (pc s)) (x12 := nI k) (s := s) (m := L.length) (k0 := k + 1) (by omega) (by omega) (L.length - (k + 1)) 0 N (by omega) (by omega)
      rw [nI_1, h134]
      -- how many stand behind
      have hB : fb_ct (fun z => s.testBit (k + 1 + z)) (L.length - (k + 1)) = (cL s (k + 1) (6 - k)).length := by
        rw [cL_len]
        have e : 6 - k = (L.length - (k + 1)) + (7 - L.length) := by omega
        rw [e, fb_ct_split]
        have : fb_ct (fun z => s.testBit (k + 1 + (L.length - (k + 1) + z))) (7 - L.length) = 0 := fb_ct_zero.mpr (fun z _ => Nat.testBit_lt_two_pow (Nat.lt_of_lt_of_le hs (Nat.pow_le_pow_right (by decide) (by omega))))
        omega
      rw [hB]
      have hB7 : (cL s (k + 1) (6 - k)).length ≤ 7 := by rw [cL_len]; exact Nat.le_trans (fb_ct_le _ _) (by omega)
      generalize hBB : (cL s (k + 1) (6 - k)).length = B at hB7
      have hz := hL k (by omega)
      have ha := hL (pc s) hps
      have r13 : ∀ j, j < L.length → ∀ {ρ' : Type} {K' : Int32 → Option ρ'}, rI τ 13 7 (nI j) K' = K' (nI (L.getD j 0)) := fun j hj ρ' K' => by rw [rI_n (by omega) (by omega), hI.1 j hj]
      simp only [r13 k (by omega), r13 (pc s) hps, jn_e, lL]
      have hX : s ||| 2 ^ k < 2 ^ L.length := or_lt hs (Nat.pow_lt_pow_right (by decide) (by omega))
      have hX0 : s ||| 2 ^ k ≠ 0 := fun e => by
        have : (s ||| 2 ^ k).testBit k = true := orb_t.mpr (Or.inr rfl)
        rw [e, Nat.zero_testBit] at this; exact absurd this (by decide)
      have hst := ptX_step (a := eA t ao L) (s := s) (k := k) (by omega) (by omega) hb
      rw [hBB] at hst
      have vX : vlX (eA t ao L) s k (s ||| 2 ^ k) = ptX (eA t ao L) (s ||| 2 ^ k) s k := if_neg hX0
      have vX' : vlX (eA t ao L) s (k + 1) (s ||| 2 ^ k) = ptX (eA t ao L) (s ||| 2 ^ k) s (k + 1) := if_neg hX0
      have vs := vlX_full (a := eA t ao L) (s := s) (k := k) (by omega)
      have done : ∀ v : Int64, v = lZ (ptX (eA t ao L) (s ||| 2 ^ k) s (k + 1)) → ∃ τ', fl_L_minor_104 N ν x1 x2 (nI L.length) (nI s) (nI (pc s)) K n (nI (k + 1)) (sL τ 12 (s ||| 2 ^ k) v) = K τ' ∧ MI τ' L (vlX (eA t ao L) s L.length) := fun v hv => by
        refine ih (k + 1) n _ (by omega) (by omega) ⟨hI.1, fun X hX' => ?_⟩
        rw [sL_at]
        by_cases e : X = s ||| 2 ^ k
        · rw [if_pos ⟨rfl, e⟩, e, vX', hv]
        · rw [if_neg (fun q => e q.2), hI.2 X hX']
          unfold vlX
          rw [ptX_keep (fun q => e ?_)]
          apply Nat.eq_of_testBit_eq
          intro j
          rw [fb_bit_set, ← q.2, mn_bit, Nat.testBit_two_pow]
          by_cases e' : j = k
          · subst e'; rw [q.1]; simp
          · have e'' : ¬ k = j := fun z => e' z.symm
            simp [e', e'']
      rw [v_entry (N := N) r i hN h ha hz]
      have hen : en t ao (L.getD (pc s) 0) (L.getD k 0) = eA t ao L (pc s) k := rfl
      rw [hen]
      simp (disch := omega) only [c_shl, fa_or, rL_n, aL_n, hI.2 _ hX, hI.2 _ hs, vs, vX, lZ_mul, lZ_neg, lZ_add]
      unfold mI
      rw [if_neg (by decide), lq2, pk_rem (by omega) (by omega) (by omega)]
      rw [sg_par] at hst
      rcases Nat.mod_two_eq_zero_or_one B with hB2 | hB2
      · rw [if_pos hB2] at hst
        rw [hB2]
        simp only [show nI 0 = 0 from rfl, if_true]
        exact done _ (by rw [hst, Int.one_mul])
      · rw [if_neg (by omega)] at hst
        rw [hB2]
        simp only [show ¬ nI 1 = 0 by decide, if_false]
        exact done _ (by rw [hst]; congr 1; rw [Int.neg_mul, Int.neg_mul, Int.one_mul])
theorem pc_full {m s : Nat} (hm : m ≤ 7) (hs : s < 2 ^ m - 1) : pc s < m := by
  have hs' : s < 2 ^ m := by omega
  rw [pc_upto hs' (by omega)]
  refine Nat.lt_of_le_of_ne (fb_ct_le _ _) (fun e => ?_)
  -- all bits: the last set
  have hall : ∀ n, fb_ct (fun k => s.testBit k) n = n → ∀ k, k < n → s.testBit k = true := by
    intro n
    induction n with
    | zero => intro _ k hk; omega
    | succ n ih =>
      intro h k hk
      rw [fb_ct_succ] at h
      have h1 := fb_ct_le (fun k => s.testBit k) n
      have hb : s.testBit n = true := by
        cases hb : s.testBit n
        · rw [hb] at h; simp at h; omega
        · rfl
      rw [hb] at h
      simp at h
      by_cases e : k = n
      · rw [e]; exact hb
      · exact ih h k (by omega)
  have ha := hall m e
  have : s = 2 ^ m - 1 := by
    apply Nat.eq_of_testBit_eq
    intro k
    rw [Nat.testBit_two_pow_sub_one]
    by_cases hk : k < m
    · rw [ha k hk, decide_eq_true hk]
    · rw [decide_eq_false hk]
      exact Nat.testBit_lt_two_pow (Nat.lt_of_lt_of_le hs' (Nat.pow_le_pow_right (by decide) (by omega)))
  omega
theorem v_m59 {ρ : Type} {K : Wd → Option ρ} (r : RQ ν t) (i : IN t) (hN : 200 ≤ N) {ao : Option (Nat × Nat)} (h : AT x1 x2 ao) {L : List Nat} (hL : ∀ j, j < L.length → L.getD j 0 < 7) (hm : L.length ≤ 6) : ∀ d s n (τ : Wd), s + d = 2 ^ L.length - 1 → d < n → MI τ L (vlX (eA t ao L) s 0) →
    ∃ τ', fl_L_minor_59 N ν x1 x2 (nI L.length) K n (nI s) τ = K τ' ∧ MI τ' L (vlX (eA t ao L) (2 ^ L.length - 1) 0) := by
  have h64 := p6 hm
  have hp := Nat.two_pow_pos L.length
  have e1 : (1 <<< (nI L.length &&& 31)) - 1 = nI (2 ^ L.length - 1) := by
    rw [c_shl (by omega), lq1, pk_sub (by omega)]
  intro d
  induction d with
  | zero =>
    intro s n τ hk hn hI
    obtain ⟨n, rfl⟩ : ∃ m, n = m + 1 := ⟨n - 1, by omega⟩
    refine ⟨τ, ?_, by rw [show 2 ^ L.length - 1 = s by omega]; exact hI⟩
    rw [fl_L_minor_59, e1, if_pos (nI_le (by omega) (by omega))]
  | succ d ih =>
    intro s n τ hk hn hI
    obtain ⟨n, rfl⟩ : ∃ m, n = m + 1 := ⟨n - 1, by omega⟩
    have hs : s < 2 ^ L.length := by omega
    have h76 := fun (K' : Int32 → Option ρ) => v_m76 (N := N) (ν := ν) (x1 := x1) (x2 := x2) (K := K') (τ := τ) (s := s) (m := L.length) (by omega) (by omega) L.length 0 N (by omega) (by omega)
    have hpc : fb_ct (fun z => s.testBit z) L.length = pc s := (pc_upto hs (by omega)).symm
    obtain ⟨τ1, g1, g2⟩ := v_m104 (N := N) (K := fun s28 => fl_L_minor_59 N ν x1 x2 (nI L.length) K n (nI s + 1) s28) r i (by omega) h hL hm hs (pc_full (by omega) (by omega)) L.length 0 N τ (by omega) (by omega) hI
    obtain ⟨τ2, k1, k2⟩ := ih (s + 1) n τ1 (by omega) (by omega) ⟨g2.1, fun X hX => by
      rw [g2.2 X hX]
      unfold vlX
      rw [ptX_next hX]⟩
    refine ⟨τ2, ?_, k2⟩
    rw [fl_L_minor_59, e1, if_neg (nI_ge (by omega) (by omega))]
    refine (h76 _).trans ?_
    rw [hpc]
    refine g1.trans ?_
    rw [nI_1]
    exact k1
theorem getD_range (L : List Nat) : (List.range L.length).map (fun k => L.getD k 0) = L := by
  apply List.ext_getElem
  · simp
  · intro k h1 h2
    simp at h1
    simp [h1]
theorem v_minorE (r : RQ ν t) (i : IN t) (hN : 200 ≤ N) {ao : Option (Nat × Nat)} (h : AT x1 x2 ao) {S : Nat} (hS : S < 128) (hm : (rts S).length ≤ 6) : f_L_minor N ν (nI S) x1 x2 = some (lZ (dt ((rts S).map (en t ao)) (rts S))) := by
  have hp := rts_pick ⟨S, hS⟩
  simp only at hp
  have hL : ∀ j, j < (rts S).length → (rts S).getD j 0 < 7 := fun j hj => (mem_rts.mp (getD_mem hj)).1
  have h64 := p6 hm
  have h0 := Nat.two_pow_pos (rts S).length
  obtain ⟨τ1, e1, g1, g2⟩ := v_m18 (N := N) (ν := ν) (x1 := x1) (x2 := x2) (K := fun v4 s5 => aL s5 12 64 0 1 fun s6 => fl_L_minor_59 N ν x1 x2 v4 (fun s29 => rL s29 12 64 ((1 <<< (v4 &&& 31)) - 1) fun v30 => some v30) N 0 s6) hS 7 0 N z0 (by omega) (by omega) (fun j hj => absurd hj (Nat.not_lt_zero j))
  rw [← hp] at e1 g1
  obtain ⟨τ2, e2, k1, k2⟩ := v_m59 (N := N) (ν := ν) (x1 := x1) (x2 := x2) (K := fun s29 => rL s29 12 64 ((1 <<< (nI (rts S).length &&& 31)) - 1) fun v30 => some v30) r i hN h hL hm (2 ^ (rts S).length - 1) 0 N (sL τ1 12 0 1) (by omega) (by omega) ⟨g1, fun X hX => by
    rw [sL_at]
    by_cases e : X = 0
    · rw [if_pos ⟨rfl, e⟩, e]; rfl
    · rw [if_neg (fun q => e q.2), g2]
      unfold vlX
      rw [if_neg e, ptX_0]; rfl⟩
  have hF : FX (eA t ao (rts S)) (2 ^ (rts S).length - 1) = dt ((rts S).map (en t ao)) (rts S) := by
    have hc := cL_all ⟨(rts S).length, by omega⟩
    simp only at hc
    have hpc : pc (2 ^ (rts S).length - 1) = (rts S).length := by rw [← cL_pc (by omega), hc]; simp
    unfold FX
    rw [hpc, hc]
    have e1 : rwM (eA t ao (rts S)) (rts S).length = ((List.range (rts S).length).map (fun r => en t ao ((rts S).getD r 0))).map (fun f k => f ((rts S).getD k 0)) := by
      unfold rwM
      rw [List.map_map]
      rfl
    rw [e1, dt_mapc, getD_range]
    have e2 : (List.range (rts S).length).map (fun r => en t ao ((rts S).getD r 0)) = ((List.range (rts S).length).map (fun k => (rts S).getD k 0)).map (en t ao) := by rw [List.map_map]; rfl
    rw [e2, getD_range]
  unfold f_L_minor
  refine e1.trans ?_
  show (aL τ1 12 64 (nI 0) 1 fun s6 => _) = _
  rw [aL_n (by omega) (by omega)]
  refine e2.trans ?_
  rw [c_shl (by omega), lq1, pk_sub (by omega), rL_n (by omega) (by omega), k2 _ (by omega), vlX_full (by omega), hF]
theorem rts_len' {R : Nat} (h : R < 128) : (rts R).length = pc R := rts_len h
/-- a minor without an exchange -/
theorem v_minor0 (r : RQ ν t) (i : IN t) (hN : 200 ≤ N) {S : Nat} (hS : ∀ k, S.testBit k = true → t.nd.testBit k = true) (hm : pc S ≤ 6) : f_L_minor N ν (nI S) (-1) (-1) = some (lN (cntC t (mn t.nd S) 0 0)) := by
  have h7 := nd_in i hS
  rw [v_minorE (ao := none) r i hN rfl h7 (by rw [rts_len h7]; exact hm)]
  have e : dt ((rts S).map (en t none)) (rts S) = dt ((rts S).map (Am t)) (rts S) := rfl
  rw [e, minor0 i hS]
  rfl
/-- a minor with the column of c exchanged for that of j -/
theorem v_minor1 (r : RQ ν t) (i : IN t) (hN : 200 ≤ N) {S c j : Nat} (hS : ∀ k, S.testBit k = true → t.nd.testBit k = true) (hm : pc S ≤ 6) (hc : S.testBit c = true) (hj : t.nd.testBit j = true) (hjS : S.testBit j = false) : f_L_minor N ν (nI S) (nI c) (nI j) = some (lN (cntC t (mn t.nd S) c j)) := by
  have h7 := nd_in i hS
  have c7 := bit7 h7 hc
  have j7 := bit7 i.nd7 hj
  rw [v_minorE (ao := some (c, j)) r i hN ⟨rfl, rfl, c7, j7⟩ h7 (by rw [rts_len h7]; exact hm)]
  have hin : ∀ z, z ∈ rts S ↔ S.testBit z = true := fun z => by
    rw [mem_rts]; exact ⟨fun q => q.2, fun q => ⟨bit7 h7 q, q⟩⟩
  obtain ⟨P, Q, hL⟩ := List.append_of_mem ((hin c).mpr hc)
  have hn : (P ++ c :: Q).Nodup := hL ▸ rts_nodup S
  have hperm : (P ++ c :: Q).Perm (c :: (P ++ Q)) := List.perm_middle
  have hcn := (List.nodup_cons.mp (hperm.nodup_iff.mp hn)).1
  have hjn : j ∉ rts S := fun q => by rw [(hin j).mp q] at hjS; exact absurd hjS (by decide)
  have hjPQ : j ∉ P ++ Q := fun q => hjn (by rw [hL]; exact hperm.mem_iff.mpr (List.mem_cons_of_mem _ q))
  have e1 : dt ((rts S).map (en t (some (c, j)))) (rts S) = dt (((rts S).map (fun a => ng j (Am t a))).map (fun f k => f (if k = c then j else k))) (rts S) := by
    rw [List.map_map]
    refine dt_map_congr (rts S) (by simp) (fun k f g h1 h2 z hz => ?_)
    rw [List.getElem?_map] at h1 h2
    cases hk : (rts S)[k]? with
    | none => rw [hk] at h1; cases h1
    | some a =>
      rw [hk] at h1 h2
      cases h1
      cases h2
      have haS := List.mem_of_getElem? hk
      show (if z = c then (bs t a j 20 : Int) else Am t a z) = ng j (Am t a) (if z = c then j else z)
      by_cases e : z = c
      · rw [if_pos e, if_pos e]
        show _ = if j = j then - Am t a j else _
        rw [if_pos rfl, Am_ne (fun q : a = j => hjn (q ▸ haS))]
        omega
      · rw [if_neg e, if_neg e]
        show _ = if z = j then - Am t a z else Am t a z
        rw [if_neg (fun q : z = j => hjn (q ▸ hz))]
  have e2 : (rts S).map (fun k => if k = c then j else k) = P ++ j :: Q := by
    rw [hL, List.map_append, List.map_cons, if_pos rfl]
    have keep : ∀ l : List Nat, c ∉ l → l.map (fun k => if k = c then j else k) = l := fun l hl => by
      refine (List.map_congr_left (fun k hk => ?_)).trans (List.map_id l)
      exact if_neg (fun q : k = c => hl (q ▸ hk))
    rw [keep P (fun q => hcn (List.mem_append_left _ q)), keep Q (fun q => hcn (List.mem_append_right _ q))]
  have e3 : (rts S).map (fun a => ng j (Am t a)) = ((rts S).map (Am t)).map (ng j) := by rw [List.map_map]; rfl
  rw [e1, dt_mapc, e2, e3, dt_ng_in hjPQ (by rw [List.length_map, hL]; simp; omega), minor1 i hS hj hjS hL, Int.neg_neg]
  rfl
/-- inner nodes -/
theorem v_inner (r : RQ ν t) : f_L_inner N ν = some (nI (mn t.nd t.ed)) := by
  unfold f_L_inner
  rw [rg_1 r, rg_2 r, mn_c]
theorem inn_ed (i : IN t) : mn t.nd (mn t.nd t.ed) = t.ed := by
  apply Nat.eq_of_testBit_eq
  intro k
  rw [mn_bit, mn_bit]
  cases h : t.ed.testBit k
  · cases t.nd.testBit k <;> rfl
  · rw [i.edn k h]; rfl
theorem inn_6 (i : IN t) (he : t.ed ≠ 0) : pc (mn t.nd t.ed) ≤ 6 := by
  have h := pc_cut (A := t.nd) (B := t.ed) i.edn
  have h7 := pc_le7 i.nd7
  have h0 : 0 < pc t.ed := by
    rcases Nat.eq_zero_or_pos (pc t.ed) with q | q
    · exfalso
      rw [pc_upto (n := 7) i.ed7 (by omega)] at q
      have h1 := fb_ct_zero.mp q
      refine he (Nat.eq_of_testBit_eq (fun k => ?_))
      rw [Nat.zero_testBit]
      by_cases hk : k < 7
      · exact h1 k hk
      · exact Nat.testBit_lt_two_pow (Nat.lt_of_lt_of_le (show t.ed < 2 ^ 7 from i.ed7) (Nat.pow_le_pow_right (by decide) (by omega)))
    · exact q
  omega
theorem v_rest (r : RQ ν t) (i : IN t) (hN : 200 ≤ N) (he : t.ed ≠ 0) : f_L_rest N ν = some (lN (cntC t t.ed 0 0)) := by
  unfold f_L_rest
  rw [v_inner r, bP_s, v_minor0 r i hN (fun k hk => (mn_f hk).1) (inn_6 i he), bP_s, inn_ed i]
/-- the count of an answer -/
theorem v_pr26 {ρ : Type} {K : Int64 → Option ρ} (r : RQ ν t) (i : IN t) (hN : 200 ≤ N) (he : t.ed ≠ 0) {a b : Nat} (ha : a < 7) (hb : t.ed.testBit b = true) (h0 : Int) : ∀ d k n, k + d = 7 → d < n →
    fl_L_pair_26 N ν (nI a) (nI b) K n (lZ (h0 + smI (fun z => if (mn t.nd t.ed).testBit z = true then (bs t a z 20 : Int) * (cntC t t.ed z b : Int) else 0) k)) (nI k) = K (lZ (h0 + smI (fun z => if (mn t.nd t.ed).testBit z = true then (bs t a z 20 : Int) * (cntC t t.ed z b : Int) else 0) 7)) := by
  have hI7 : mn t.nd t.ed < 128 := Nat.lt_of_le_of_lt (mn_le _ _) i.nd7
  have b7 := bit7 i.ed7 hb
  intro d
  induction d with
  | zero =>
    intro k n hk hn
    obtain ⟨n, rfl⟩ : ∃ m, n = m + 1 := ⟨n - 1, by omega⟩
    rw [fl_L_pair_26, show k = 7 by omega, lq7, if_pos (nI_le (by omega) (by omega))]
  | succ d ih =>
    intro k n hk hn
    obtain ⟨n, rfl⟩ : ∃ m, n = m + 1 := ⟨n - 1, by omega⟩
    have ih' := ih (k + 1) n (by omega) (by omega)
    have e0 : ∀ f : Nat → Int, smI f (k + 1) = smI f k + f k := fun _ => rfl
    rw [e0, ← Int.add_assoc] at ih'
    rw [fl_L_pair_26, lq7, if_neg (nI_ge (by omega) (by omega))]
    unfold ck
    rw [if_neg (by omega), v_inner r, bP_s, c_in (by omega) (by omega), jn_e, if_bI0]
    simp only [jn_e]
    cases hbk : (mn t.nd t.ed).testBit k
    · rw [hbk] at ih'
      simp only [Bool.false_eq_true, if_false, Int.add_zero] at ih' ⊢
      rw [if_pos (by decide), nI_1]
      exact ih'
    · rw [hbk] at ih'
      simp only [if_true] at ih' ⊢
      rw [v_between r i (by omega) ha (by omega), bP_s]
      have hbs : bs t a k 20 < 2 ^ 62 := by
        have : ∀ m, bs t a k m ≤ 60 * m := by
          intro m
          induction m with
          | zero => exact Nat.le_refl 0
          | succ m ihm =>
            show bs t a k m + _ ≤ _
            split
            · rename_i hq
              unfold bwB Nt.Q at hq
              rw [Bool.and_eq_true, Bool.and_eq_true] at hq
              have := i.cb m hq.1.1
              omega
            · omega
        have := this 20
        omega
      by_cases hz : bs t a k 20 = 0
      · rw [hz] at ih' ⊢
        rw [if_pos (by rw [lg_cmp_le, lN_le0 (by omega)]), nI_1]
        simpa using ih'
      · rw [if_neg (by rw [lg_cmp_le, lN_le0 (by omega)]; exact hz), bP_s, v_minor1 r i hN (fun z hz => (mn_f hz).1) (inn_6 i he) hbk (i.edn b hb) (by rw [mn_bit, hb]; simp), bP_s, inn_ed i, nI_1]
        simp only [lL]
        rw [lN_lZ (bs t a k 20), lN_lZ (cntC t t.ed k b), lZ_mul, lZ_add]
        exact ih'
theorem v_pair (r : RQ ν t) (i : IN t) (hN : 200 ≤ N) {a b : Nat} (ha : t.ed.testBit a = true) (hb : t.ed.testBit b = true) (hab : a ≠ b) : f_L_pair N ν (nI a) (nI b) = some (lN (cntC t (mn t.ed (2 ^ a)) a b)) := by
  have he : t.ed ≠ 0 := fun q => by rw [q, Nat.zero_testBit] at ha; exact absurd ha (by decide)
  have a7 := bit7 i.ed7 ha
  have b7 := bit7 i.ed7 hb
  unfold f_L_pair
  rw [v_between r i (by omega) a7 b7, bP_s, v_rest r i hN he, bP_s]
  simp only [lL]
  rw [lN_lZ (bs t a b 20), lN_lZ (cntC t t.ed 0 0), lZ_mul]
  have key := v_pr26 (N := N) (K := fun v11 => some v11) r i hN he a7 hb ((bs t a b 20 : Int) * (cntC t t.ed 0 0 : Int)) 7 0 8 (by omega) (by omega)
  have e0 : ∀ f : Nat → Int, smI f 0 = 0 := fun _ => rfl
  rw [e0, Int.add_zero] at key
  refine key.trans ?_
  have ps := pair_sum i ha hb hab
  rw [Am_ne hab, Int.neg_neg] at ps
  have e1 : smI (fun n => if (mn t.nd t.ed).testBit n = true then - Am t a n * (cntC t t.ed n b : Int) else 0) 7 = smI (fun z => if (mn t.nd t.ed).testBit z = true then (bs t a z 20 : Int) * (cntC t t.ed z b : Int) else 0) 7 := smI_congr 7 (fun z _ => by
    by_cases hz : (mn t.nd t.ed).testBit z = true
    · have hne : ¬ a = z := fun q => by
        have := (mn_f hz).2
        rw [← q, ha] at this; exact absurd this (by decide)
      rw [if_pos hz, if_pos hz, Am_ne hne, Int.neg_neg]
    · rw [if_neg hz, if_neg hz])
  rw [e1] at ps
  rw [← ps]
  rfl
end mwalk
