/-! TREES ANEW, the end. -/
theorem rwF_map {M : Nat → Nat → Int} {n : Nat} : ∀ d r, rwF M n r d = (List.range' r d).map M
  | 0, _ => rfl
  | d + 1, r => by
    show M r :: rwF M n (r + 1) d = (List.range' r (d + 1)).map M
    rw [rwF_map d (r + 1)]; rfl
theorem cL_all : ∀ m : Fin 8, cL (2 ^ m.val - 1) 0 7 = List.range m.val := by decide +kernel
theorem anew_sum {t : Nt} (i : IN t) {l : Nat} (hl : t.nd.testBit l = true) : treeS (rts t.nd) l (lsQ t 20) [] = cntC t (2 ^ l) 0 0 := by
  have l7 := bit7 i.nd7 hl
  rw [lsQ_dl, trees_sum (rts_nodup _) (mem_rts.mpr ⟨l7, hl⟩) (fun j hj => by
    have h := (mem_pick.mp (getD_mem hj)).2
    unfold Nt.Q at h
    rw [Bool.and_eq_true] at h
    have := i.wf _ h.1
    exact ⟨mem_rts.mpr ⟨i.fb _, this.1⟩, mem_rts.mpr ⟨i.sb _, this.2⟩⟩), rts_len i.nd7]
  rw [← sumW_pick (p := t.Q) (g := t.g) 20 (fun S => iC (Ac S ∧ S.length + 1 = pc t.nd) (wt S) 0)]
  rw [← sumW_drop (p := t.Q) (q := t.P) 20 _ (fun j _ hj => by unfold Nt.Q at hj; rw [Bool.and_eq_true] at hj; exact hj.1) (fun j _ hq hp S hS => iC_neg (fun h => Ac_ring hS (by
    unfold Nt.Q at hp
    unfold Nt.P at hq
    rw [hq] at hp
    simpa [Nt.g] using hp) h.1))]
  unfold cntC
  have h1 := pc_one ⟨l, l7⟩
  simp only at h1
  refine sumW_congr 20 _ _ (fun is _ _ => iC_congr ?_)
  rw [h1]
  exact ⟨fun h => ⟨h.2, h.1, PD_one, Cn.rfl'⟩, fun h => ⟨h.2.1, h.1⟩⟩
