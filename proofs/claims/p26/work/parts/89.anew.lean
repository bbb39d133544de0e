/-! TREES ANEW. -/
theorem ct_lt {p : Nat → Bool} {i j : Nat} (h : i < j) (hp : p i = true) : fb_ct p i < fb_ct p j := by
  have h1 := fb_ct_mono p (show i + 1 ≤ j by omega)
  rw [fb_ct_succ, hp] at h1
  simp at h1
  omega
theorem ct_kth {p : Nat → Bool} {x : Nat} : ∀ n, x < fb_ct p n → ∃ i, i < n ∧ p i = true ∧ fb_ct p i = x
  | 0, h => absurd h (Nat.not_lt_zero x)
  | n + 1, h => by
    rw [fb_ct_succ] at h
    rcases Nat.lt_or_ge x (fb_ct p n) with q | q
    · obtain ⟨i, h1, h2, h3⟩ := ct_kth n q
      exact ⟨i, by omega, h2, h3⟩
    · cases hp : p n
      · rw [hp] at h; simp at h; omega
      · rw [hp] at h; simp at h
        exact ⟨n, by omega, hp, by omega⟩
theorem lab_of {t : Nt} (i : IN t) {l : Nat} (hl : t.nd.testBit l = true) : LabOf (rts t.nd) l [] (labR t l) (List.range (fb_ct (pR t l) 7)) := by
  have h7 := i.nd7
  have l7 := bit7 h7 hl
  have pl : pR t l l = false := by unfold pR; simp
  have ll : labR t l l = 7 := by unfold labR; rw [pl]; rfl
  have pp : ∀ a, t.nd.testBit a = true → a ≠ l → pR t l a = true ∧ labR t l a = fb_ct (pR t l) a := fun a ha hn => by
    have h : pR t l a = true := by unfold pR; rw [ha, beq_false_of_ne hn]; rfl
    exact ⟨h, by unfold labR; rw [h]; rfl⟩
  have lt : ∀ a, a < 7 → fb_ct (pR t l) a < 7 := fun a ha => by have := fb_ct_le (pR t l) a; omega
  refine ⟨fun a ha b hb => ?_, List.nodup_range, fun x => ?_⟩
  · obtain ⟨a7, ha⟩ := mem_rts.mp ha
    obtain ⟨b7, hb⟩ := mem_rts.mp hb
    rw [Cn_nil]
    refine ⟨fun e => by rw [e], fun e => ?_⟩
    by_cases ea : a = l
    · by_cases eb : b = l
      · rw [ea, eb]
      · rw [ea, ll, (pp b hb eb).2] at e
        have := lt b b7; omega
    · by_cases eb : b = l
      · rw [eb, ll, (pp a ha ea).2] at e
        have := lt a a7; omega
      · rw [(pp a ha ea).2, (pp b hb eb).2] at e
        rcases Nat.lt_trichotomy a b with z | z | z
        · have := ct_lt z (pp a ha ea).1; omega
        · exact z
        · have := ct_lt z (pp b hb eb).1; omega
  · rw [List.mem_range, ll]
    constructor
    · intro h
      obtain ⟨a, a7, ha, hx⟩ := ct_kth 7 h
      have ha' : t.nd.testBit a = true := by
        unfold pR at ha; rw [Bool.and_eq_true] at ha; exact ha.2
      have hn : a ≠ l := fun e => by rw [e, pl] at ha; exact absurd ha (by decide)
      refine ⟨⟨a, mem_rts.mpr ⟨a7, ha'⟩, by rw [(pp a ha' hn).2, hx]⟩, ?_⟩
      have := lt a a7; omega
    · rintro ⟨⟨a, ha, rfl⟩, hx⟩
      obtain ⟨a7, ha⟩ := mem_rts.mp ha
      by_cases ea : a = l
      · rw [ea, ll] at hx; exact absurd rfl hx
      · rw [(pp a ha ea).2]
        exact ct_lt a7 (pp a ha ea).1
