/-! THE REFERENCE'S COUNTS, as sums over the sets of wires that are there. -/
theorem nI_m1 {a : Nat} (h : a < 2 ^ 31) : (nI a = -1) = False := eq_false (fun e => absurd (nI_pos h) (by rw [e]; decide))
theorem lst_len {t : Nt} {S : Nat} : ∀ m, (lst t S m).length = fb_ct (fun k => S.testBit k) m
  | 0 => rfl
  | m + 1 => by
    rw [fb_ct_succ, ← lst_len m, lst]
    split <;> rfl
theorem lst_top {t : Nt} {S n m : Nat} (hS : S < 2 ^ n) : n ≤ m → lst t S m = lst t S n := by
  intro h
  induction m with
  | zero => rw [show n = 0 by omega]
  | succ m ih =>
    rcases Nat.lt_or_ge m n with q | q
    · rw [show n = m + 1 by omega]
    · rw [← ih q, lst, Nat.testBit_lt_two_pow (Nat.lt_of_lt_of_le hS (Nat.pow_le_pow_right (by decide) q))]; rfl
abbrev ls (t : Nt) (S : Nat) : List Ed := lst t S 20
theorem rts_len {R : Nat} (h : R < 128) : (rts R).length = pc R := by
  rw [pc_upto (n := 7) h (by omega)]
  unfold rts
  have : ∀ n, ((List.range n).filter (fun i => R.testBit i)).length = fb_ct (fun k => R.testBit k) n := by
    intro n
    induction n with
    | zero => rfl
    | succ n ih =>
      rw [List.range_succ, List.filter_append, List.length_append, ih, fb_ct_succ]
      congr 1
      cases hb : R.testBit n <;> simp [hb]
  exact this 7
theorem ls_ends {t : Nt} (i : IN t) {S : Nat} (h : S &&& t.wr = S) : ∀ e ∈ ls t S, (e.1 < 7 ∧ e.2.1 < 7) ∧ (1 ≤ e.2.2 ∧ e.2.2 ≤ 60) ∧ e.1 ∈ rts t.nd ∧ e.2.1 ∈ rts t.nd := fun e he => by
  obtain ⟨w, _, h2, rfl⟩ := lst_mem he
  have hw : t.wr.testBit w = true := by
    rw [← h, Nat.testBit_and, Bool.and_eq_true] at h2; exact h2.2
  exact ⟨⟨i.fb w, i.sb w⟩, i.cb w hw, mem_rts.mpr ⟨i.fb w, (i.wf w hw).1⟩, mem_rts.mpr ⟨i.sb w, (i.wf w hw).2⟩⟩
theorem ls_few {t : Nt} (i : IN t) {S : Nat} (h : S &&& t.wr = S) (ha : Ac (ls t S)) : pc S ≤ pc t.nd := by
  have := ac_le (ls t S) [] (rts t.nd) ha List.nodup_nil (fun x hx => nomatch hx) (fun x hx => nomatch hx) (fun e he => (ls_ends i h e he).2.2)
  rw [rts_len i.nd7, lst_len] at this
  simp at this
  exact this
/-- all of a stretch -/
def al (p : Nat → Bool) : Nat → Nat → Bool
  | 0, _ => true
  | d + 1, k => p k && al p d (k + 1)
theorem al_iff {p : Nat → Bool} : ∀ {d k : Nat}, al p d k = true ↔ ∀ i, k ≤ i → i < k + d → p i = true
  | 0, k => ⟨fun _ i h1 h2 => absurd h2 (by omega), fun _ => rfl⟩
  | d + 1, k => by
    unfold al
    rw [Bool.and_eq_true, al_iff]
    constructor
    · rintro ⟨h1, h2⟩ i hi hl
      rcases Nat.lt_or_ge k i with q | q
      · exact h2 i q (by omega)
      · rw [show i = k by omega]; exact h1
    · intro h
      exact ⟨h k (Nat.le_refl _) (by omega), fun i h1 h2 => h i (by omega) (by omega)⟩
section mc
variable {N : Nat} {t : Nt}
/-- how many edges have a label -/
def nE (t : Nt) (lab : Nat → Nat) (l k : Nat) : Nat := fb_ct (fun e => t.ed.testBit e && lab e == l) k
/-- what a tree is due -/
def due (lab : Nat → Nat) (a : Option Nat) (n : Nat) : Nat := match a with
  | none => 1
  | some a => if lab n = lab a then 2 else 1
def aO (a : Option Nat) : Int32 := match a with
  | none => -1
  | some a => nI a
/-- the value of areParted -/
def parted (t : Nt) (lab : Nat → Nat) (ab : Option (Nat × Nat)) : Bool := (match ab with
  | none => true
  | some ab => lab ab.1 == lab ab.2) && al (fun n => !t.nd.testBit n || (nE t lab (lab n) 7 == due lab (ab.map Prod.fst) n)) 7 0
end mc
