/-! SUMS OVER SETS OF WIRES: of the wires g 0 .. g (m - 1), a set as the list of its wires, the highest first; in the order of their numbers. -/
def wt : List Ed → Nat
  | [] => 1
  | e :: S => e.2.2 * wt S
def sumS (g : Nat → Ed) : Nat → (List Ed → Nat) → Nat
  | 0, F => F []
  | k + 1, F => sumS g k F + sumS g k (fun S => F (g k :: S))
/-- a set that can come: its length, and all its wires among the first m -/
def IsSub (g : Nat → Ed) (m : Nat) (S : List Ed) : Prop := S.length ≤ m ∧ ∀ e ∈ S, ∃ i, i < m ∧ e = g i
theorem sumS_congr {g : Nat → Ed} : ∀ (m : Nat) (F G : List Ed → Nat), (∀ S, IsSub g m S → F S = G S) → sumS g m F = sumS g m G
  | 0, F, G, h => h [] ⟨Nat.le_refl 0, fun e he => nomatch he⟩
  | k + 1, F, G, h => by
    show _ + _ = _ + _
    rw [sumS_congr k F G (fun S hS => h S ⟨Nat.le_succ_of_le hS.1, fun e he => (hS.2 e he).elim fun i hi => ⟨i, Nat.lt_succ_of_lt hi.1, hi.2⟩⟩),
      sumS_congr k (fun S => F (g k :: S)) (fun S => G (g k :: S)) (fun S hS => h _ ⟨Nat.succ_le_succ hS.1, fun e he => by
        rcases List.mem_cons.mp he with rfl | he
        · exact ⟨k, Nat.lt_succ_self k, rfl⟩
        · exact (hS.2 e he).elim fun i hi => ⟨i, Nat.lt_succ_of_lt hi.1, hi.2⟩⟩)]
theorem sumS_zero {g : Nat → Ed} : ∀ (m : Nat), sumS g m (fun _ => 0) = 0
  | 0 => rfl
  | k + 1 => by show _ + _ = 0; rw [sumS_zero k]
theorem sumS_mul {g : Nat → Ed} (c : Nat) : ∀ (m : Nat) (F : List Ed → Nat), sumS g m (fun S => c * F S) = c * sumS g m F
  | 0, F => rfl
  | k + 1, F => by
    show _ + _ = c * (_ + _)
    rw [sumS_mul c k F, sumS_mul c k (fun S => F (g k :: S)), Nat.mul_add]
theorem sumS_le {g : Nat → Ed} (b : Nat) : ∀ (m : Nat) (F : List Ed → Nat), (∀ S, IsSub g m S → F S ≤ b) → sumS g m F ≤ 2 ^ m * b
  | 0, F, h => by
    show F [] ≤ _
    have := h [] ⟨Nat.le_refl 0, fun e he => nomatch he⟩
    omega
  | k + 1, F, h => by
    show _ + _ ≤ _
    have h1 := sumS_le b k F (fun S hS => h S ⟨Nat.le_succ_of_le hS.1, fun e he => (hS.2 e he).elim fun i hi => ⟨i, Nat.lt_succ_of_lt hi.1, hi.2⟩⟩)
    have h2 := sumS_le b k (fun S => F (g k :: S)) (fun S hS => h _ ⟨Nat.succ_le_succ hS.1, fun e he => by
        rcases List.mem_cons.mp he with rfl | he
        · exact ⟨k, Nat.lt_succ_self k, rfl⟩
        · exact (hS.2 e he).elim fun i hi => ⟨i, Nat.lt_succ_of_lt hi.1, hi.2⟩⟩)
    rw [Nat.pow_succ, Nat.mul_comm (2 ^ k) 2, Nat.mul_assoc]
    omega
theorem sumS_pos {g : Nat → Ed} : ∀ (m : Nat) (F : List Ed → Nat) (S : List Ed), (∃ is : List Nat, is.Pairwise (fun a b => b < a) ∧ (∀ i ∈ is, i < m) ∧ S = is.map g) → 0 < F S → 0 < sumS g m F
  | 0, F, S, ⟨is, _, hl, hS⟩, hp => by
    cases is with
    | nil => subst hS; exact hp
    | cons i is => exact absurd (hl i List.mem_cons_self) (Nat.not_lt_zero i)
  | k + 1, F, S, ⟨is, hpw, hl, hS⟩, hp => by
    show 0 < _ + _
    by_cases hk : is.head? = some k
    · obtain ⟨js, rfl⟩ : ∃ js, is = k :: js := by
        cases is with
        | nil => simp at hk
        | cons i js => simp at hk; exact ⟨js, by rw [hk]⟩
      have hpw' := List.pairwise_cons.mp hpw
      subst hS
      have := sumS_pos k (fun S => F (g k :: S)) (js.map g) ⟨js, hpw'.2, fun i hi => hpw'.1 i hi, rfl⟩ hp
      omega
    · have := sumS_pos k F S ⟨is, hpw, fun i hi => by
        have h1 := hl i hi
        rcases Nat.lt_or_ge i k with h2 | h2
        · exact h2
        · exfalso
          have h3 : i = k := by omega
          subst h3
          cases is with
          | nil => cases hi
          | cons j js =>
            simp at hk
            have hpw' := List.pairwise_cons.mp hpw
            rcases List.mem_cons.mp hi with rfl | hi
            · exact hk rfl
            · have := hpw'.1 i hi
              have := hl j List.mem_cons_self
              omega, hS⟩ hp
      omega
/-- which indices: each set comes from a falling list of them -/
theorem sumS_congr' {g : Nat → Ed} : ∀ (m : Nat) (F G : List Ed → Nat), (∀ is : List Nat, is.Pairwise (fun a b => b < a) → (∀ i ∈ is, i < m) → F (is.map g) = G (is.map g)) → sumS g m F = sumS g m G
  | 0, F, G, h => h [] List.Pairwise.nil (fun i hi => nomatch hi)
  | k + 1, F, G, h => by
    show _ + _ = _ + _
    rw [sumS_congr' k F G (fun is h1 h2 => h is h1 (fun i hi => Nat.lt_succ_of_lt (h2 i hi))),
      sumS_congr' k (fun S => F (g k :: S)) (fun S => G (g k :: S)) (fun is h1 h2 => h (k :: is) (List.pairwise_cons.mpr ⟨fun i hi => h2 i hi, h1⟩) (fun i hi => by
        rcases List.mem_cons.mp hi with rfl | hi
        · exact Nat.lt_succ_self _
        · exact Nat.lt_succ_of_lt (h2 i hi)))]
/-- leaving out wires whose sets count nothing -/
def pick (p : Nat → Bool) : Nat → List Nat
  | 0 => []
  | k + 1 => if p k then pick p k ++ [k] else pick p k
theorem sumS_ext {g g' : Nat → Ed} : ∀ (m : Nat) (F : List Ed → Nat), (∀ i, i < m → g i = g' i) → sumS g m F = sumS g' m F
  | 0, F, _ => rfl
  | k + 1, F, h => by
    show _ + _ = _ + _
    rw [sumS_ext k F (fun i hi => h i (Nat.lt_succ_of_lt hi)), h k (Nat.lt_succ_self k), sumS_ext k (fun S => F (g' k :: S)) (fun i hi => h i (Nat.lt_succ_of_lt hi))]
theorem pick_len_le (p : Nat → Bool) : ∀ m, (pick p m).length ≤ m
  | 0 => Nat.le_refl 0
  | k + 1 => by
    have := pick_len_le p k
    unfold pick
    split
    · simp only [List.length_append, List.length_cons, List.length_nil]; omega
    · omega
theorem sumS_pick {g : Nat → Ed} (p : Nat → Bool) : ∀ (m : Nat) (F : List Ed → Nat), (∀ i, i < m → p i = false → ∀ S, g i ∈ S → F S = 0) → sumS g m F = sumS (fun k => g ((pick p m).getD k 0)) (pick p m).length F
  | 0, F, _ => rfl
  | k + 1, F, h => by
    have h0 : ∀ i, i < k → p i = false → ∀ S, g i ∈ S → F S = 0 := fun i hi => h i (Nat.lt_succ_of_lt hi)
    show _ + _ = _
    by_cases hp : p k = true
    · have e1 : pick p (k + 1) = pick p k ++ [k] := by show (if p k = true then pick p k ++ [k] else pick p k) = _; rw [if_pos hp]
      rw [e1, List.length_append, List.length_cons, List.length_nil]
      show _ = sumS _ _ F + sumS _ _ _
      have hg : ∀ i, i < (pick p k).length → g ((pick p k ++ [k]).getD i 0) = g ((pick p k).getD i 0) := fun i hi => by
        rw [List.getD_eq_getElem?_getD, List.getD_eq_getElem?_getD, List.getElem?_append_left hi]
      have hl : (pick p k ++ [k]).getD (pick p k).length 0 = k := by
        rw [List.getD_eq_getElem?_getD, List.getElem?_append_right (Nat.le_refl _), Nat.sub_self]; rfl
      rw [sumS_ext _ F hg, sumS_ext _ _ hg, ← sumS_pick p k F h0, ← sumS_pick p k _ (fun i hi hq S hS => h i (Nat.lt_succ_of_lt hi) hq _ (List.mem_cons_of_mem _ hS))]
      simp only [Nat.zero_add, hl]
    · have hp' : p k = false := by simpa using hp
      have e1 : pick p (k + 1) = pick p k := by show (if p k = true then pick p k ++ [k] else pick p k) = _; rw [if_neg hp]
      rw [e1, ← sumS_pick p k F h0]
      have : sumS g k (fun S => F (g k :: S)) = 0 := by
        rw [sumS_congr k _ (fun _ => 0) (fun S _ => h k (Nat.lt_succ_self k) hp' _ List.mem_cons_self), sumS_zero]
      omega
/-! THE COUNT BY TAKING THE HIGHEST WIRE FIRST -/
/-- what is still to be taken from below a place, as the code adds it up: ok says whether a wire may be taken onto T -/
def wgh (g : Nat → Ed) (ok : Ed → List Ed → Bool) (fin : List Ed → Bool) : Nat → Nat → List Ed → Nat
  | 0, _, T => if fin T then 1 else 0
  | need + 1, below, T => (List.range below).foldl (fun s pl => if need ≤ pl ∧ ok (g pl) T = true then s + (g pl).2.2 * wgh g ok fin need pl (g pl :: T) else s) 0
/-- each wire of S can be taken onto T, the first ones first -/
def Vd (ok : Ed → List Ed → Bool) : List Ed → List Ed → Bool
  | _, [] => true
  | T, e :: S => ok e T && Vd ok (e :: T) S
theorem sumS_len0 {g : Nat → Ed} (P : List Ed → Prop) [DecidablePred P] : ∀ m, sumS g m (fun S => if S.length = 0 ∧ P S then wt S else 0) = if P [] then 1 else 0
  | 0 => by show (if _ then _ else _) = _; simp [wt]
  | k + 1 => by
    show _ + _ = _
    rw [sumS_len0 P k, sumS_congr k _ (fun _ => 0) (fun S _ => by show (if (g k :: S).length = 0 ∧ P (g k :: S) then wt (g k :: S) else 0) = 0; rw [if_neg (by simp)]), sumS_zero, Nat.add_zero]
theorem wgh_eq {g : Nat → Ed} {ok : Ed → List Ed → Bool} {fin : List Ed → Bool} : ∀ (need below : Nat) (T : List Ed), wgh g ok fin need below T = sumS g below (fun S => if S.length = need ∧ (Vd ok T S = true ∧ fin (S.reverse ++ T) = true) then wt S else 0)
  | 0, below, T => by
    rw [sumS_len0 (fun S => Vd ok T S = true ∧ fin (S.reverse ++ T) = true) below]
    simp [wgh, Vd]
  | need + 1, below, T => by
    unfold wgh
    induction below with
    | zero =>
      simp [sumS]
    | succ b ih =>
      rw [List.range_succ, List.foldl_append, ih]
      show (if _ then _ else _) = sumS g b _ + sumS g b _
      have h2 : sumS g b (fun S => if (g b :: S).length = need + 1 ∧ (Vd ok T (g b :: S) = true ∧ fin ((g b :: S).reverse ++ T) = true) then wt (g b :: S) else 0) = if need ≤ b ∧ ok (g b) T = true then (g b).2.2 * wgh g ok fin need b (g b :: T) else 0 := by
        by_cases hk : need ≤ b ∧ ok (g b) T = true
        · rw [if_pos hk, wgh_eq need b (g b :: T), ← sumS_mul]
          refine sumS_congr b _ _ (fun S _ => ?_)
          simp only [List.length_cons, Nat.add_right_cancel_iff, Vd, hk.2, Bool.true_and, List.reverse_cons, List.append_assoc, List.cons_append, List.nil_append, wt]
          split <;> simp
        · rw [if_neg hk, sumS_congr b _ (fun _ => 0) (fun S hS => ?_), sumS_zero]
          refine if_neg (fun hc => hk ?_)
          have h1 := hS.1
          have h3 := hc.1
          simp only [List.length_cons] at h3
          have h4 := hc.2.1
          simp only [Vd, Bool.and_eq_true] at h4
          exact ⟨by omega, h4.1⟩
      rw [h2]
      by_cases hk : need ≤ b ∧ ok (g b) T = true
      · rw [if_pos hk, if_pos hk]
      · rw [if_neg hk, if_neg hk]
        exact (Nat.add_zero _).symm
theorem Ac.drop : ∀ (P : List Ed) {S : List Ed}, Ac (P ++ S) → Ac S
  | [], _, h => h
  | _ :: P, _, h => Ac.drop P h.2
/-- taken one by one: no ring and no two roots joined, in whichever order -/
theorem Vd_iff {R : List Nat} {ok : Ed → List Ed → Bool} (hok : ∀ e T, PD T R → (ok e T = true ↔ (¬ Cn T e.1 e.2.1 ∧ PD (e :: T) R))) : ∀ (S T : List Ed), Ac T → PD T R → (Vd ok T S = true ↔ Ac (S.reverse ++ T) ∧ PD (S.reverse ++ T) R)
  | [], T, ha, hp => by simp [Vd, ha, hp]
  | e :: S, T, ha, hp => by
    simp only [Vd, Bool.and_eq_true, List.reverse_cons, List.append_assoc, List.cons_append, List.nil_append]
    by_cases h : ok e T = true
    · have h1 := (hok e T hp).mp h
      rw [Vd_iff hok S (e :: T) ⟨h1.1, ha⟩ h1.2]
      simp [h]
    · constructor
      · exact fun q => absurd q.1 h
      · intro q
        refine absurd ((hok e T hp).mpr ⟨?_, ?_⟩) h
        · exact (Ac.drop S.reverse q.1).1
        · exact q.2.mono (fun x hx => List.mem_append_right _ hx)
