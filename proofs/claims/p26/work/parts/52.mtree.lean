/-! MINORS AND TREES: a minor by its first row, again and again; what the wires' matrix gives. -/
def ex (f : Nat → Int) (D : List Nat → Int) : List Nat → List Nat → Int
  | _, [] => 0
  | pre, c :: cs => f c * D (pre ++ cs) - ex f D (pre ++ [c]) cs
def dt : List (Nat → Int) → List Nat → Int
  | [], _ => 1
  | f :: rs, cs => ex f (dt rs) [] cs
theorem dt_cons {f : Nat → Int} {rs : List (Nat → Int)} {cs : List Nat} : dt (f :: rs) cs = ex f (dt rs) [] cs := rfl
theorem ex_congr {f g : Nat → Int} {D D' : List Nat → Int} : ∀ (cs pre : List Nat), (∀ c ∈ cs, f c = g c) → (∀ l : List Nat, (∀ z ∈ l, z ∈ pre ∨ z ∈ cs) → D l = D' l) → ex f D pre cs = ex g D' pre cs
  | [], _, _, _ => rfl
  | c :: cs, pre, hf, hD => by
    show _ - _ = _ - _
    rw [hf c List.mem_cons_self, hD (pre ++ cs) (fun z hz => (List.mem_append.mp hz).elim Or.inl (fun h => Or.inr (List.mem_cons_of_mem _ h))),
      ex_congr cs (pre ++ [c]) (fun z hz => hf z (List.mem_cons_of_mem _ hz)) (fun l hl => hD l (fun z hz => by
        rcases hl z hz with h | h
        · rcases List.mem_append.mp h with h | h
          · exact Or.inl h
          · rw [List.mem_singleton] at h; subst h; exact Or.inr List.mem_cons_self
        · exact Or.inr (List.mem_cons_of_mem _ h)))]
theorem ex_pre {f : Nat → Int} {D : List Nat → Int} (c : Nat) : ∀ (cs pre : List Nat), ex f D (c :: pre) cs = ex f (fun l => D (c :: l)) pre cs
  | [], _ => rfl
  | d :: cs, pre => by
    show _ - _ = _ - _
    rw [← ex_pre c cs (pre ++ [d])]
    rfl
theorem ex_neg {f : Nat → Int} {D : List Nat → Int} : ∀ (cs pre : List Nat), ex f (fun l => - D l) pre cs = - ex f D pre cs
  | [], _ => rfl
  | c :: cs, pre => by
    show _ - _ = -(_ - _)
    rw [ex_neg cs (pre ++ [c]), Int.mul_neg]
    omega
theorem ex_lin {f : Nat → Int} {D D' : List Nat → Int} (a : Int) : ∀ (cs pre : List Nat), ex f (fun l => a * D l - D' l) pre cs = a * ex f D pre cs - ex f D' pre cs
  | [], _ => by show (0 : Int) = a * 0 - 0; omega
  | c :: cs, pre => by
    show f c * (a * D _ - D' _) - _ = a * (f c * D _ - _) - (f c * D' _ - _)
    rw [ex_lin a cs (pre ++ [c]), Int.mul_sub, Int.mul_sub, Int.mul_left_comm]
    omega
theorem ex_add2 {f : Nat → Int} {D D' : List Nat → Int} : ∀ (cs pre : List Nat), ex f (fun l => D l + D' l) pre cs = ex f D pre cs + ex f D' pre cs
  | [], _ => rfl
  | c :: cs, pre => by
    show f c * (D _ + D' _) - _ = (f c * D _ - _) + (f c * D' _ - _)
    rw [ex_add2 cs (pre ++ [c]), Int.mul_add]
    omega
theorem ex_addf {f g : Nat → Int} {D : List Nat → Int} (a : Int) : ∀ (cs pre : List Nat), ex (fun k => f k + a * g k) D pre cs = ex f D pre cs + a * ex g D pre cs
  | [], _ => by show (0 : Int) = 0 + a * 0; omega
  | c :: cs, pre => by
    show (f c + a * g c) * D _ - _ = (f c * D _ - _) + a * (g c * D _ - _)
    rw [ex_addf a cs (pre ++ [c]), Int.add_mul, Int.mul_sub, Int.mul_assoc]
    omega
/-- two neighbouring columns change places (n: how many columns are left) -/
theorem ex_swap_pre {f : Nat → Int} {D : List Nat → Int} {a b n : Nat} (hD : ∀ P Q : List Nat, P.length + Q.length + 2 = n → D (P ++ a :: b :: Q) = - D (P ++ b :: a :: Q)) : ∀ (Q pre post : List Nat), pre.length + post.length + Q.length + 1 = n → ex f D (pre ++ a :: b :: post) Q = - ex f D (pre ++ b :: a :: post) Q
  | [], _, _, _ => rfl
  | q :: Q, pre, post, hn => by
    show _ - _ = -(_ - _)
    simp only [List.length_cons] at hn
    have h1 := ex_swap_pre (f := f) hD Q pre (post ++ [q]) (by simp only [List.length_append, List.length_cons, List.length_nil]; omega)
    have e1 : ∀ x y : Nat, (pre ++ x :: y :: post) ++ [q] = pre ++ x :: y :: (post ++ [q]) := fun x y => by simp
    have e2 : ∀ x y : Nat, (pre ++ x :: y :: post) ++ Q = pre ++ x :: y :: (post ++ Q) := fun x y => by simp
    rw [e1, e1, h1, e2, e2, hD pre (post ++ Q) (by simp only [List.length_append]; omega), Int.mul_neg]
    omega
theorem ex_swap {f : Nat → Int} {D : List Nat → Int} {a b n : Nat} (hD : ∀ P Q : List Nat, P.length + Q.length + 2 = n → D (P ++ a :: b :: Q) = - D (P ++ b :: a :: Q)) : ∀ (P Q pre : List Nat), pre.length + P.length + Q.length + 1 = n → ex f D pre (P ++ a :: b :: Q) = - ex f D pre (P ++ b :: a :: Q)
  | [], Q, pre, hn => by
    show f a * D _ - (f b * D _ - _) = -(f b * D _ - (f a * D _ - _))
    have h1 := ex_swap_pre (f := f) hD Q pre [] (by simpa using hn)
    have e1 : ∀ x y : Nat, (pre ++ [x]) ++ [y] = pre ++ x :: y :: [] := fun x y => by simp
    have e2 : ∀ x : Nat, (pre ++ [x]) ++ Q = pre ++ x :: Q := fun x => by simp
    rw [e1, e1, h1, e2, e2]
    omega
  | p :: P, Q, pre, hn => by
    show f p * D (pre ++ (P ++ a :: b :: Q)) - ex f D (pre ++ [p]) (P ++ a :: b :: Q) = -(f p * D (pre ++ (P ++ b :: a :: Q)) - ex f D (pre ++ [p]) (P ++ b :: a :: Q))
    simp only [List.length_cons] at hn
    have h1 := ex_swap (f := f) hD P Q (pre ++ [p]) (by simp only [List.length_append, List.length_cons, List.length_nil]; omega)
    have e1 : ∀ x y : Nat, pre ++ (P ++ x :: y :: Q) = (pre ++ P) ++ x :: y :: Q := fun x y => by simp
    rw [h1, e1, e1, hD (pre ++ P) Q (by simp only [List.length_append]; omega), Int.mul_neg]
    omega
theorem dt_swapc {a b : Nat} : ∀ (rs : List (Nat → Int)) (P Q : List Nat), P.length + Q.length + 2 = rs.length → dt rs (P ++ a :: b :: Q) = - dt rs (P ++ b :: a :: Q)
  | [], _, _, h => by simp at h
  | f :: rs, P, Q, h => ex_swap (n := rs.length) (fun P' Q' h' => dt_swapc rs P' Q' h') P Q [] (by simp only [List.length_cons] at h; simp only [List.length_nil]; omega)
/-- the first two rows change places -/
theorem ex_two {x y : Nat → Int} : ∀ (cs : List Nat) (D : List Nat → Int), ex x (fun l => ex y D [] l) [] cs = - ex y (fun l => ex x D [] l) [] cs
  | [], _ => rfl
  | c :: cs, D => by
    have step : ∀ u v : Nat → Int, ex u (fun l => ex v D [] l) [] (c :: cs) = u c * ex v D [] cs - (v c * ex u D [] cs - ex u (fun l => ex v (fun z => D (c :: z)) [] l) [] cs) := fun u v => by
      show u c * _ - ex u _ ([] ++ [c]) cs = _
      rw [List.nil_append, List.nil_append, ex_pre c cs [], ← ex_lin (f := u) (v c) cs []]
      congr 1
      refine ex_congr cs [] (fun _ _ => rfl) (fun l _ => ?_)
      show v c * D ([] ++ l) - ex v D ([] ++ [c]) l = _
      rw [List.nil_append, List.nil_append, ex_pre c l []]
    rw [step x y, step y x, ex_two cs (fun z => D (c :: z))]
    omega
theorem dt_swapr {x y : Nat → Int} {rs : List (Nat → Int)} : ∀ (P : List (Nat → Int)) (cs : List Nat), dt (P ++ x :: y :: rs) cs = - dt (P ++ y :: x :: rs) cs
  | [], cs => ex_two cs (dt rs)
  | p :: P, cs => by
    show ex p (dt (P ++ x :: y :: rs)) [] cs = - ex p (dt (P ++ y :: x :: rs)) [] cs
    rw [← ex_neg]
    exact ex_congr cs [] (fun _ _ => rfl) (fun l _ => dt_swapr P l)
/-- the minor of the labels of a list, its rows and columns -/
def pd (A : Nat → Nat → Int) (L : List Nat) : Int := dt (L.map A) L
theorem pd_swap {A : Nat → Nat → Int} {a b : Nat} (P Q : List Nat) : pd A (P ++ a :: b :: Q) = pd A (P ++ b :: a :: Q) := by
  unfold pd
  rw [dt_swapc _ P Q (by simp only [List.length_map, List.length_append, List.length_cons]; omega), List.map_append, List.map_cons, List.map_cons, dt_swapr, List.map_append, List.map_cons, List.map_cons]
  omega
theorem pd_front {A : Nat → Nat → Int} {x : Nat} : ∀ (n : Nat) (P Q : List Nat), P.length = n → pd A (P ++ x :: Q) = pd A (x :: (P ++ Q))
  | 0, P, Q, h => by rw [List.length_eq_zero_iff.mp h]; rfl
  | n + 1, P, Q, h => by
    have hne : P ≠ [] := fun e => by rw [e] at h; cases h
    obtain ⟨P', p, rfl⟩ : ∃ P' p, P = P' ++ [p] := ⟨P.dropLast, P.getLast hne, (List.dropLast_concat_getLast hne).symm⟩
    have hl : P'.length = n := by simpa using h
    rw [show (P' ++ [p]) ++ x :: Q = P' ++ p :: x :: Q by simp, pd_swap P' Q, pd_front n P' (p :: Q) hl]
    simp
theorem dt_map_congr {rs rs' : List (Nat → Int)} : ∀ (cs : List Nat), rs.length = rs'.length → (∀ i : Nat, ∀ f g : Nat → Int, rs[i]? = some f → rs'[i]? = some g → ∀ c ∈ cs, f c = g c) → dt rs cs = dt rs' cs := by
  induction rs generalizing rs' with
  | nil =>
    intro cs h _
    cases rs' with
    | nil => rfl
    | cons g rs' => simp at h
  | cons f rs ih =>
    intro cs h hf
    cases rs' with
    | nil => simp at h
    | cons g rs' =>
      refine ex_congr cs [] (fun c hc => hf 0 f g rfl rfl c hc) (fun l hl => ih l (by simpa using h) (fun i f' g' h1 h2 c hc => hf (i + 1) f' g' (by simpa using h1) (by simpa using h2) c ((hl c hc).elim (fun q => nomatch q) id)))
theorem pd_congr {A B : Nat → Nat → Int} {L : List Nat} (h : ∀ k ∈ L, ∀ c ∈ L, A k c = B k c) : pd A L = pd B L := by
  unfold pd
  refine dt_map_congr L (by simp) (fun i f g h1 h2 c hc => ?_)
  rw [List.getElem?_map] at h1 h2
  cases hk : L[i]? with
  | none => rw [hk] at h1; cases h1
  | some k =>
    rw [hk] at h1 h2
    cases h1
    cases h2
    exact h k (List.mem_of_getElem? hk) c hc
/-- a column that takes another one up -/
def mg (x y : Nat) (f : Nat → Int) : Nat → Int := fun k => if k = y then f y + f x else f k
theorem dt_mg_no {x y : Nat} (rs : List (Nat → Int)) (cs : List Nat) (h : y ∉ cs) : dt (rs.map (mg x y)) cs = dt rs cs := by
  refine dt_map_congr cs (by simp) (fun i f g h1 h2 c hc => ?_)
  rw [List.getElem?_map, h2] at h1
  cases h1
  show (if c = y then _ else _) = _
  rw [if_neg (fun e : c = y => h (e ▸ hc))]
/-- (len says that a list has as many columns as rows are left) -/
theorem ex_congr_len {f g : Nat → Int} {D D' : List Nat → Int} : ∀ (cs pre : List Nat), (∀ c ∈ cs, f c = g c) → (∀ l : List Nat, l.length + 1 = pre.length + cs.length → (∀ z ∈ l, z ∈ pre ∨ z ∈ cs) → D l = D' l) → ex f D pre cs = ex g D' pre cs
  | [], _, _, _ => rfl
  | c :: cs, pre, hf, hD => by
    show _ - _ = _ - _
    rw [hf c List.mem_cons_self, hD (pre ++ cs) (by simp only [List.length_append, List.length_cons]; omega) (fun z hz => (List.mem_append.mp hz).elim Or.inl (fun h => Or.inr (List.mem_cons_of_mem _ h))),
      ex_congr_len cs (pre ++ [c]) (fun z hz => hf z (List.mem_cons_of_mem _ hz)) (fun l hn hl => hD l (by simp only [List.length_append, List.length_cons, List.length_nil] at hn ⊢; omega) (fun z hz => by
        rcases hl z hz with h | h
        · rcases List.mem_append.mp h with h | h
          · exact Or.inl h
          · rw [List.mem_singleton] at h; subst h; exact Or.inr List.mem_cons_self
        · exact Or.inr (List.mem_cons_of_mem _ h)))]
theorem dt_mg {x y : Nat} : ∀ (rs : List (Nat → Int)) (cs : List Nat), y ∉ cs → rs.length = cs.length + 1 → dt (rs.map (mg x y)) (y :: cs) = dt rs (y :: cs) + dt rs (x :: cs)
  | [], _, _, h => by simp at h
  | f :: rs, cs, hy, hl => by
    have hl' : rs.length = cs.length := by simpa using hl
    have lem : ∀ (u : Nat → Int) (D : List Nat → Int) (z : Nat), ex u D [] (z :: cs) = u z * D cs - ex u (fun l => D (z :: l)) [] cs := fun u D z => by
      show u z * D ([] ++ cs) - ex u D ([] ++ [z]) cs = _
      rw [List.nil_append, List.nil_append, ex_pre z cs []]
    show ex (mg x y f) (dt (rs.map (mg x y))) [] (y :: cs) = ex f (dt rs) [] (y :: cs) + ex f (dt rs) [] (x :: cs)
    rw [lem, lem, lem, dt_mg_no rs cs hy]
    have h2 : ex (mg x y f) (fun l => dt (rs.map (mg x y)) (y :: l)) [] cs = ex f (fun l => dt rs (y :: l)) [] cs + ex f (fun l => dt rs (x :: l)) [] cs := by
      rw [← ex_add2]
      refine ex_congr_len cs [] (fun c hc => ?_) (fun l hn hz => ?_)
      · show (if c = y then _ else _) = _
        rw [if_neg (fun e : c = y => hy (e ▸ hc))]
      · exact dt_mg rs l (fun h => hy ((hz y h).elim (fun q => nomatch q) id)) (by simp only [List.length_nil] at hn; omega)
    have h3 : mg x y f y = f y + f x := if_pos rfl
    rw [h2, h3, Int.add_mul]
    omega
/-- one more on the first place of the diagonal -/
theorem pd_diag {A : Nat → Nat → Int} {x : Nat} {L : List Nat} (c : Int) (hx : x ∉ L) : pd (fun k l => A k l + c * (if k = x ∧ l = x then 1 else 0)) (x :: L) = pd A (x :: L) + c * pd A L := by
  have h0 : ∀ (cs pre : List Nat) (D : List Nat → Int), x ∉ cs → ex (fun l => if x = x ∧ l = x then (1 : Int) else 0) D pre cs = 0 := by
    intro cs
    induction cs with
    | nil => intros; rfl
    | cons d cs ih =>
      intro pre D h
      show (if x = x ∧ d = x then (1 : Int) else 0) * _ - _ = 0
      rw [if_neg (fun e : x = x ∧ d = x => h (by rw [← e.2]; exact List.mem_cons_self)), ih _ _ (fun e => h (List.mem_cons_of_mem _ e))]
      omega
  have h1 : ∀ (rs cs : List Nat), x ∉ rs → dt (rs.map (fun k l => A k l + c * (if k = x ∧ l = x then 1 else 0))) cs = dt (rs.map A) cs := fun rs cs h => by
    refine dt_map_congr cs (by simp) (fun i f g h1 h2 z _ => ?_)
    rw [List.getElem?_map] at h1 h2
    cases hk : rs[i]? with
    | none => rw [hk] at h1; cases h1
    | some k =>
      rw [hk] at h1 h2
      cases h1
      cases h2
      show A k z + c * (if k = x ∧ z = x then 1 else 0) = A k z
      rw [if_neg (fun e : k = x ∧ z = x => h (e.1 ▸ List.mem_of_getElem? hk))]
      omega
  show ex (fun l => A x l + c * (if x = x ∧ l = x then 1 else 0)) (dt (L.map (fun k l => A k l + c * (if k = x ∧ l = x then 1 else 0)))) [] (x :: L) = ex (A x) (dt (L.map A)) [] (x :: L) + c * dt (L.map A) L
  rw [ex_congr (g := fun l => A x l + c * (if x = x ∧ l = x then 1 else 0)) (D' := dt (L.map A)) (x :: L) [] (fun _ _ => rfl) (fun l _ => h1 L l hx), ex_addf]
  congr 1
  show c * ((if x = x ∧ x = x then (1 : Int) else 0) * dt (L.map A) ([] ++ L) - ex _ _ ([] ++ [x]) L) = _
  rw [h0 L _ _ hx, if_pos ⟨rfl, rfl⟩, List.nil_append]
  congr 1
  omega
/-- a wire between the first two: the same without it, and with the two made one -/
theorem pd_wire {A B : Nat → Nat → Int} {x y : Nat} {L : List Nat} (c : Int) (hxy : x ≠ y) (hx : x ∉ L) (hy : y ∉ L)
    (hB : ∀ k ∈ y :: L, ∀ l ∈ y :: L, B k l = mg x y (fun z => if k = y then A y z + A x z else A k z) l) :
    pd (fun k l => A k l + c * (((if k = x then 1 else 0) - (if k = y then 1 else 0)) * ((if l = x then 1 else 0) - (if l = y then 1 else 0)))) (x :: y :: L) = pd A (x :: y :: L) + c * pd B (y :: L) := by
  let u : Nat → Int := fun l => (if l = x then 1 else 0) - (if l = y then 1 else 0)
  have hrest : ∀ cs : List Nat, dt (L.map (fun k l => A k l + c * (((if k = x then 1 else 0) - (if k = y then 1 else 0)) * ((if l = x then 1 else 0) - (if l = y then 1 else 0))))) cs = dt (L.map A) cs := fun cs => by
    refine dt_map_congr cs (by simp) (fun i f g h1 h2 z _ => ?_)
    rw [List.getElem?_map] at h1 h2
    cases hk : L[i]? with
    | none => rw [hk] at h1; cases h1
    | some k =>
      rw [hk] at h1 h2
      cases h1
      cases h2
      have hkL := List.mem_of_getElem? hk
      show A k z + c * (((if k = x then (1 : Int) else 0) - (if k = y then 1 else 0)) * _) = A k z
      rw [if_neg (fun e : k = x => hx (e ▸ hkL)), if_neg (fun e : k = y => hy (e ▸ hkL))]
      simp
  -- rows as functions
  have e1 : pd (fun k l => A k l + c * (((if k = x then 1 else 0) - (if k = y then 1 else 0)) * ((if l = x then 1 else 0) - (if l = y then 1 else 0)))) (x :: y :: L) = dt ((fun l => A x l + c * u l) :: (fun l => A y l + (-c) * u l) :: L.map A) (x :: y :: L) := by
    unfold pd
    rw [List.map_cons, List.map_cons, dt_cons, dt_cons]
    refine ex_congr _ [] (fun l _ => ?_) (fun cs _ => ?_)
    · show A x l + c * (((if x = x then (1 : Int) else 0) - (if x = y then 1 else 0)) * u l) = _
      rw [if_pos rfl, if_neg hxy]
      simp
    · rw [dt_cons, dt_cons]
      refine ex_congr _ [] (fun l _ => ?_) (fun cs' _ => hrest cs')
      show A y l + c * (((if y = x then (1 : Int) else 0) - (if y = y then 1 else 0)) * u l) = A y l + (-c) * u l
      rw [if_neg (fun e : y = x => hxy e.symm), if_pos rfl]
      congr 1
      rw [Int.neg_mul]
      simp [Int.mul_neg]
  have lin1 : ∀ (f g : Nat → Int) (a : Int) (rs : List (Nat → Int)) (cs : List Nat), dt ((fun l => f l + a * g l) :: rs) cs = dt (f :: rs) cs + a * dt (g :: rs) cs := fun f g a rs cs => ex_addf a cs []
  have swap1 : ∀ (f g : Nat → Int) (rs : List (Nat → Int)) (cs : List Nat), dt (f :: g :: rs) cs = - dt (g :: f :: rs) cs := fun f g rs cs => dt_swapr [] cs
  have lin2 : ∀ (h f g : Nat → Int) (a : Int) (rs : List (Nat → Int)) (cs : List Nat), dt (h :: (fun l => f l + a * g l) :: rs) cs = dt (h :: f :: rs) cs + a * dt (h :: g :: rs) cs := fun h f g a rs cs => by
    rw [swap1 h, lin1, swap1 f, swap1 g, Int.mul_neg]
    omega
  have same : ∀ (f : Nat → Int) (rs : List (Nat → Int)) (cs : List Nat), dt (f :: f :: rs) cs = 0 := fun f rs cs => by
    have := swap1 f f rs cs
    omega
  have e2 : dt ((fun l => A x l + c * u l) :: (fun l => A y l + (-c) * u l) :: L.map A) (x :: y :: L) = dt (A x :: A y :: L.map A) (x :: y :: L) + c * dt (u :: (fun l => A y l + 1 * A x l) :: L.map A) (x :: y :: L) := by
    rw [lin1, lin2, lin2, lin2, same, swap1 (A x) u]
    have e3 : ∀ p q r : Int, p + -c * -r + c * (q + -c * 0) = p + c * (q + 1 * r) := fun p q r => by
      rw [Int.neg_mul_neg, Int.mul_zero, Int.add_zero, Int.one_mul, Int.mul_add]
      omega
    exact e3 _ _ _
  have e4 : dt (u :: (fun l => A y l + 1 * A x l) :: L.map A) (x :: y :: L) = dt ((fun l => A y l + 1 * A x l) :: L.map A) (y :: L) + dt ((fun l => A y l + 1 * A x l) :: L.map A) (x :: L) := by
    have h0 : ∀ (cs pre : List Nat) (D : List Nat → Int), x ∉ cs → y ∉ cs → ex u D pre cs = 0 := by
      intro cs
      induction cs with
      | nil => intros; rfl
      | cons d cs ih =>
        intro pre D h1 h2
        show ((if d = x then (1 : Int) else 0) - (if d = y then 1 else 0)) * _ - _ = 0
        rw [if_neg (fun e : d = x => h1 (by rw [← e]; exact List.mem_cons_self)), if_neg (fun e : d = y => h2 (by rw [← e]; exact List.mem_cons_self)), ih _ _ (fun e => h1 (List.mem_cons_of_mem _ e)) (fun e => h2 (List.mem_cons_of_mem _ e))]
        simp
    show u x * dt _ ([] ++ y :: L) - (u y * dt _ ([] ++ [x] ++ L) - ex u _ ([] ++ [x] ++ [y]) L) = _
    rw [h0 L _ _ hx hy]
    have h1 : u x = 1 := by show (if x = x then (1 : Int) else 0) - (if x = y then 1 else 0) = 1; rw [if_pos rfl, if_neg hxy]; rfl
    have h2 : u y = -1 := by show (if y = x then (1 : Int) else 0) - (if y = y then 1 else 0) = -1; rw [if_pos rfl, if_neg (fun e : y = x => hxy e.symm)]; rfl
    rw [h1, h2, List.nil_append, List.nil_append, List.cons_append, List.nil_append]
    omega
  have e5 : pd B (y :: L) = dt (((fun l => A y l + 1 * A x l) :: L.map A).map (mg x y)) (y :: L) := by
    unfold pd
    refine dt_map_congr (y :: L) (by simp) (fun i f g h1 h2 z hz => ?_)
    cases i with
    | zero =>
      simp only [List.map_cons, List.getElem?_cons_zero, Option.some.injEq] at h1 h2
      subst h1
      subst h2
      rw [hB y List.mem_cons_self z hz]
      congr 1
      funext w
      rw [if_pos rfl, Int.one_mul]
    | succ i =>
      simp only [List.map_cons, List.getElem?_cons_succ, List.getElem?_map] at h1 h2
      cases hk : L[i]? with
      | none => rw [hk] at h1; cases h1
      | some k =>
        rw [hk] at h1 h2
        cases h1
        cases h2
        have hkL := List.mem_of_getElem? hk
        rw [hB k (List.mem_cons_of_mem _ hkL) z hz]
        congr 1
        funext w
        rw [if_neg (fun e : k = y => hy (e ▸ hkL))]
  rw [e1, e2, e4, e5, dt_mg _ L hy (by simp)]
  rfl
