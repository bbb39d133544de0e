/-! MINORS BY A COLUMN, BY THE LAST ROW, WITH A COLUMN EXCHANGED; the transpose. -/
def sg : Nat → Int
  | 0 => 1
  | n + 1 => - sg n
theorem ex_zero {f : Nat → Int} : ∀ (cs pre : List Nat), ex f (fun _ => 0) pre cs = 0
  | [], _ => rfl
  | c :: cs, pre => by
    show f c * 0 - ex f _ (pre ++ [c]) cs = 0
    rw [ex_zero cs (pre ++ [c])]; simp
def exc (c : Nat) (D : List (Nat → Int) → Int) : List (Nat → Int) → List (Nat → Int) → Int
  | _, [] => 0
  | pre, f :: rs => f c * D (pre ++ rs) - exc c D (pre ++ [f]) rs
theorem exc_pre {c : Nat} {D : List (Nat → Int) → Int} (f : Nat → Int) : ∀ (rs pre : List (Nat → Int)), exc c D (f :: pre) rs = exc c (fun q => D (f :: q)) pre rs
  | [], _ => rfl
  | g :: rs, pre => by
    show _ - _ = _ - _
    rw [← exc_pre f rs (pre ++ [g])]
    rfl
theorem ex_exc {f : Nat → Int} {c : Nat} {H : List (Nat → Int) → List Nat → Int} {cs : List Nat} : ∀ (rs pre : List (Nat → Int)), ex f (fun l => exc c (fun q => H q l) pre rs) [] cs = exc c (fun q => ex f (fun l => H q l) [] cs) pre rs
  | [], _ => ex_zero cs []
  | g :: rs, pre => by
    show ex f (fun l => g c * H (pre ++ rs) l - exc c (fun q => H q l) (pre ++ [g]) rs) [] cs = g c * _ - _
    rw [ex_lin (f := f) (D := fun l => H (pre ++ rs) l) (D' := fun l => exc c (fun q => H q l) (pre ++ [g]) rs) (g c) cs [], ex_exc rs (pre ++ [g])]
theorem ex_front {f : Nat → Int} {D : List Nat → Int} (c : Nat) (cs : List Nat) : ex f D [] (c :: cs) = f c * D cs - ex f (fun l => D (c :: l)) [] cs := by
  show f c * D ([] ++ cs) - ex f D ([] ++ [c]) cs = _
  rw [List.nil_append, List.nil_append, ex_pre c cs []]
/-- by the first column -/
theorem dt_col : ∀ (rs : List (Nat → Int)) (c : Nat) (cs : List Nat), rs.length = cs.length + 1 → dt rs (c :: cs) = exc c (fun q => dt q cs) [] rs
  | [], _, _, h => by simp at h
  | f :: rs, c, cs, h => by
    have h' : rs.length = cs.length := by simpa using h
    show ex f (dt rs) [] (c :: cs) = f c * dt ([] ++ rs) cs - exc c (fun q => dt q cs) ([] ++ [f]) rs
    rw [ex_front, List.nil_append, List.nil_append, exc_pre f rs []]
    congr 1
    show _ = exc c (fun q => ex f (dt q) [] cs) [] rs
    rw [← ex_exc (H := fun q l => dt q l) rs []]
    exact ex_congr_len cs [] (fun _ _ => rfl) (fun l hl _ => dt_col rs c l (by simp only [List.length_nil] at hl; omega))
theorem exc_ex {A : Nat → Nat → Int} {c : Nat} {D : List Nat → Int} {D' : List (Nat → Int) → Int} : ∀ (L pre : List Nat), (∀ l : List Nat, l.length + 1 = pre.length + L.length → D' (l.map A) = D l) → exc c D' (pre.map A) (L.map A) = ex (fun r => A r c) D pre L
  | [], _, _ => rfl
  | r :: L, pre, h => by
    show A r c * D' (pre.map A ++ L.map A) - exc c D' (pre.map A ++ [A r]) (L.map A) = A r c * D (pre ++ L) - _
    rw [← List.map_append, h (pre ++ L) (by simp only [List.length_append, List.length_cons]; omega), show pre.map A ++ [A r] = (pre ++ [r]).map A by simp,
      exc_ex L (pre ++ [r]) (fun l hl => h l (by simp only [List.length_append, List.length_cons, List.length_nil] at hl ⊢; omega))]
/-- rows and columns exchanged -/
theorem dt_tr {A : Nat → Nat → Int} : ∀ (L2 L1 : List Nat), L1.length = L2.length → dt (L1.map A) L2 = dt (L2.map (fun c r => A r c)) L1
  | [], L1, h => by
    rw [List.length_nil] at h
    rw [List.length_eq_zero_iff.mp h]
    rfl
  | c :: cs, L1, h => by
    rw [dt_col _ c cs (by rw [List.length_map]; simpa using h)]
    show _ = ex (fun r => A r c) (dt (cs.map (fun c r => A r c))) [] L1
    refine exc_ex (D' := fun q => dt q cs) L1 [] (fun l hl => dt_tr cs l ?_)
    simp only [List.length_cons, List.length_nil] at h hl
    omega
/-- a column brought to the front -/
theorem dt_cfront {rs : List (Nat → Int)} {x : Nat} {Q : List Nat} : ∀ (P R : List Nat), R.length + P.length + Q.length + 1 = rs.length → dt rs (R ++ x :: (P ++ Q)) = sg P.length * dt rs (R ++ (P ++ x :: Q))
  | [], R, _ => by show _ = 1 * _; rw [Int.one_mul]; rfl
  | p :: P, R, h => by
    simp only [List.length_cons] at h
    have h1 := dt_cfront (rs := rs) (x := x) (Q := Q) P (R ++ [p]) (by simp only [List.length_append, List.length_cons, List.length_nil]; omega)
    have e : ∀ l : List Nat, (R ++ [p]) ++ l = R ++ p :: l := fun l => by simp
    rw [e, e] at h1
    show dt rs (R ++ x :: p :: (P ++ Q)) = - sg P.length * dt rs (R ++ p :: (P ++ x :: Q))
    rw [dt_swapc rs R (P ++ Q) (by simp only [List.length_append]; omega), h1, Int.neg_mul]
/-- a row brought to the front -/
theorem dt_rfront {x : Nat → Int} {R : List (Nat → Int)} {cs : List Nat} : ∀ (P R0 : List (Nat → Int)), dt (R0 ++ x :: (P ++ R)) cs = sg P.length * dt (R0 ++ (P ++ x :: R)) cs
  | [], R0 => by show _ = 1 * _; rw [Int.one_mul]; rfl
  | p :: P, R0 => by
    have h1 := dt_rfront (x := x) (R := R) (cs := cs) P (R0 ++ [p])
    have e : ∀ l : List (Nat → Int), (R0 ++ [p]) ++ l = R0 ++ p :: l := fun l => by simp
    rw [e, e] at h1
    show dt (R0 ++ x :: p :: (P ++ R)) cs = - sg P.length * dt (R0 ++ p :: (P ++ x :: R)) cs
    rw [dt_swapr R0, h1, Int.neg_mul]
theorem sg_sq : ∀ n, sg n * sg n = 1
  | 0 => rfl
  | n + 1 => by show - sg n * - sg n = 1; rw [Int.neg_mul_neg]; exact sg_sq n
/-- by the last row: the sign tells how many columns stand behind -/
def exl (f : Nat → Int) (D : List Nat → Int) : List Nat → List Nat → Int
  | _, [] => 0
  | pre, c :: cs => sg cs.length * (f c * D (pre ++ cs)) + exl f D (pre ++ [c]) cs
theorem exl_ex {f : Nat → Int} {D : List Nat → Int} : ∀ (cs pre : List Nat) (c : Nat), exl f D pre (c :: cs) = sg cs.length * ex f D pre (c :: cs)
  | [], pre, c => by show _ + 0 = sg 0 * (_ - 0); rw [Int.add_zero, Int.sub_zero]; rfl
  | d :: cs, pre, c => by
    have h := exl_ex (f := f) (D := D) cs (pre ++ [c]) d
    show sg (d :: cs).length * (f c * D (pre ++ d :: cs)) + exl f D (pre ++ [c]) (d :: cs) = sg (d :: cs).length * (f c * D (pre ++ d :: cs) - ex f D (pre ++ [c]) (d :: cs))
    rw [h, Int.mul_sub]
    show _ + _ = _ - (- sg cs.length) * _
    rw [Int.neg_mul]
    omega
theorem dt_last {f : Nat → Int} {rs : List (Nat → Int)} {cs : List Nat} (h : cs.length = rs.length + 1) : dt (rs ++ [f]) cs = exl f (dt rs) [] cs := by
  cases cs with
  | nil => simp at h
  | cons c cs =>
    have hl : cs.length = rs.length := by simpa using h
    have h1 := dt_rfront (x := f) (R := []) (cs := c :: cs) rs []
    rw [List.append_nil, List.nil_append, List.nil_append] at h1
    rw [exl_ex, hl]
    show _ = sg rs.length * dt (f :: rs) (c :: cs)
    rw [h1, ← Int.mul_assoc, sg_sq, Int.one_mul]
/-- a column put in the place of each -/
def sx (f : Nat → Int) (G : List Nat → Int) (j : Nat) : List Nat → List Nat → Int
  | _, [] => 0
  | pre, c :: cs => f c * G (pre ++ j :: cs) + sx f G j (pre ++ [c]) cs
theorem ex_sx {f : Nat → Int} {rs : List (Nat → Int)} {j : Nat} : ∀ (cs pre : List Nat), pre.length + cs.length = rs.length → ex f (fun l => dt rs (j :: l)) pre cs = sg pre.length * sx f (dt rs) j pre cs
  | [], pre, _ => by show (0 : Int) = _ * 0; rw [Int.mul_zero]
  | c :: cs, pre, h => by
    simp only [List.length_cons] at h
    have h1 := ex_sx (f := f) (rs := rs) (j := j) cs (pre ++ [c]) (by simp only [List.length_append, List.length_cons, List.length_nil]; omega)
    have h2 := dt_cfront (rs := rs) (x := j) (Q := cs) pre [] (by simp only [List.length_nil]; omega)
    rw [List.nil_append, List.nil_append] at h2
    show f c * dt rs (j :: (pre ++ cs)) - ex f _ (pre ++ [c]) cs = sg pre.length * (f c * dt rs (pre ++ j :: cs) + sx f (dt rs) j (pre ++ [c]) cs)
    rw [h1, h2, List.length_append]
    show _ - - sg pre.length * _ = _
    rw [Int.neg_mul, Int.mul_add, Int.mul_left_comm]
    omega
/-- columns by another name -/
theorem ex_map {f : Nat → Int} {h : Nat → Nat} {D D' : List Nat → Int} (hD : ∀ l, D' l = D (l.map h)) : ∀ (cs pre : List Nat), ex (fun k => f (h k)) D' pre cs = ex f D (pre.map h) (cs.map h)
  | [], _ => rfl
  | c :: cs, pre => by
    show f (h c) * D' (pre ++ cs) - _ = f (h c) * D (pre.map h ++ cs.map h) - ex f D (pre.map h ++ [h c]) (cs.map h)
    rw [hD, List.map_append, ex_map hD cs (pre ++ [c]), List.map_append]
    rfl
theorem dt_mapc {h : Nat → Nat} : ∀ (rs : List (Nat → Int)) (cs : List Nat), dt (rs.map (fun f k => f (h k))) cs = dt rs (cs.map h)
  | [], _ => rfl
  | f :: rs, cs => ex_map (D := dt rs) (fun l => dt_mapc rs l) cs []
/-- a column with the other sign -/
def ng (x : Nat) (f : Nat → Int) : Nat → Int := fun k => if k = x then - f k else f k
theorem dt_ng_no {x : Nat} (rs : List (Nat → Int)) (cs : List Nat) (h : x ∉ cs) : dt (rs.map (ng x)) cs = dt rs cs := by
  refine dt_map_congr cs (by simp) (fun i f g h1 h2 c hc => ?_)
  rw [List.getElem?_map, h2] at h1
  cases h1
  exact if_neg (fun e : c = x => h (e ▸ hc))
theorem dt_ng {x : Nat} : ∀ (rs : List (Nat → Int)) (cs : List Nat), x ∉ cs → rs.length = cs.length + 1 → dt (rs.map (ng x)) (x :: cs) = - dt rs (x :: cs)
  | [], _, _, h => by simp at h
  | f :: rs, cs, hx, h => by
    have h' : rs.length = cs.length := by simpa using h
    show ex (ng x f) (dt (rs.map (ng x))) [] (x :: cs) = - ex f (dt rs) [] (x :: cs)
    rw [ex_front, ex_front, dt_ng_no rs cs hx]
    have h1 : ng x f x = - f x := if_pos rfl
    have h2 : ex (ng x f) (fun l => dt (rs.map (ng x)) (x :: l)) [] cs = - ex f (fun l => dt rs (x :: l)) [] cs := by
      rw [← ex_neg]
      refine ex_congr_len cs [] (fun c hc => if_neg (fun e : c = x => hx (e ▸ hc))) (fun l hn hz => ?_)
      exact dt_ng rs l (fun hm => hx ((hz x hm).elim (fun q => nomatch q) id)) (by simp only [List.length_nil] at hn; omega)
    rw [h1, h2, Int.neg_mul]
    omega
theorem dt_ng_in {x : Nat} {rs : List (Nat → Int)} {P Q : List Nat} (hx : x ∉ P ++ Q) (h : P.length + Q.length + 1 = rs.length) : dt (rs.map (ng x)) (P ++ x :: Q) = - dt rs (P ++ x :: Q) := by
  have h1 := dt_cfront (rs := rs.map (ng x)) (x := x) (Q := Q) P [] (by rw [List.length_map, List.length_nil]; omega)
  have h2 := dt_cfront (rs := rs) (x := x) (Q := Q) P [] (by rw [List.length_nil]; omega)
  rw [List.nil_append, List.nil_append] at h1 h2
  have h3 := dt_ng rs (P ++ Q) hx (by rw [List.length_append]; omega)
  rw [h1, h2] at h3
  have h4 : sg P.length * (sg P.length * dt (rs.map (ng x)) (P ++ x :: Q)) = sg P.length * - (sg P.length * dt rs (P ++ x :: Q)) := by rw [h3]
  rw [← Int.mul_assoc, sg_sq, Int.one_mul, Int.mul_neg, ← Int.mul_assoc, sg_sq, Int.one_mul] at h4
  exact h4
/-- two made one: both minors, and twice the crossed one -/
theorem pd_polar {A B : Nat → Nat → Int} {x y : Nat} {L : List Nat} (hy : y ∉ L) (hs : ∀ a b, A a b = A b a)
    (hB : ∀ k ∈ y :: L, ∀ l ∈ y :: L, B k l = mg x y (fun z => if k = y then A y z + A x z else A k z) l) :
    pd B (y :: L) = pd A (y :: L) + pd A (x :: L) + 2 * dt ((x :: L).map A) (y :: L) := by
  have e5 : pd B (y :: L) = dt (((fun l => A y l + 1 * A x l) :: L.map A).map (mg x y)) (y :: L) := by
    unfold pd
    refine dt_map_congr (y :: L) (by simp) (fun i f g h1 h2 z hz => ?_)
    cases i with
    | zero =>
      simp only [List.map_cons, List.getElem?_cons_zero, Option.some.injEq] at h1 h2
      subst h1
      subst h2
      rw [hB y List.mem_cons_self z hz]
      congr 1
      funext w
      rw [if_pos rfl, Int.one_mul]
    | succ i =>
      simp only [List.map_cons, List.getElem?_cons_succ, List.getElem?_map] at h1 h2
      cases hk : L[i]? with
      | none => rw [hk] at h1; cases h1
      | some k =>
        rw [hk] at h1 h2
        cases h1
        cases h2
        have hkL := List.mem_of_getElem? hk
        rw [hB k (List.mem_cons_of_mem _ hkL) z hz]
        congr 1
        funext w
        rw [if_neg (fun e : k = y => hy (e ▸ hkL))]
  have lin1 : ∀ (f g : Nat → Int) (a : Int) (rs : List (Nat → Int)) (cs : List Nat), dt ((fun l => f l + a * g l) :: rs) cs = dt (f :: rs) cs + a * dt (g :: rs) cs := fun f g a rs cs => ex_addf a cs []
  rw [e5, dt_mg _ L hy (by simp), lin1, lin1]
  have tr := dt_tr (A := A) (x :: L) (y :: L) (by simp)
  have eA : (fun c r => A r c) = A := by funext c r; exact hs r c
  rw [eA] at tr
  have e1 : dt (A y :: L.map A) (x :: L) = dt ((x :: L).map A) (y :: L) := tr
  have e2 : dt (A x :: L.map A) (y :: L) = dt ((x :: L).map A) (y :: L) := rfl
  have e3 : dt (A y :: L.map A) (y :: L) = pd A (y :: L) := rfl
  have e4 : dt (A x :: L.map A) (x :: L) = pd A (x :: L) := rfl
  rw [e1, e2, e3, e4]
  omega
theorem LA_sym {lab : Nat → Nat} : ∀ (es : List Ed) (k l : Nat), LA lab es k l = LA lab es l k
  | [], _, _ => rfl
  | e :: es, k, l => by
    show LA lab es k l + _ = LA lab es l k + _
    rw [LA_sym es k l, Int.mul_comm (xv lab e k)]
