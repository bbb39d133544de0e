/-! THE LAW'S OWN METHODS: both worlds, the script, rows made on the way; calls that throw and are caught. -/
def wsL (cy : Nat → ClassId) (h : Nat → Nat) (s : Wd × Wd) : va_W := wsC cy h s.1 ++ (wsN cy (fun k => h (58 + k)) s.2 ++ [])
def adL (h : Nat → Nat) : List Nat := adC h ++ adN (fun k => h (58 + k))
theorem wfL {h : Nat → Nat} (hn : (adL h).Nodup) (cy : Nat → ClassId) : WF (wsL cy h) (adL h) := ⟨hn, fun _ => rfl⟩
theorem wfL_C {cy : Nat → ClassId} {h : Nat → Nat} (hW : WF (wsL cy h) (adL h)) : WF (wsC cy h) (adC h) := wfC (List.nodup_append.mp hW.1).1 cy
theorem wfL_N {cy : Nat → ClassId} {h : Nat → Nat} (hW : WF (wsL cy h) (adL h)) : WF (wsN cy (fun k => h (58 + k))) (adN (fun k => h (58 + k))) := wfN (List.nodup_append.mp hW.1).2.1 cy
theorem wsL_at0 (cy : Nat → ClassId) (h : Nat → Nat) (s : Wd × Wd) : (wsL cy h s)[0]? = (wsC cy h s.1)[0]? := rfl
theorem wsL_at58 (cy : Nat → ClassId) (h : Nat → Nat) (s : Wd × Wd) : (wsL cy h s)[58]? = some (h 58, .inl (cy 0, 6, .inl (s.2.1 0))) := rfl
theorem wsL_set58 (cy : Nat → ClassId) (h : Nat → Nat) (γ ν : Wd) (v : Int32) (j : Nat) : (wsL cy h (γ, ν)).set 58 (h 58, .inl (cy 0, 6, .inl (upd (ν.1 0) j v))) = wsL cy h (γ, sI ν 0 j v) := rfl
theorem wsL_at59 (cy : Nat → ClassId) (h : Nat → Nat) (s : Wd × Wd) : (wsL cy h s)[59]? = some (h 59, .inl (cy 0, 20, .inl (s.2.1 1))) := rfl
theorem wsL_set59 (cy : Nat → ClassId) (h : Nat → Nat) (γ ν : Wd) (v : Int32) (j : Nat) : (wsL cy h (γ, ν)).set 59 (h 59, .inl (cy 0, 20, .inl (upd (ν.1 1) j v))) = wsL cy h (γ, sI ν 1 j v) := rfl
theorem wsL_at60 (cy : Nat → ClassId) (h : Nat → Nat) (s : Wd × Wd) : (wsL cy h s)[60]? = some (h 60, .inl (cy 0, 20, .inl (s.2.1 2))) := rfl
theorem wsL_set60 (cy : Nat → ClassId) (h : Nat → Nat) (γ ν : Wd) (v : Int32) (j : Nat) : (wsL cy h (γ, ν)).set 60 (h 60, .inl (cy 0, 20, .inl (upd (ν.1 2) j v))) = wsL cy h (γ, sI ν 2 j v) := rfl
theorem wsL_at61 (cy : Nat → ClassId) (h : Nat → Nat) (s : Wd × Wd) : (wsL cy h s)[61]? = some (h 61, .inl (cy 0, 20, .inl (s.2.1 3))) := rfl
theorem wsL_set61 (cy : Nat → ClassId) (h : Nat → Nat) (γ ν : Wd) (v : Int32) (j : Nat) : (wsL cy h (γ, ν)).set 61 (h 61, .inl (cy 0, 20, .inl (upd (ν.1 3) j v))) = wsL cy h (γ, sI ν 3 j v) := rfl
theorem wsL_at62 (cy : Nat → ClassId) (h : Nat → Nat) (s : Wd × Wd) : (wsL cy h s)[62]? = some (h 62, .inl (cy 0, 6, .inl (s.2.1 4))) := rfl
theorem wsL_set62 (cy : Nat → ClassId) (h : Nat → Nat) (γ ν : Wd) (v : Int32) (j : Nat) : (wsL cy h (γ, ν)).set 62 (h 62, .inl (cy 0, 6, .inl (upd (ν.1 4) j v))) = wsL cy h (γ, sI ν 4 j v) := rfl
theorem wsL_at63 (cy : Nat → ClassId) (h : Nat → Nat) (s : Wd × Wd) : (wsL cy h s)[63]? = some (h 63, .inl (cy 0, 20, .inl (s.2.1 5))) := rfl
theorem wsL_set63 (cy : Nat → ClassId) (h : Nat → Nat) (γ ν : Wd) (v : Int32) (j : Nat) : (wsL cy h (γ, ν)).set 63 (h 63, .inl (cy 0, 20, .inl (upd (ν.1 5) j v))) = wsL cy h (γ, sI ν 5 j v) := rfl
theorem wsL_at64 (cy : Nat → ClassId) (h : Nat → Nat) (s : Wd × Wd) : (wsL cy h s)[64]? = some (h 64, .inl (cy 0, 20, .inl (s.2.1 6))) := rfl
theorem wsL_set64 (cy : Nat → ClassId) (h : Nat → Nat) (γ ν : Wd) (v : Int32) (j : Nat) : (wsL cy h (γ, ν)).set 64 (h 64, .inl (cy 0, 20, .inl (upd (ν.1 6) j v))) = wsL cy h (γ, sI ν 6 j v) := rfl
theorem wsL_at65 (cy : Nat → ClassId) (h : Nat → Nat) (s : Wd × Wd) : (wsL cy h s)[65]? = some (h 65, .inl (cy 0, 20, .inl (s.2.1 7))) := rfl
theorem wsL_set65 (cy : Nat → ClassId) (h : Nat → Nat) (γ ν : Wd) (v : Int32) (j : Nat) : (wsL cy h (γ, ν)).set 65 (h 65, .inl (cy 0, 20, .inl (upd (ν.1 7) j v))) = wsL cy h (γ, sI ν 7 j v) := rfl
theorem wsL_at66 (cy : Nat → ClassId) (h : Nat → Nat) (s : Wd × Wd) : (wsL cy h s)[66]? = some (h 66, .inl (cy 0, 40, .inl (s.2.1 8))) := rfl
theorem wsL_set66 (cy : Nat → ClassId) (h : Nat → Nat) (γ ν : Wd) (v : Int32) (j : Nat) : (wsL cy h (γ, ν)).set 66 (h 66, .inl (cy 0, 40, .inl (upd (ν.1 8) j v))) = wsL cy h (γ, sI ν 8 j v) := rfl
theorem wsL_at67 (cy : Nat → ClassId) (h : Nat → Nat) (s : Wd × Wd) : (wsL cy h s)[67]? = some (h 67, .inl (cy 0, 7, .inl (s.2.1 9))) := rfl
theorem wsL_set67 (cy : Nat → ClassId) (h : Nat → Nat) (γ ν : Wd) (v : Int32) (j : Nat) : (wsL cy h (γ, ν)).set 67 (h 67, .inl (cy 0, 7, .inl (upd (ν.1 9) j v))) = wsL cy h (γ, sI ν 9 j v) := rfl
theorem wsL_at68 (cy : Nat → ClassId) (h : Nat → Nat) (s : Wd × Wd) : (wsL cy h s)[68]? = some (h 68, .inl (cy 1, 49, .inr (.inl (s.2.2 10)))) := rfl
theorem wsL_set68 (cy : Nat → ClassId) (h : Nat → Nat) (γ ν : Wd) (v : Int64) (j : Nat) : (wsL cy h (γ, ν)).set 68 (h 68, .inl (cy 1, 49, .inr (.inl (vp_updL (ν.2 10) j v)))) = wsL cy h (γ, sL ν 10 j v) := rfl
theorem wsL_at69 (cy : Nat → ClassId) (h : Nat → Nat) (s : Wd × Wd) : (wsL cy h s)[69]? = some (h 69, .inl (cy 1, 49, .inr (.inl (s.2.2 11)))) := rfl
theorem wsL_set69 (cy : Nat → ClassId) (h : Nat → Nat) (γ ν : Wd) (v : Int64) (j : Nat) : (wsL cy h (γ, ν)).set 69 (h 69, .inl (cy 1, 49, .inr (.inl (vp_updL (ν.2 11) j v)))) = wsL cy h (γ, sL ν 11 j v) := rfl
section LF
variable {l : Launch} {D : va_G} {cy : Nat → ClassId} {h : Nat → Nat} {y : MethodName} {wy : List Cond} {rm : Room} {mc ms : Nat} {av : List Value} {v : Option Value} {s : Wd × Wd} {σ' τ' : Wd}
theorem Con.inC (hW : WF (wsL cy h) (adL h)) (hc : Con l D cy (wsC cy h) (adC h) y wy rm mc ms av v s.1 σ') : Con l D cy (wsL cy h) (adL h) y wy rm mc ms av v s (σ', s.2) := Con.lift [] _ hc rfl rfl (wfL_C hW) hW
theorem Con.inN (hW : WF (wsL cy h) (adL h)) (hc : Con l D cy (wsN cy (fun k => h (58 + k))) (adN (fun k => h (58 + k))) y wy rm mc ms av v s.2 τ') : Con l D cy (wsL cy h) (adL h) y wy rm mc ms av v s (s.1, τ') := Con.lift (wsC cy h s.1) [] hc rfl rfl (wfL_N hW) hW
theorem ConX.inC {o : Nat ⊕ Option Value} (hW : WF (wsL cy h) (adL h)) (hc : ConX l D cy (wsC cy h) (adC h) y wy rm mc ms av o s.1 σ') : ConX l D cy (wsL cy h) (adL h) y wy rm mc ms av o s (σ', s.2) := ConX.lift [] _ hc rfl rfl (wfL_C hW) hW
end LF
/-! the worlds with rows made on the way: a long row and an int row (M), two int rows (D) -/
def wsM1 (cy : Nat → ClassId) (h : Nat → Nat) (q1 : Nat) (s : Wd × Wd) : va_W := wsN cy h s.1 ++ [(q1, .inl (cy 1, 64, .inr (.inl (s.2.2 12))))]
def wsM2 (cy : Nat → ClassId) (h : Nat → Nat) (q1 q2 : Nat) (s : Wd × Wd) : va_W := wsN cy h s.1 ++ [(q1, .inl (cy 1, 64, .inr (.inl (s.2.2 12)))), (q2, .inl (cy 0, 7, .inl (s.2.1 13)))]
def wsD1 (cy : Nat → ClassId) (h : Nat → Nat) (q1 : Nat) (s : Wd × Wd) : va_W := wsN cy h s.1 ++ [(q1, .inl (cy 0, 3, .inl (s.2.1 12)))]
def wsD2 (cy : Nat → ClassId) (h : Nat → Nat) (q1 q2 : Nat) (s : Wd × Wd) : va_W := wsN cy h s.1 ++ [(q1, .inl (cy 0, 3, .inl (s.2.1 12))), (q2, .inl (cy 0, 3, .inl (s.2.1 13)))]
theorem wfM1 (cy : Nat → ClassId) (h : Nat → Nat) (q1 : Nat) (hn : (adN h ++ [q1]).Nodup) : WF (wsM1 cy h q1) (adN h ++ [q1]) := ⟨hn, fun _ => rfl⟩
theorem wfM2 (cy : Nat → ClassId) (h : Nat → Nat) (q1 q2 : Nat) (hn : ((adN h ++ [q1]) ++ [q2]).Nodup) : WF (wsM2 cy h q1 q2) ((adN h ++ [q1]) ++ [q2]) := ⟨hn, fun _ => rfl⟩
theorem wfD1 (cy : Nat → ClassId) (h : Nat → Nat) (q1 : Nat) (hn : (adN h ++ [q1]).Nodup) : WF (wsD1 cy h q1) (adN h ++ [q1]) := ⟨hn, fun _ => rfl⟩
theorem wfD2 (cy : Nat → ClassId) (h : Nat → Nat) (q1 q2 : Nat) (hn : ((adN h ++ [q1]) ++ [q2]).Nodup) : WF (wsD2 cy h q1 q2) ((adN h ++ [q1]) ++ [q2]) := ⟨hn, fun _ => rfl⟩
theorem wsD2_at0 (cy : Nat → ClassId) (h : Nat → Nat) (q1 q2 : Nat) (s : Wd × Wd) : (wsD2 cy h q1 q2 s)[0]? = some (h 0, .inl (cy 0, 6, .inl (s.1.1 0))) := rfl
theorem wsD2_set0 (cy : Nat → ClassId) (h : Nat → Nat) (q1 q2 : Nat) (ν τ : Wd) (v : Int32) (j : Nat) : (wsD2 cy h q1 q2 (ν, τ)).set 0 (h 0, .inl (cy 0, 6, .inl (upd (ν.1 0) j v))) = wsD2 cy h q1 q2 (sI ν 0 j v, τ) := rfl
theorem wsD2_at1 (cy : Nat → ClassId) (h : Nat → Nat) (q1 q2 : Nat) (s : Wd × Wd) : (wsD2 cy h q1 q2 s)[1]? = some (h 1, .inl (cy 0, 20, .inl (s.1.1 1))) := rfl
theorem wsD2_set1 (cy : Nat → ClassId) (h : Nat → Nat) (q1 q2 : Nat) (ν τ : Wd) (v : Int32) (j : Nat) : (wsD2 cy h q1 q2 (ν, τ)).set 1 (h 1, .inl (cy 0, 20, .inl (upd (ν.1 1) j v))) = wsD2 cy h q1 q2 (sI ν 1 j v, τ) := rfl
theorem wsD2_at2 (cy : Nat → ClassId) (h : Nat → Nat) (q1 q2 : Nat) (s : Wd × Wd) : (wsD2 cy h q1 q2 s)[2]? = some (h 2, .inl (cy 0, 20, .inl (s.1.1 2))) := rfl
theorem wsD2_set2 (cy : Nat → ClassId) (h : Nat → Nat) (q1 q2 : Nat) (ν τ : Wd) (v : Int32) (j : Nat) : (wsD2 cy h q1 q2 (ν, τ)).set 2 (h 2, .inl (cy 0, 20, .inl (upd (ν.1 2) j v))) = wsD2 cy h q1 q2 (sI ν 2 j v, τ) := rfl
theorem wsD2_at3 (cy : Nat → ClassId) (h : Nat → Nat) (q1 q2 : Nat) (s : Wd × Wd) : (wsD2 cy h q1 q2 s)[3]? = some (h 3, .inl (cy 0, 20, .inl (s.1.1 3))) := rfl
theorem wsD2_set3 (cy : Nat → ClassId) (h : Nat → Nat) (q1 q2 : Nat) (ν τ : Wd) (v : Int32) (j : Nat) : (wsD2 cy h q1 q2 (ν, τ)).set 3 (h 3, .inl (cy 0, 20, .inl (upd (ν.1 3) j v))) = wsD2 cy h q1 q2 (sI ν 3 j v, τ) := rfl
theorem wsD2_at4 (cy : Nat → ClassId) (h : Nat → Nat) (q1 q2 : Nat) (s : Wd × Wd) : (wsD2 cy h q1 q2 s)[4]? = some (h 4, .inl (cy 0, 6, .inl (s.1.1 4))) := rfl
theorem wsD2_set4 (cy : Nat → ClassId) (h : Nat → Nat) (q1 q2 : Nat) (ν τ : Wd) (v : Int32) (j : Nat) : (wsD2 cy h q1 q2 (ν, τ)).set 4 (h 4, .inl (cy 0, 6, .inl (upd (ν.1 4) j v))) = wsD2 cy h q1 q2 (sI ν 4 j v, τ) := rfl
theorem wsD2_at5 (cy : Nat → ClassId) (h : Nat → Nat) (q1 q2 : Nat) (s : Wd × Wd) : (wsD2 cy h q1 q2 s)[5]? = some (h 5, .inl (cy 0, 20, .inl (s.1.1 5))) := rfl
theorem wsD2_set5 (cy : Nat → ClassId) (h : Nat → Nat) (q1 q2 : Nat) (ν τ : Wd) (v : Int32) (j : Nat) : (wsD2 cy h q1 q2 (ν, τ)).set 5 (h 5, .inl (cy 0, 20, .inl (upd (ν.1 5) j v))) = wsD2 cy h q1 q2 (sI ν 5 j v, τ) := rfl
theorem wsD2_at6 (cy : Nat → ClassId) (h : Nat → Nat) (q1 q2 : Nat) (s : Wd × Wd) : (wsD2 cy h q1 q2 s)[6]? = some (h 6, .inl (cy 0, 20, .inl (s.1.1 6))) := rfl
theorem wsD2_set6 (cy : Nat → ClassId) (h : Nat → Nat) (q1 q2 : Nat) (ν τ : Wd) (v : Int32) (j : Nat) : (wsD2 cy h q1 q2 (ν, τ)).set 6 (h 6, .inl (cy 0, 20, .inl (upd (ν.1 6) j v))) = wsD2 cy h q1 q2 (sI ν 6 j v, τ) := rfl
theorem wsD2_at7 (cy : Nat → ClassId) (h : Nat → Nat) (q1 q2 : Nat) (s : Wd × Wd) : (wsD2 cy h q1 q2 s)[7]? = some (h 7, .inl (cy 0, 20, .inl (s.1.1 7))) := rfl
theorem wsD2_set7 (cy : Nat → ClassId) (h : Nat → Nat) (q1 q2 : Nat) (ν τ : Wd) (v : Int32) (j : Nat) : (wsD2 cy h q1 q2 (ν, τ)).set 7 (h 7, .inl (cy 0, 20, .inl (upd (ν.1 7) j v))) = wsD2 cy h q1 q2 (sI ν 7 j v, τ) := rfl
theorem wsD2_at8 (cy : Nat → ClassId) (h : Nat → Nat) (q1 q2 : Nat) (s : Wd × Wd) : (wsD2 cy h q1 q2 s)[8]? = some (h 8, .inl (cy 0, 40, .inl (s.1.1 8))) := rfl
theorem wsD2_set8 (cy : Nat → ClassId) (h : Nat → Nat) (q1 q2 : Nat) (ν τ : Wd) (v : Int32) (j : Nat) : (wsD2 cy h q1 q2 (ν, τ)).set 8 (h 8, .inl (cy 0, 40, .inl (upd (ν.1 8) j v))) = wsD2 cy h q1 q2 (sI ν 8 j v, τ) := rfl
theorem wsD2_at9 (cy : Nat → ClassId) (h : Nat → Nat) (q1 q2 : Nat) (s : Wd × Wd) : (wsD2 cy h q1 q2 s)[9]? = some (h 9, .inl (cy 0, 7, .inl (s.1.1 9))) := rfl
theorem wsD2_set9 (cy : Nat → ClassId) (h : Nat → Nat) (q1 q2 : Nat) (ν τ : Wd) (v : Int32) (j : Nat) : (wsD2 cy h q1 q2 (ν, τ)).set 9 (h 9, .inl (cy 0, 7, .inl (upd (ν.1 9) j v))) = wsD2 cy h q1 q2 (sI ν 9 j v, τ) := rfl
theorem wsD2_at12 (cy : Nat → ClassId) (h : Nat → Nat) (q1 q2 : Nat) (s : Wd × Wd) : (wsD2 cy h q1 q2 s)[12]? = some (q1, .inl (cy 0, 3, .inl (s.2.1 12))) := rfl
theorem wsD2_at13 (cy : Nat → ClassId) (h : Nat → Nat) (q1 q2 : Nat) (s : Wd × Wd) : (wsD2 cy h q1 q2 s)[13]? = some (q2, .inl (cy 0, 3, .inl (s.2.1 13))) := rfl
theorem wsD2_set12 (cy : Nat → ClassId) (h : Nat → Nat) (q1 q2 : Nat) (ν τ : Wd) (v : Int32) (j : Nat) : (wsD2 cy h q1 q2 (ν, τ)).set 12 (q1, .inl (cy 0, 3, .inl (upd (τ.1 12) j v))) = wsD2 cy h q1 q2 (ν, sI τ 12 j v) := rfl
theorem wsD2_set13 (cy : Nat → ClassId) (h : Nat → Nat) (q1 q2 : Nat) (ν τ : Wd) (v : Int32) (j : Nat) : (wsD2 cy h q1 q2 (ν, τ)).set 13 (q2, .inl (cy 0, 3, .inl (upd (τ.1 13) j v))) = wsD2 cy h q1 q2 (ν, sI τ 13 j v) := rfl
theorem wsM2_at12 (cy : Nat → ClassId) (h : Nat → Nat) (q1 q2 : Nat) (s : Wd × Wd) : (wsM2 cy h q1 q2 s)[12]? = some (q1, .inl (cy 1, 64, .inr (.inl (s.2.2 12)))) := rfl
theorem wsM2_at13 (cy : Nat → ClassId) (h : Nat → Nat) (q1 q2 : Nat) (s : Wd × Wd) : (wsM2 cy h q1 q2 s)[13]? = some (q2, .inl (cy 0, 7, .inl (s.2.1 13))) := rfl
theorem wsM2_set12 (cy : Nat → ClassId) (h : Nat → Nat) (q1 q2 : Nat) (ν τ : Wd) (v : Int64) (j : Nat) : (wsM2 cy h q1 q2 (ν, τ)).set 12 (q1, .inl (cy 1, 64, .inr (.inl (vp_updL (τ.2 12) j v)))) = wsM2 cy h q1 q2 (ν, sL τ 12 j v) := rfl
theorem wsM2_set13 (cy : Nat → ClassId) (h : Nat → Nat) (q1 q2 : Nat) (ν τ : Wd) (v : Int32) (j : Nat) : (wsM2 cy h q1 q2 (ν, τ)).set 13 (q2, .inl (cy 0, 7, .inl (upd (τ.1 13) j v))) = wsM2 cy h q1 q2 (ν, sI τ 13 j v) := rfl
section LG
variable {l : Launch} {D : va_G} {cy : Nat → ClassId} {h : Nat → Nat} {y : MethodName} {wy : List Cond} {rm : Room} {mc ms q1 q2 : Nat} {av : List Value} {v : Option Value} {ν ν' τ : Wd}
theorem Con.inM2 (hN : WF (wsN cy h) (adN h)) (hW : WF (wsM2 cy h q1 q2) ((adN h ++ [q1]) ++ [q2])) (hc : Con l D cy (wsN cy h) (adN h) y wy rm mc ms av v ν ν') : Con l D cy (wsM2 cy h q1 q2) ((adN h ++ [q1]) ++ [q2]) y wy rm mc ms av v (ν, τ) (ν', τ) := Con.lift [] [(q1, .inl (cy 1, 64, .inr (.inl (τ.2 12)))), (q2, .inl (cy 0, 7, .inl (τ.1 13)))] hc rfl rfl hN hW
theorem Con.inD2 (hN : WF (wsN cy h) (adN h)) (hW : WF (wsD2 cy h q1 q2) ((adN h ++ [q1]) ++ [q2])) (hc : Con l D cy (wsN cy h) (adN h) y wy rm mc ms av v ν ν') : Con l D cy (wsD2 cy h q1 q2) ((adN h ++ [q1]) ++ [q2]) y wy rm mc ms av v (ν, τ) (ν', τ) := Con.lift [] [(q1, .inl (cy 0, 3, .inl (τ.1 12))), (q2, .inl (cy 0, 3, .inl (τ.1 13)))] hc rfl rfl hN hW
end LG
/-- the script, and the law's row -/
def sG {ρ : Type} (L : Nat) (xs : Nat → Int32) (i : Int32) (K : Int32 → Option ρ) : Option ρ := if inb i L = true then K (xs i.toNatClampNeg) else none
def bH {α ω ρ : Type} (f : Option ((Nat ⊕ α) × ω)) (K : α → ω → Option ρ) (X : Nat → ω → Option ρ) : Option ρ := match f with
  | some (.inr a, s) => K a s
  | some (.inl q, s) => X q s
  | none => none
theorem bH_some {α ω ρ : Type} {f : Option ((Nat ⊕ α) × ω)} {K : α → ω → Option ρ} {X : Nat → ω → Option ρ} {r : ρ} (h : bH f K X = some r) : (∃ a s, f = some (.inr a, s) ∧ K a s = some r) ∨ ∃ q s, f = some (.inl q, s) ∧ X q s = some r := by
  match f, h with
  | some (.inr a, s), h => exact Or.inl ⟨a, s, rfl, h⟩
  | some (.inl q, s), h => exact Or.inr ⟨q, s, rfl, h⟩
  | none, h => exact nomatch h
/-- the script's cell stands ahead of all that the law makes -/
def SX (s : State) (ad : List Nat) (b L : Nat) (xs : Nat → Int32) : Prop := va_X b L xs s s.heap ∧ b < s.heap.size ∧ ¬ wA ad s.heap.size b
/-- a frame over which an exception has been thrown -/
def GX {ω ρ : Type} (p : Program) (l : Launch) (e : Env) (R : Room) (s : State) (m : MethodId) (args : Array Value) (below : List Frame) (meth : Method) (c : Code) (nL cells slots : Nat) (D : va_G) (ws : ω → va_W) (ad : List Nat) (Q : ρ → State → Prop) (pc : Nat) (lv : List (Nat × Value)) (st : List Value) (σ : ω) (q : Nat) (k : Option ρ) : Prop :=
  ∀ r, k = some r → ∀ (H : Heap) (locs : List Loc) (ls : Array Slot) (x : Addr) (ce : Cell), lv_has ls nL lv → va_P D vwCl (ws σ) H → va_S (wA ad s.heap.size) s.heap H locs → H[x]? = some ce → ce.vm = .none → s.vm.findClass (exN q) = some ce.cls → vx_W p l e R s m args below meth c H locs cells slots (Q r) (F0 m pc ls st) x
section GL
variable {ω ρ : Type} {p : Program} {l : Launch} {e : Env} {R : Room} {s : State} {m : MethodId} {args : Array Value} {below : List Frame} {meth : Method} {c : Code} {cc : ByteArray} {nL cells slots : Nat} {own : String} {Ts : List Cond} {ret : Option FieldType} {D : va_G} {cy : Nat → ClassId} {ws : ω → va_W} {ad : List Nat} {Q : ρ → State → Prop} {pc : Nat} {lv : List (Nat × Value)} {st : List Value} {σ : ω} {k : Option ρ}
theorem GX.no {q : Nat} : GX p l e R s m args below meth c nL cells slots D ws ad Q (pc) lv (st) σ q (none : Option ρ) := fun _ h => nomatch h
theorem GX.on {q a : Nat} {k1 k2 : Option ρ} (h1 : q = a → GX p l e R s m args below meth c nL cells slots D ws ad Q (pc) lv (st) σ q (k1)) (h2 : ¬ q = a → GX p l e R s m args below meth c nL cells slots D ws ad Q (pc) lv (st) σ q (k2)) : GX p l e R s m args below meth c nL cells slots D ws ad Q (pc) lv (st) σ q (if q = a then k1 else k2) := by
  by_cases h : q = a
  · rw [if_pos h]; exact h1 h
  · rw [if_neg h]; exact h2 h
theorem GX.catch {q : Nat} {name : String} {tab : List ExceptionTableEntry} (E : EV p s m args meth c cc nL own Ts ret D cy ws ad) (htab : c.exceptionTable.toList = tab) (pre : List ExceptionTableEntry) (x : ExceptionTableEntry) (suf : List ExceptionTableEntry) (hsp : tab = pre ++ x :: suf)
    (hpass : ∀ z ∈ pre, z.catchType ≠ 0 ∧ ∃ nm : String, Cond.classLink own z.catchType nm ∈ Ts ∧ (exN q, nm) ∈ ncW) (hx : covers x pc = true) (h0 : x.catchType ≠ 0) (hlink : Cond.classLink own x.catchType name ∈ Ts) (hcast : Cond.castable (exN q) name ∈ nestW)
    (kk : ∀ a : Nat, G p l e R s m args below meth c nL cells slots D ws ad Q (x.handlerPc) lv ([.ref a]) σ (k)) : GX p l e R s m args below meth c nL cells slots D ws ad Q (pc) lv (st) σ q (k) := by
  intro r hr H locs ls a ce h hP hS hcell hv hcl
  exact vx_catch E.2.2.2.1 pre x suf (htab.trans hsp) (fun z hz => by
    obtain ⟨h1, nm, h2, h3⟩ := hpass z hz
    exact Or.inr ⟨h1, nm, E.2.2.2.2.1 _ h2, E.2.2.2.2.2.2.2.1.2.2.2.2.2 _ h3⟩) hx h0 (E.2.2.2.2.1 _ hlink) (va_Nw.use rfl (E.2.2.2.2.2.2.2.1.2.1 _ hcast)) hcell hv hcl (kk a r hr H locs ls h hP hS)
theorem G.astore_n {j : Fin 4} {i : Nat} {x : Nat} {lv' : List (Nat × Value)} (E : EV p s m args meth c cc nL own Ts ret D cy ws ad) (hdg : decode cc pc = .ok (.astore_n j, 1)) (hi : (j : Nat) = i) (hn : i < nL) (hl : (i, Value.ref x) :: lv.filter (fun q => !(q.1 == i) && !(q.1 + 1 == i && q.2.category == 2)) = lv') (kk : G p l e R s m args below meth c nL cells slots D ws ad Q (pc + 1) lv' (st) σ (k)) : G p l e R s m args below meth c nL cells slots D ws ad Q (pc) lv (.ref x :: st) σ (k) :=
  fun r hr H locs ls h hP hS => lv_astore_n E.1 E.2.1 hdg hi h hn hl (fun ls h => kk r hr H locs ls h hP hS)
theorem G.astore {i : Nat} {x : Nat} {lv' : List (Nat × Value)} (E : EV p s m args meth c cc nL own Ts ret D cy ws ad) (hdg : decode cc pc = .ok (.astore i, 2)) (hn : i < nL) (hl : (i, Value.ref x) :: lv.filter (fun q => !(q.1 == i) && !(q.1 + 1 == i && q.2.category == 2)) = lv') (kk : G p l e R s m args below meth c nL cells slots D ws ad Q (pc + 2) lv' (st) σ (k)) : G p l e R s m args below meth c nL cells slots D ws ad Q (pc) lv (.ref x :: st) σ (k) :=
  fun r hr H locs ls h hP hS => lv_astore E.1 E.2.1 hdg h hn hl (fun ls h => kk r hr H locs ls h hP hS)
theorem G.sld {b L : Nat} {xs : Nat → Int32} {i : Int32} {K : Int32 → Option ρ} (E : EV p s m args meth c cc nL own Ts ret D cy ws ad) (X0 : SX s ad b L xs) (hdg : decode cc pc = .ok (.iaload, 1)) (kk : ∀ z : Int32, G p l e R s m args below meth c nL cells slots D ws ad Q (pc + 1) lv (.int z :: st) σ (K z)) : G p l e R s m args below meth c nL cells slots D ws ad Q (pc) lv (.int i :: .ref b :: st) σ (sG L xs i K) := by
  intro r hr H locs ls h hP hS
  unfold sG at hr
  by_cases hy : inb i L = true
  · rw [if_pos hy] at hr; exact va_sld E.1 E.2.1 X0.1 X0.2.1 X0.2.2 hS (inb_in hy) hdg (kk _ r hr H locs ls h hP hS)
  · rw [if_neg hy] at hr; exact nomatch hr
theorem G.slen {b L : Nat} {xs : Nat → Int32} (E : EV p s m args meth c cc nL own Ts ret D cy ws ad) (X0 : SX s ad b L xs) (hdg : decode cc pc = .ok (.arraylength, 1)) (kk : G p l e R s m args below meth c nL cells slots D ws ad Q (pc + 1) lv (.int (Int32.ofNat L) :: st) σ (k)) : G p l e R s m args below meth c nL cells slots D ws ad Q (pc) lv (.ref b :: st) σ (k) :=
  fun r hr H locs ls h hP hS => va_slen E.1 E.2.1 X0.1 X0.2.1 X0.2.2 hS hdg (kk r hr H locs ls h hP hS)
theorem G.widen {k1 n1 : Nat} (h1 : cells ≤ k1) (h2 : slots ≤ n1) (kk : G p l e R s m args below meth c nL k1 n1 D ws ad Q (pc) lv (st) σ (k)) : G p l e R s m args below meth c nL cells slots D ws ad Q (pc) lv (st) σ (k) :=
  fun r hr H locs ls h hP hS => W.widen h1 h2 (kk r hr H locs ls h hP hS)
end GL
section GN
variable {ω ρ : Type} {p : Program} {l : Launch} {e : Env} {R : Room} {s : State} {m : MethodId} {args : Array Value} {below : List Frame} {meth : Method} {c : Code} {cc : ByteArray} {nL cells slots : Nat} {own : String} {Ts : List Cond} {ret : Option FieldType} {D : va_G} {cy : Nat → ClassId} {ws : ω → va_W} {ad : List Nat} {Q : ρ → State → Prop} {pc : Nat} {lv : List (Nat × Value)} {st : List Value} {σ : ω} {k : Option ρ}
/-- a loop's last count: what is left to do once more is nothing -/
def ck {ρ : Type} (n : Nat) (k : Option ρ) : Option ρ := if n = 0 then none else k
theorem G.ckk {n : Nat} (kk : n ≠ 0 → G p l e R s m args below meth c nL cells slots D ws ad Q pc lv st σ k) : G p l e R s m args below meth c nL cells slots D ws ad Q pc lv st σ (ck n k) := by
  show G p l e R s m args below meth c nL cells slots D ws ad Q pc lv st σ (if n = 0 then none else k)
  by_cases h : n = 0
  · rw [if_pos h]; exact G.no
  · rw [if_neg h]; exact kk h
theorem G.dupx2 {va vb vd : Value} (E : EV p s m args meth c cc nL own Ts ret D cy ws ad) (hdg : decode cc pc = .ok (.dup_x2, 1)) (h1 : va.category = 1) (h2 : vb.category = 1) (h3 : vd.category = 1) (kk : G p l e R s m args below meth c nL cells slots D ws ad Q (pc + 1) lv (va :: vb :: vd :: va :: st) σ k) : G p l e R s m args below meth c nL cells slots D ws ad Q pc lv (va :: vb :: vd :: st) σ k :=
  fun r hr H locs ls h hP hS => lv_dup_x2 E.1 E.2.1 hdg h1 h2 h3 (kk r hr H locs ls h hP hS)
theorem G.ldc2w {index : Nat} {v : Int64} (E : EV p s m args meth c cc nL own Ts ret D cy ws ad) (hdg : decode cc pc = .ok (.ldc2_w index, 3)) (hc : (Jvm.Cond.constantLong own index v) ∈ Ts) (kk : G p l e R s m args below meth c nL cells slots D ws ad Q (pc + 3) lv (.long v :: st) σ k) : G p l e R s m args below meth c nL cells slots D ws ad Q pc lv st σ k :=
  fun r hr H locs ls h hP hS => lv_ldc2 E.1 E.2.1 E.2.2.2.1 (E.2.2.2.2.1 _ hc) hdg (kk r hr H locs ls h hP hS)
theorem G.ialdW {q0 p0 n a : Nat} {i : Int32} {K : Int32 → Option ρ} (s1 : Wd) (E : EV p s m args meth c cc nL own Ts ret D cy ws ad) (hdg : decode cc pc = .ok (.iaload, 1)) (ha : (ws σ)[q0]? = some (a, .inl (cy 0, n, .inl (s1.1 p0)))) (kk : ∀ z : Int32, G p l e R s m args below meth c nL cells slots D ws ad Q (pc + 1) lv (.int z :: st) σ (K z)) : G p l e R s m args below meth c nL cells slots D ws ad Q pc lv (.int i :: .ref a :: st) σ (rI s1 p0 n i K) := by
  intro r hr H locs ls h hP hS
  unfold rI at hr
  by_cases hy : inb i n = true
  · rw [if_pos hy] at hr; exact va_iald E.1 E.2.1 E.2.2.2.2.2.2.2.1.1 hP q0 0 ha rfl (inb_in hy) hdg (kk _ r hr H locs ls h hP hS)
  · rw [if_neg hy] at hr; exact nomatch hr
theorem G.laldW {q0 p0 n a : Nat} {i : Int32} {K : Int64 → Option ρ} (s1 : Wd) (E : EV p s m args meth c cc nL own Ts ret D cy ws ad) (hdg : decode cc pc = .ok (.laload, 1)) (ha : (ws σ)[q0]? = some (a, .inl (cy 1, n, .inr (.inl (s1.2 p0))))) (kk : ∀ z : Int64, G p l e R s m args below meth c nL cells slots D ws ad Q (pc + 1) lv (.long z :: st) σ (K z)) : G p l e R s m args below meth c nL cells slots D ws ad Q pc lv (.int i :: .ref a :: st) σ (rL s1 p0 n i K) := by
  intro r hr H locs ls h hP hS
  unfold rL at hr
  by_cases hy : inb i n = true
  · rw [if_pos hy] at hr; exact va_lald E.1 E.2.1 E.2.2.2.2.2.2.2.1.1 hP q0 1 ha rfl (inb_in hy) hdg (kk _ r hr H locs ls h hP hS)
  · rw [if_neg hy] at hr; exact nomatch hr
theorem G.iastW {q0 p0 n a : Nat} {i v : Int32} {K : Wd → Option ρ} (s1 : Wd) (put : Wd → ω) (E : EV p s m args meth c cc nL own Ts ret D cy ws ad) (hdg : decode cc pc = .ok (.iastore, 1)) (ha : (ws σ)[q0]? = some (a, .inl (cy 0, n, .inl (s1.1 p0)))) (hs : ∀ j, (ws σ).set q0 (a, .inl (cy 0, n, .inl (upd (s1.1 p0) j v))) = ws (put (sI s1 p0 j v))) (kk : ∀ s' : Wd, G p l e R s m args below meth c nL cells slots D ws ad Q (pc + 1) lv st (put s') (K s')) : G p l e R s m args below meth c nL cells slots D ws ad Q pc lv (.int v :: .int i :: .ref a :: st) σ (aI s1 p0 n i v K) := by
  intro r hr H locs ls h hP hS
  unfold aI at hr
  by_cases hy : inb i n = true
  · rw [if_pos hy] at hr; exact va_iast E.1 E.2.1 E.2.2.2.2.2.2.2.1.1 hP (E.2.2.2.2.2.2.2.2.D _ σ) hS q0 0 ha rfl (inb_in hy) hdg (fun H1 locs1 hP1 _ hS1 => kk _ r hr H1 locs1 ls h (by rw [hs] at hP1; exact hP1) hS1)
  · rw [if_neg hy] at hr; exact nomatch hr
theorem G.lastW {q0 p0 n a : Nat} {i : Int32} {v : Int64} {K : Wd → Option ρ} (s1 : Wd) (put : Wd → ω) (E : EV p s m args meth c cc nL own Ts ret D cy ws ad) (hdg : decode cc pc = .ok (.lastore, 1)) (ha : (ws σ)[q0]? = some (a, .inl (cy 1, n, .inr (.inl (s1.2 p0))))) (hs : ∀ j, (ws σ).set q0 (a, .inl (cy 1, n, .inr (.inl (vp_updL (s1.2 p0) j v)))) = ws (put (sL s1 p0 j v))) (kk : ∀ s' : Wd, G p l e R s m args below meth c nL cells slots D ws ad Q (pc + 1) lv st (put s') (K s')) : G p l e R s m args below meth c nL cells slots D ws ad Q pc lv (.long v :: .int i :: .ref a :: st) σ (aL s1 p0 n i v K) := by
  intro r hr H locs ls h hP hS
  unfold aL at hr
  by_cases hy : inb i n = true
  · rw [if_pos hy] at hr; exact va_last E.1 E.2.1 E.2.2.2.2.2.2.2.1.1 hP (E.2.2.2.2.2.2.2.2.D _ σ) hS q0 1 ha rfl (inb_in hy) hdg (fun H1 locs1 hP1 _ hS1 => kk _ r hr H1 locs1 ls h (by rw [hs] at hP1; exact hP1) hS1)
  · rw [if_neg hy] at hr; exact nomatch hr
theorem vP_left {D : va_G} {cl : List vw_C} {A B : va_W} {H : Heap} (h : va_P D cl (A ++ B) H) : va_P D cl A H := by
  rw [vP_iff] at h ⊢
  exact fun q hq => h q (List.mem_append_left _ hq)
/-- cells that aren't looked at any more -/
theorem G.drop {ω1 : Type} {ws1 : ω1 → va_W} {ad1 : List Nat} {σ1 : ω1} (hsub : ∀ H, va_P D vwCl (ws1 σ1) H → va_P D vwCl (ws σ) H) (hA : wA ad1 s.heap.size = wA ad s.heap.size) (kk : G p l e R s m args below meth c nL cells slots D ws ad Q pc lv st σ k) : G p l e R s m args below meth c nL cells slots D ws1 ad1 Q pc lv st σ1 k :=
  fun r hr H locs ls h hP hS => kk r hr H locs ls h (hsub H hP) (by rw [← hA]; exact hS)
theorem wA_push {ad : List Nat} {q sz : Nat} (h : q ∈ ad ∨ sz ≤ q) : wA (ad ++ [q]) sz = wA ad sz := by
  funext x
  apply propext
  unfold wA
  rw [List.mem_append, List.mem_singleton]
  constructor
  · rintro ((h1 | rfl) | h1)
    · exact Or.inl h1
    · exact h
    · exact Or.inr h1
  · rintro (h1 | h1)
    · exact Or.inl (Or.inl h1)
    · exact Or.inr h1
theorem nodup_push {W : va_W} {ad : List Nat} {q : Nat} {x : va_E} {A : Nat → Prop} (hD : va_D A (W ++ [(q, x)])) (hW : W.map (fun q => q.1) = ad) (hn : ad.Nodup) : (ad ++ [q]).Nodup := by
  rw [List.nodup_append]
  refine ⟨hn, by simp, fun a ha b hb hab => ?_⟩
  rw [List.mem_singleton] at hb
  subst hab
  subst hb
  rw [← hW] at ha
  obtain ⟨y, hy, hya⟩ := List.mem_map.mp ha
  obtain ⟨i, hi⟩ := List.getElem?_of_mem hy
  have hil := (List.getElem?_eq_some_iff.mp hi).1
  have := hD.1 i W.length y (a, x) (by rw [List.getElem?_append_left hil]; exact hi) (by simp) hya
  omega
theorem EV.push {ω1 : Type} {ws1 : ω1 → va_W} {q : Nat} (E : EV p s m args meth c cc nL own Ts ret D cy ws ad) (hA : wA (ad ++ [q]) s.heap.size = wA ad s.heap.size) (hW1 : WF ws1 (ad ++ [q])) : EV p s m args meth c cc nL own Ts ret D cy ws1 (ad ++ [q]) :=
  ⟨E.1, E.2.1, E.2.2.1, E.2.2.2.1, E.2.2.2.2.1, E.2.2.2.2.2.1, E.2.2.2.2.2.2.1, by rw [hA]; exact E.2.2.2.2.2.2.2.1, hW1⟩
/-- a row is made: the world has one cell more -/
theorem G.newI {ω1 : Type} {n : Int32} {N' : Nat} (ws1 : Nat → ω1 → va_W) (σ1 : ω1) (E : EV p s m args meth c cc nL own Ts ret D cy ws ad) (hdg : decode cc pc = .ok (.newarray .int, 2)) (harr : Cond.arrayClass .int ∈ Ts) (hn : ¬ n < 0) (hN : n.toNatClampNeg = N') (hbytes : N' * componentBytes .int ≤ 536870912) (hcs : cells + 1 ≤ R.cells ∧ slots + N' ≤ R.slots) (hws : ∀ q, ws1 q σ1 = ws σ ++ [(q, .inl (cy 0, N', .inl (fun _ => 0)))]) (hwf : ∀ q, (ad ++ [q]).Nodup → WF (ws1 q) (ad ++ [q]))
    (kk : ∀ q : Nat, EV p s m args meth c cc nL own Ts ret D cy (ws1 q) (ad ++ [q]) → wA (ad ++ [q]) s.heap.size = wA ad s.heap.size → G p l e R s m args below meth c nL (cells + 1) (slots + N') D (ws1 q) (ad ++ [q]) Q (pc + 2) lv (.ref q :: st) σ1 k) : G p l e R s m args below meth c nL cells slots D ws ad Q pc lv (.int n :: st) σ k := by
  intro r hr H locs ls h hP hS
  refine va_newa (atype := .int) (ty := .int) (a0 := (N', .inl (fun _ => 0))) E.1 E.2.1 (E.2.2.2.2.1 _ harr) rfl E.2.2.2.2.2.2.2.1.1 hP (E.2.2.2.2.2.2.2.2.D _ σ) hS (fun q hq => Or.inr hq) (fun cA => rfl) hn hN hbytes hcs.1 hcs.2 hdg (fun q cA H1 hK1 hP1 hD1 hS1 => ?_)
  have e1 : cA = cy 0 := by
    have h1 := (hK1.2 4 (cA, .int) rfl).2
    have h2 := (E.2.2.2.2.2.2.2.1.1.2 0 (cy 0, .int) rfl).2
    exact Option.some.inj (h1.symm.trans h2)
  subst e1
  have hA : wA (ad ++ [q]) s.heap.size = wA ad s.heap.size := wA_push (hD1.2 (ws σ).length (q, .inl (cy 0, N', .inl (fun _ => 0))) (by simp))
  have hnd := nodup_push hD1 (E.2.2.2.2.2.2.2.2.2 σ) E.2.2.2.2.2.2.2.2.1
  exact kk q (E.push hA (hwf q hnd)) hA r hr H1 locs ls h (by rw [hws]; exact hP1) (by rw [hA]; exact hS1)
theorem G.newL {ω1 : Type} {n : Int32} {N' : Nat} (ws1 : Nat → ω1 → va_W) (σ1 : ω1) (E : EV p s m args meth c cc nL own Ts ret D cy ws ad) (hdg : decode cc pc = .ok (.newarray .long, 2)) (harr : Cond.arrayClass .long ∈ Ts) (hn : ¬ n < 0) (hN : n.toNatClampNeg = N') (hbytes : N' * componentBytes .long ≤ 536870912) (hcs : cells + 1 ≤ R.cells ∧ slots + N' ≤ R.slots) (hws : ∀ q, ws1 q σ1 = ws σ ++ [(q, .inl (cy 1, N', .inr (.inl (fun _ => 0))))]) (hwf : ∀ q, (ad ++ [q]).Nodup → WF (ws1 q) (ad ++ [q]))
    (kk : ∀ q : Nat, EV p s m args meth c cc nL own Ts ret D cy (ws1 q) (ad ++ [q]) → wA (ad ++ [q]) s.heap.size = wA ad s.heap.size → G p l e R s m args below meth c nL (cells + 1) (slots + N') D (ws1 q) (ad ++ [q]) Q (pc + 2) lv (.ref q :: st) σ1 k) : G p l e R s m args below meth c nL cells slots D ws ad Q pc lv (.int n :: st) σ k := by
  intro r hr H locs ls h hP hS
  refine va_newa (atype := .long) (ty := .long) (a0 := (N', .inr (.inl (fun _ => 0)))) E.1 E.2.1 (E.2.2.2.2.1 _ harr) rfl E.2.2.2.2.2.2.2.1.1 hP (E.2.2.2.2.2.2.2.2.D _ σ) hS (fun q hq => Or.inr hq) (fun cA => rfl) hn hN hbytes hcs.1 hcs.2 hdg (fun q cA H1 hK1 hP1 hD1 hS1 => ?_)
  have e1 : cA = cy 1 := by
    have h1 := (hK1.2 4 (cA, .long) rfl).2
    have h2 := (E.2.2.2.2.2.2.2.1.1.2 1 (cy 1, .long) rfl).2
    exact Option.some.inj (h1.symm.trans h2)
  subst e1
  have hA : wA (ad ++ [q]) s.heap.size = wA ad s.heap.size := wA_push (hD1.2 (ws σ).length (q, .inl (cy 1, N', .inr (.inl (fun _ => 0)))) (by simp))
  have hnd := nodup_push hD1 (E.2.2.2.2.2.2.2.2.2 σ) E.2.2.2.2.2.2.2.2.1
  exact kk q (E.push hA (hwf q hnd)) hA r hr H1 locs ls h (by rw [hws]; exact hP1) (by rw [hA]; exact hS1)
theorem G.callViW {y : MethodName} {C : String} {wy wy' : List Cond} {rm : Room} {mc ms index maxL n a ci q0 : Nat} {bytes : ByteArray} {rt : Option FieldType} {fs As : List Value} {T : u_T} {N : Nat} {f : Option (Int32 × Wd)} {K : Int32 → Wd → Option ρ} (put : Wd → ω) (E : EV p s m args meth c cc nL own Ts ret D cy ws ad) (hdg : decode cc pc = .ok (.invokevirtual index, 3)) (hM : ∀ v σ1, f = some (v, σ1) → Con l D cy ws ad y wy rm mc ms (.ref a :: As) (some (.int v)) σ (put σ1)) (hG : GoodIn Ts (wsV own index C y wy)) (hw : wy = Cond.code y bytes maxL rt :: wy') (hrc : rm.cells = mc) (hrs : rm.slots = ms) (hd : y.cls = C ∧ y.cls ≠ "java/lang/invoke/MethodHandle" ∧ y.cls ≠ "java/lang/invoke/VarHandle" ∧ (parseMethodDescriptor y.desc).map (fun d => d.parameters.length) = some n) (hR : rm.frames + 1 ≤ R.frames ∧ 8 + (maxL + 11) + rm.locals ≤ R.locals) (he : (ws σ)[q0]? = some (a, .inr (ci, fs))) (hc : vwCl[ci]? = some (C, T, N)) (hn : As.length = n) (hcat : (st.map fun v => v.category).sum ≤ 8) (hf : cells + mc ≤ R.cells ∧ slots + ms ≤ R.slots) (kk : ∀ (v : Int32) (σ1 : Wd), G p l e R s m args below meth c nL (cells + mc) (slots + ms) D ws ad Q (pc + 3) lv (.int v :: st) (put σ1) (K v σ1)) : G p l e R s m args below meth c nL cells slots D ws ad Q (pc) lv (As.reverse ++ .ref a :: st) σ (bS f K) := by
  intro r hr H locs ls h hP hS
  obtain ⟨v, σ1, hf1, hk⟩ := bS_some hr
  obtain ⟨pb, pq⟩ := EV.pre (av := .ref a :: As) E hP hS
  exact G.run (sz := H.size) (va_runV (As := As) (rest := st) ⟨E.1, E.2.1, E.2.2.1, E.2.2.2.1, E.2.2.2.2.1⟩ (hM v σ1 hf1 H.size) (cwV n E.2.2.2.2.1 hG hw hrc hrs hd hR) ⟨pb, va_recv E.2.2.2.2.2.2.2.1.1 hP hc he, pq⟩ rfl hn h.1 rfl (lv_room hcat) hdg hf) hS (fun H1 locs1 hP1 hS1 => kk v σ1 r hk H1 locs1 ls h hP1 hS1)
theorem G.callVlW {y : MethodName} {C : String} {wy wy' : List Cond} {rm : Room} {mc ms index maxL n a ci q0 : Nat} {bytes : ByteArray} {rt : Option FieldType} {fs As : List Value} {T : u_T} {N : Nat} {f : Option (Int64 × Wd)} {K : Int64 → Wd → Option ρ} (put : Wd → ω) (E : EV p s m args meth c cc nL own Ts ret D cy ws ad) (hdg : decode cc pc = .ok (.invokevirtual index, 3)) (hM : ∀ v σ1, f = some (v, σ1) → Con l D cy ws ad y wy rm mc ms (.ref a :: As) (some (.long v)) σ (put σ1)) (hG : GoodIn Ts (wsV own index C y wy)) (hw : wy = Cond.code y bytes maxL rt :: wy') (hrc : rm.cells = mc) (hrs : rm.slots = ms) (hd : y.cls = C ∧ y.cls ≠ "java/lang/invoke/MethodHandle" ∧ y.cls ≠ "java/lang/invoke/VarHandle" ∧ (parseMethodDescriptor y.desc).map (fun d => d.parameters.length) = some n) (hR : rm.frames + 1 ≤ R.frames ∧ 8 + (maxL + 11) + rm.locals ≤ R.locals) (he : (ws σ)[q0]? = some (a, .inr (ci, fs))) (hc : vwCl[ci]? = some (C, T, N)) (hn : As.length = n) (hcat : (st.map fun v => v.category).sum ≤ 8) (hf : cells + mc ≤ R.cells ∧ slots + ms ≤ R.slots) (kk : ∀ (v : Int64) (σ1 : Wd), G p l e R s m args below meth c nL (cells + mc) (slots + ms) D ws ad Q (pc + 3) lv (.long v :: st) (put σ1) (K v σ1)) : G p l e R s m args below meth c nL cells slots D ws ad Q (pc) lv (As.reverse ++ .ref a :: st) σ (bS f K) := by
  intro r hr H locs ls h hP hS
  obtain ⟨v, σ1, hf1, hk⟩ := bS_some hr
  obtain ⟨pb, pq⟩ := EV.pre (av := .ref a :: As) E hP hS
  exact G.run (sz := H.size) (va_runV (As := As) (rest := st) ⟨E.1, E.2.1, E.2.2.1, E.2.2.2.1, E.2.2.2.2.1⟩ (hM v σ1 hf1 H.size) (cwV n E.2.2.2.2.1 hG hw hrc hrs hd hR) ⟨pb, va_recv E.2.2.2.2.2.2.2.1.1 hP hc he, pq⟩ rfl hn h.1 rfl (lv_room hcat) hdg hf) hS (fun H1 locs1 hP1 hS1 => kk v σ1 r hk H1 locs1 ls h hP1 hS1)
theorem G.callVvW {y : MethodName} {C : String} {wy wy' : List Cond} {rm : Room} {mc ms index maxL n a ci q0 : Nat} {bytes : ByteArray} {rt : Option FieldType} {fs As : List Value} {T : u_T} {N : Nat} {f : Option Wd} {K : Wd → Option ρ} (put : Wd → ω) (E : EV p s m args meth c cc nL own Ts ret D cy ws ad) (hdg : decode cc pc = .ok (.invokevirtual index, 3)) (hM : ∀ σ1, f = some σ1 → Con l D cy ws ad y wy rm mc ms (.ref a :: As) (none) σ (put σ1)) (hG : GoodIn Ts (wsV own index C y wy)) (hw : wy = Cond.code y bytes maxL rt :: wy') (hrc : rm.cells = mc) (hrs : rm.slots = ms) (hd : y.cls = C ∧ y.cls ≠ "java/lang/invoke/MethodHandle" ∧ y.cls ≠ "java/lang/invoke/VarHandle" ∧ (parseMethodDescriptor y.desc).map (fun d => d.parameters.length) = some n) (hR : rm.frames + 1 ≤ R.frames ∧ 8 + (maxL + 11) + rm.locals ≤ R.locals) (he : (ws σ)[q0]? = some (a, .inr (ci, fs))) (hc : vwCl[ci]? = some (C, T, N)) (hn : As.length = n) (hcat : (st.map fun v => v.category).sum ≤ 8) (hf : cells + mc ≤ R.cells ∧ slots + ms ≤ R.slots) (kk : ∀ σ1 : Wd, G p l e R s m args below meth c nL (cells + mc) (slots + ms) D ws ad Q (pc + 3) lv (st) (put σ1) (K σ1)) : G p l e R s m args below meth c nL cells slots D ws ad Q (pc) lv (As.reverse ++ .ref a :: st) σ (bP f K) := by
  intro r hr H locs ls h hP hS
  obtain ⟨σ1, hf1, hk⟩ := bP_some hr
  obtain ⟨pb, pq⟩ := EV.pre (av := .ref a :: As) E hP hS
  exact G.run (sz := H.size) (va_runV (As := As) (rest := st) ⟨E.1, E.2.1, E.2.2.1, E.2.2.2.1, E.2.2.2.2.1⟩ (hM σ1 hf1 H.size) (cwV n E.2.2.2.2.1 hG hw hrc hrs hd hR) ⟨pb, va_recv E.2.2.2.2.2.2.2.1.1 hP hc he, pq⟩ rfl hn h.1 rfl (lv_room hcat) hdg hf) hS (fun H1 locs1 hP1 hS1 => kk σ1 r hk H1 locs1 ls h hP1 hS1)
theorem G.callSiW {y : MethodName} {wy wy' : List Cond} {rm : Room} {mc ms index maxL n : Nat} {bytes : ByteArray} {rt : Option FieldType} {As : List Value} {f : Option (Int32 × Wd)} {K : Int32 → Wd → Option ρ} (put : Wd → ω) (E : EV p s m args meth c cc nL own Ts ret D cy ws ad) (hdg : decode cc pc = .ok (.invokestatic index, 3)) (hM : ∀ v σ1, f = some (v, σ1) → Con l D cy ws ad y wy rm mc ms As (some (.int v)) σ (put σ1)) (hG : GoodIn Ts (va_wsS own index y wy)) (hw : wy = Cond.code y bytes maxL rt :: wy') (hrc : rm.cells = mc) (hrs : rm.slots = ms) (hd : y.cls ≠ "java/lang/invoke/MethodHandle" ∧ y.cls ≠ "java/lang/invoke/VarHandle" ∧ (parseMethodDescriptor y.desc).map (fun d => d.parameters.length) = some n) (hR : rm.frames + 1 ≤ R.frames ∧ 8 + (maxL + 11) + rm.locals ≤ R.locals)  (hn : As.length = n) (hcat : (st.map fun v => v.category).sum ≤ 8) (hf : cells + mc ≤ R.cells ∧ slots + ms ≤ R.slots) (kk : ∀ (v : Int32) (σ1 : Wd), G p l e R s m args below meth c nL (cells + mc) (slots + ms) D ws ad Q (pc + 3) lv (.int v :: st) (put σ1) (K v σ1)) : G p l e R s m args below meth c nL cells slots D ws ad Q (pc) lv (As.reverse ++ st) σ (bS f K) := by
  intro r hr H locs ls h hP hS
  obtain ⟨v, σ1, hf1, hk⟩ := bS_some hr
  obtain ⟨pb, pq⟩ := EV.pre (av := As) E hP hS
  exact G.run (sz := H.size) (va_runS (As := As) (rest := st) ⟨E.1, E.2.1, E.2.2.1, E.2.2.2.1, E.2.2.2.2.1⟩ (hM v σ1 hf1 H.size) (va_cwS n E.2.2.2.2.1 hG hw hrc hrs hd hR) ⟨pb, pq⟩ rfl hn h.1 rfl (lv_room hcat) hdg hf) hS (fun H1 locs1 hP1 hS1 => kk v σ1 r hk H1 locs1 ls h hP1 hS1)
theorem G.callSlW {y : MethodName} {wy wy' : List Cond} {rm : Room} {mc ms index maxL n : Nat} {bytes : ByteArray} {rt : Option FieldType} {As : List Value} {f : Option (Int64 × Wd)} {K : Int64 → Wd → Option ρ} (put : Wd → ω) (E : EV p s m args meth c cc nL own Ts ret D cy ws ad) (hdg : decode cc pc = .ok (.invokestatic index, 3)) (hM : ∀ v σ1, f = some (v, σ1) → Con l D cy ws ad y wy rm mc ms As (some (.long v)) σ (put σ1)) (hG : GoodIn Ts (va_wsS own index y wy)) (hw : wy = Cond.code y bytes maxL rt :: wy') (hrc : rm.cells = mc) (hrs : rm.slots = ms) (hd : y.cls ≠ "java/lang/invoke/MethodHandle" ∧ y.cls ≠ "java/lang/invoke/VarHandle" ∧ (parseMethodDescriptor y.desc).map (fun d => d.parameters.length) = some n) (hR : rm.frames + 1 ≤ R.frames ∧ 8 + (maxL + 11) + rm.locals ≤ R.locals)  (hn : As.length = n) (hcat : (st.map fun v => v.category).sum ≤ 8) (hf : cells + mc ≤ R.cells ∧ slots + ms ≤ R.slots) (kk : ∀ (v : Int64) (σ1 : Wd), G p l e R s m args below meth c nL (cells + mc) (slots + ms) D ws ad Q (pc + 3) lv (.long v :: st) (put σ1) (K v σ1)) : G p l e R s m args below meth c nL cells slots D ws ad Q (pc) lv (As.reverse ++ st) σ (bS f K) := by
  intro r hr H locs ls h hP hS
  obtain ⟨v, σ1, hf1, hk⟩ := bS_some hr
  obtain ⟨pb, pq⟩ := EV.pre (av := As) E hP hS
  exact G.run (sz := H.size) (va_runS (As := As) (rest := st) ⟨E.1, E.2.1, E.2.2.1, E.2.2.2.1, E.2.2.2.2.1⟩ (hM v σ1 hf1 H.size) (va_cwS n E.2.2.2.2.1 hG hw hrc hrs hd hR) ⟨pb, pq⟩ rfl hn h.1 rfl (lv_room hcat) hdg hf) hS (fun H1 locs1 hP1 hS1 => kk v σ1 r hk H1 locs1 ls h hP1 hS1)
theorem G.callSvW {y : MethodName} {wy wy' : List Cond} {rm : Room} {mc ms index maxL n : Nat} {bytes : ByteArray} {rt : Option FieldType} {As : List Value} {f : Option Wd} {K : Wd → Option ρ} (put : Wd → ω) (E : EV p s m args meth c cc nL own Ts ret D cy ws ad) (hdg : decode cc pc = .ok (.invokestatic index, 3)) (hM : ∀ σ1, f = some σ1 → Con l D cy ws ad y wy rm mc ms As (none) σ (put σ1)) (hG : GoodIn Ts (va_wsS own index y wy)) (hw : wy = Cond.code y bytes maxL rt :: wy') (hrc : rm.cells = mc) (hrs : rm.slots = ms) (hd : y.cls ≠ "java/lang/invoke/MethodHandle" ∧ y.cls ≠ "java/lang/invoke/VarHandle" ∧ (parseMethodDescriptor y.desc).map (fun d => d.parameters.length) = some n) (hR : rm.frames + 1 ≤ R.frames ∧ 8 + (maxL + 11) + rm.locals ≤ R.locals)  (hn : As.length = n) (hcat : (st.map fun v => v.category).sum ≤ 8) (hf : cells + mc ≤ R.cells ∧ slots + ms ≤ R.slots) (kk : ∀ σ1 : Wd, G p l e R s m args below meth c nL (cells + mc) (slots + ms) D ws ad Q (pc + 3) lv (st) (put σ1) (K σ1)) : G p l e R s m args below meth c nL cells slots D ws ad Q (pc) lv (As.reverse ++ st) σ (bP f K) := by
  intro r hr H locs ls h hP hS
  obtain ⟨σ1, hf1, hk⟩ := bP_some hr
  obtain ⟨pb, pq⟩ := EV.pre (av := As) E hP hS
  exact G.run (sz := H.size) (va_runS (As := As) (rest := st) ⟨E.1, E.2.1, E.2.2.1, E.2.2.2.1, E.2.2.2.2.1⟩ (hM σ1 hf1 H.size) (va_cwS n E.2.2.2.2.1 hG hw hrc hrs hd hR) ⟨pb, pq⟩ rfl hn h.1 rfl (lv_room hcat) hdg hf) hS (fun H1 locs1 hP1 hS1 => kk σ1 r hk H1 locs1 ls h hP1 hS1)
theorem G.callHiW {y : MethodName} {C : String} {wy wy' : List Cond} {rm : Room} {mc1 ms1 index maxL n a ci q0 : Nat} {bytes : ByteArray} {rt : Option FieldType} {fs As : List Value} {T : u_T} {N : Nat} {f : Option ((Nat ⊕ Int32) × Wd)} {K : Int32 → Wd → Option ρ} {X : Nat → Wd → Option ρ} (put : Wd → ω) (E : EV p s m args meth c cc nL own Ts ret D cy ws ad) (hdg : decode cc pc = .ok (.invokevirtual index, 3)) (hM : ∀ r, f = some r → ConX l D cy ws ad y wy rm mc1 ms1 (.ref a :: As) (ooI r) σ (put r.2)) (hG : GoodIn Ts (wsV own index C y wy)) (hw : wy = Cond.code y bytes maxL rt :: wy') (hrc : rm.cells = mc1) (hrs : rm.slots = ms1) (hd : y.cls = C ∧ y.cls ≠ "java/lang/invoke/MethodHandle" ∧ y.cls ≠ "java/lang/invoke/VarHandle" ∧ (parseMethodDescriptor y.desc).map (fun d => d.parameters.length) = some n) (hR : rm.frames + 1 ≤ R.frames ∧ 8 + (maxL + 11) + rm.locals ≤ R.locals) (he : (ws σ)[q0]? = some (a, .inr (ci, fs))) (hc : vwCl[ci]? = some (C, T, N)) (hn : As.length = n) (hcat : (st.map fun v => v.category).sum ≤ 8) (hf : cells + mc1 ≤ R.cells ∧ slots + ms1 ≤ R.slots) (kk : ∀ (v : Int32) (σ1 : Wd), G p l e R s m args below meth c nL (cells + mc1) (slots + ms1) D ws ad Q (pc + 3) lv (.int v :: st) (put σ1) (K v σ1)) (kx : ∀ (q : Nat) (σ1 : Wd), GX p l e R s m args below meth c nL (cells + mc1) (slots + ms1) D ws ad Q (pc) lv (st) (put σ1) q (X q σ1)) : G p l e R s m args below meth c nL cells slots D ws ad Q (pc) lv (As.reverse ++ .ref a :: st) σ (bH f K X) := by
  intro r hr H locs ls h hP hS
  obtain ⟨pb, pq⟩ := EV.pre (av := .ref a :: As) E hP hS
  have hM1 : ∀ r1, f = some r1 → vx_Run p l e R s m args below meth c H locs cells slots mc1 ms1 (F0 m pc ls (As.reverse ++ .ref a :: st)) st (QcX D ws (wA ad H.size) (ooI r1) (put r1.2) (Value.ref a :: As).toArray) (XcX D ws (wA ad H.size) (ooI r1) (put r1.2)) (wA ad H.size) := fun r1 h1 =>
    vx_runV (As := As) (rest := st) ⟨E.1, E.2.1, E.2.2.1, E.2.2.2.1, E.2.2.2.2.1⟩ (hM r1 h1 H.size) (cwV n E.2.2.2.2.1 hG hw hrc hrs hd hR) ⟨pb, va_recv E.2.2.2.2.2.2.2.1.1 hP hc he, pq⟩ rfl hn h.1 rfl (lv_room hcat) hdg hf
  rcases bH_some hr with ⟨v, σ1, hf1, hk⟩ | ⟨q, σ1, hf1, hk⟩
  · exact G.xrun (hM1 _ hf1) hS (fun v' H1 locs1 ho hP1 hS1 => by cases ho; exact kk v σ1 r hk H1 locs1 ls h hP1 hS1) (fun q x ce H1 locs1 ho => nomatch ho)
  · exact G.xrun (hM1 _ hf1) hS (fun v' H1 locs1 ho => nomatch ho) (fun q' x ce H1 locs1 ho hx hv hcl hP1 hS1 => by
      cases ho
      exact kx q σ1 r hk H1 locs1 ls x ce h hP1 hS1 hx hv hcl)
theorem G.callHlW {y : MethodName} {C : String} {wy wy' : List Cond} {rm : Room} {mc1 ms1 index maxL n a ci q0 : Nat} {bytes : ByteArray} {rt : Option FieldType} {fs As : List Value} {T : u_T} {N : Nat} {f : Option ((Nat ⊕ Int64) × Wd)} {K : Int64 → Wd → Option ρ} {X : Nat → Wd → Option ρ} (put : Wd → ω) (E : EV p s m args meth c cc nL own Ts ret D cy ws ad) (hdg : decode cc pc = .ok (.invokevirtual index, 3)) (hM : ∀ r, f = some r → ConX l D cy ws ad y wy rm mc1 ms1 (.ref a :: As) (ooL r) σ (put r.2)) (hG : GoodIn Ts (wsV own index C y wy)) (hw : wy = Cond.code y bytes maxL rt :: wy') (hrc : rm.cells = mc1) (hrs : rm.slots = ms1) (hd : y.cls = C ∧ y.cls ≠ "java/lang/invoke/MethodHandle" ∧ y.cls ≠ "java/lang/invoke/VarHandle" ∧ (parseMethodDescriptor y.desc).map (fun d => d.parameters.length) = some n) (hR : rm.frames + 1 ≤ R.frames ∧ 8 + (maxL + 11) + rm.locals ≤ R.locals) (he : (ws σ)[q0]? = some (a, .inr (ci, fs))) (hc : vwCl[ci]? = some (C, T, N)) (hn : As.length = n) (hcat : (st.map fun v => v.category).sum ≤ 8) (hf : cells + mc1 ≤ R.cells ∧ slots + ms1 ≤ R.slots) (kk : ∀ (v : Int64) (σ1 : Wd), G p l e R s m args below meth c nL (cells + mc1) (slots + ms1) D ws ad Q (pc + 3) lv (.long v :: st) (put σ1) (K v σ1)) (kx : ∀ (q : Nat) (σ1 : Wd), GX p l e R s m args below meth c nL (cells + mc1) (slots + ms1) D ws ad Q (pc) lv (st) (put σ1) q (X q σ1)) : G p l e R s m args below meth c nL cells slots D ws ad Q (pc) lv (As.reverse ++ .ref a :: st) σ (bH f K X) := by
  intro r hr H locs ls h hP hS
  obtain ⟨pb, pq⟩ := EV.pre (av := .ref a :: As) E hP hS
  have hM1 : ∀ r1, f = some r1 → vx_Run p l e R s m args below meth c H locs cells slots mc1 ms1 (F0 m pc ls (As.reverse ++ .ref a :: st)) st (QcX D ws (wA ad H.size) (ooL r1) (put r1.2) (Value.ref a :: As).toArray) (XcX D ws (wA ad H.size) (ooL r1) (put r1.2)) (wA ad H.size) := fun r1 h1 =>
    vx_runV (As := As) (rest := st) ⟨E.1, E.2.1, E.2.2.1, E.2.2.2.1, E.2.2.2.2.1⟩ (hM r1 h1 H.size) (cwV n E.2.2.2.2.1 hG hw hrc hrs hd hR) ⟨pb, va_recv E.2.2.2.2.2.2.2.1.1 hP hc he, pq⟩ rfl hn h.1 rfl (lv_room hcat) hdg hf
  rcases bH_some hr with ⟨v, σ1, hf1, hk⟩ | ⟨q, σ1, hf1, hk⟩
  · exact G.xrun (hM1 _ hf1) hS (fun v' H1 locs1 ho hP1 hS1 => by cases ho; exact kk v σ1 r hk H1 locs1 ls h hP1 hS1) (fun q x ce H1 locs1 ho => nomatch ho)
  · exact G.xrun (hM1 _ hf1) hS (fun v' H1 locs1 ho => nomatch ho) (fun q' x ce H1 locs1 ho hx hv hcl hP1 hS1 => by
      cases ho
      exact kx q σ1 r hk H1 locs1 ls x ce h hP1 hS1 hx hv hcl)
theorem G.callHvW {y : MethodName} {C : String} {wy wy' : List Cond} {rm : Room} {mc1 ms1 index maxL n a ci q0 : Nat} {bytes : ByteArray} {rt : Option FieldType} {fs As : List Value} {T : u_T} {N : Nat} {f : Option ((Nat ⊕ Unit) × Wd)} {K : Unit → Wd → Option ρ} {X : Nat → Wd → Option ρ} (put : Wd → ω) (E : EV p s m args meth c cc nL own Ts ret D cy ws ad) (hdg : decode cc pc = .ok (.invokevirtual index, 3)) (hM : ∀ r, f = some r → ConX l D cy ws ad y wy rm mc1 ms1 (.ref a :: As) (ooV r) σ (put r.2)) (hG : GoodIn Ts (wsV own index C y wy)) (hw : wy = Cond.code y bytes maxL rt :: wy') (hrc : rm.cells = mc1) (hrs : rm.slots = ms1) (hd : y.cls = C ∧ y.cls ≠ "java/lang/invoke/MethodHandle" ∧ y.cls ≠ "java/lang/invoke/VarHandle" ∧ (parseMethodDescriptor y.desc).map (fun d => d.parameters.length) = some n) (hR : rm.frames + 1 ≤ R.frames ∧ 8 + (maxL + 11) + rm.locals ≤ R.locals) (he : (ws σ)[q0]? = some (a, .inr (ci, fs))) (hc : vwCl[ci]? = some (C, T, N)) (hn : As.length = n) (hcat : (st.map fun v => v.category).sum ≤ 8) (hf : cells + mc1 ≤ R.cells ∧ slots + ms1 ≤ R.slots) (kk : ∀ (v : Unit) (σ1 : Wd), G p l e R s m args below meth c nL (cells + mc1) (slots + ms1) D ws ad Q (pc + 3) lv (st) (put σ1) (K v σ1)) (kx : ∀ (q : Nat) (σ1 : Wd), GX p l e R s m args below meth c nL (cells + mc1) (slots + ms1) D ws ad Q (pc) lv (st) (put σ1) q (X q σ1)) : G p l e R s m args below meth c nL cells slots D ws ad Q (pc) lv (As.reverse ++ .ref a :: st) σ (bH f K X) := by
  intro r hr H locs ls h hP hS
  obtain ⟨pb, pq⟩ := EV.pre (av := .ref a :: As) E hP hS
  have hM1 : ∀ r1, f = some r1 → vx_Run p l e R s m args below meth c H locs cells slots mc1 ms1 (F0 m pc ls (As.reverse ++ .ref a :: st)) st (QcX D ws (wA ad H.size) (ooV r1) (put r1.2) (Value.ref a :: As).toArray) (XcX D ws (wA ad H.size) (ooV r1) (put r1.2)) (wA ad H.size) := fun r1 h1 =>
    vx_runV (As := As) (rest := st) ⟨E.1, E.2.1, E.2.2.1, E.2.2.2.1, E.2.2.2.2.1⟩ (hM r1 h1 H.size) (cwV n E.2.2.2.2.1 hG hw hrc hrs hd hR) ⟨pb, va_recv E.2.2.2.2.2.2.2.1.1 hP hc he, pq⟩ rfl hn h.1 rfl (lv_room hcat) hdg hf
  rcases bH_some hr with ⟨v, σ1, hf1, hk⟩ | ⟨q, σ1, hf1, hk⟩
  · exact G.xrun (hM1 _ hf1) hS (fun v' H1 locs1 ho hP1 hS1 => by cases ho; exact kk v σ1 r hk H1 locs1 ls h hP1 hS1) (fun q x ce H1 locs1 ho => nomatch ho)
  · exact G.xrun (hM1 _ hf1) hS (fun v' H1 locs1 ho => nomatch ho) (fun q' x ce H1 locs1 ho hx hv hcl hP1 hS1 => by
      cases ho
      exact kx q σ1 r hk H1 locs1 ls x ce h hP1 hS1 hx hv hcl)
theorem G.callWiW {y : MethodName} {wy wy' : List Cond} {rm : Room} {mc ms index maxL n : Nat} {bytes : ByteArray} {rt : Option FieldType} {hh : List (Nat × Nat × Nat × Nat)} {As : List Value} {f : Option (Int32 × Wd)} {K : Int32 → Wd → Option ρ} (put : Wd → ω) (E : EV p s m args meth c cc nL own Ts ret D cy ws ad) (hdg : decode cc pc = .ok (.invokestatic index, 3)) (hM : ∀ v σ1, f = some (v, σ1) → Con l D cy ws ad y wy rm mc ms As (some (.int v)) σ (put σ1)) (hG : GoodIn Ts (va_wsS own index y wy)) (hw : wy = Cond.codeWith y bytes maxL rt hh :: wy') (hrc : rm.cells = mc) (hrs : rm.slots = ms) (hd : y.cls ≠ "java/lang/invoke/MethodHandle" ∧ y.cls ≠ "java/lang/invoke/VarHandle" ∧ (parseMethodDescriptor y.desc).map (fun d => d.parameters.length) = some n) (hR : rm.frames + 1 ≤ R.frames ∧ 8 + (maxL + 11) + rm.locals ≤ R.locals) (hn : As.length = n) (hcat : (st.map fun v => v.category).sum ≤ 8) (hf : cells + mc ≤ R.cells ∧ slots + ms ≤ R.slots) (kk : ∀ (v : Int32) (σ1 : Wd), G p l e R s m args below meth c nL (cells + mc) (slots + ms) D ws ad Q (pc + 3) lv (.int v :: st) (put σ1) (K v σ1)) : G p l e R s m args below meth c nL cells slots D ws ad Q (pc) lv (As.reverse ++ st) σ (bS f K) := by
  intro r hr H locs ls h hP hS
  obtain ⟨v, σ1, hf1, hk⟩ := bS_some hr
  obtain ⟨pb, pq⟩ := EV.pre (av := As) E hP hS
  exact G.run (sz := H.size) (vx_runSW (As := As) (rest := st) ⟨E.1, E.2.1, E.2.2.1, E.2.2.2.1, E.2.2.2.2.1⟩ (hM v σ1 hf1 H.size) (vx_cwSW n E.2.2.2.2.1 hG hw hrc hrs hd hR) ⟨pb, pq⟩ rfl hn h.1 rfl (lv_room hcat) hdg hf) hS (fun H1 locs1 hP1 hS1 => kk v σ1 r hk H1 locs1 ls h hP1 hS1)
theorem G.callWlW {y : MethodName} {wy wy' : List Cond} {rm : Room} {mc ms index maxL n : Nat} {bytes : ByteArray} {rt : Option FieldType} {hh : List (Nat × Nat × Nat × Nat)} {As : List Value} {f : Option (Int64 × Wd)} {K : Int64 → Wd → Option ρ} (put : Wd → ω) (E : EV p s m args meth c cc nL own Ts ret D cy ws ad) (hdg : decode cc pc = .ok (.invokestatic index, 3)) (hM : ∀ v σ1, f = some (v, σ1) → Con l D cy ws ad y wy rm mc ms As (some (.long v)) σ (put σ1)) (hG : GoodIn Ts (va_wsS own index y wy)) (hw : wy = Cond.codeWith y bytes maxL rt hh :: wy') (hrc : rm.cells = mc) (hrs : rm.slots = ms) (hd : y.cls ≠ "java/lang/invoke/MethodHandle" ∧ y.cls ≠ "java/lang/invoke/VarHandle" ∧ (parseMethodDescriptor y.desc).map (fun d => d.parameters.length) = some n) (hR : rm.frames + 1 ≤ R.frames ∧ 8 + (maxL + 11) + rm.locals ≤ R.locals) (hn : As.length = n) (hcat : (st.map fun v => v.category).sum ≤ 8) (hf : cells + mc ≤ R.cells ∧ slots + ms ≤ R.slots) (kk : ∀ (v : Int64) (σ1 : Wd), G p l e R s m args below meth c nL (cells + mc) (slots + ms) D ws ad Q (pc + 3) lv (.long v :: st) (put σ1) (K v σ1)) : G p l e R s m args below meth c nL cells slots D ws ad Q (pc) lv (As.reverse ++ st) σ (bS f K) := by
  intro r hr H locs ls h hP hS
  obtain ⟨v, σ1, hf1, hk⟩ := bS_some hr
  obtain ⟨pb, pq⟩ := EV.pre (av := As) E hP hS
  exact G.run (sz := H.size) (vx_runSW (As := As) (rest := st) ⟨E.1, E.2.1, E.2.2.1, E.2.2.2.1, E.2.2.2.2.1⟩ (hM v σ1 hf1 H.size) (vx_cwSW n E.2.2.2.2.1 hG hw hrc hrs hd hR) ⟨pb, pq⟩ rfl hn h.1 rfl (lv_room hcat) hdg hf) hS (fun H1 locs1 hP1 hS1 => kk v σ1 r hk H1 locs1 ls h hP1 hS1)
theorem Con.ofH {y : MethodName} {maxL mc ms : Nat} {rt : Option FieldType} {hh : List (Nat × Nat × Nat × Nat)} {wy wy' : List Cond} {rm : Room} {av : List Value} {lv0 : List (Nat × Value)} {r : ρ} (vo : ρ → Option Value) (so : ρ → ω) (hy : plainName y.cls = true) (hw : wy = Cond.codeWith y cc maxL rt hh :: wy') (hown : y.cls = own) (hav : (lg_sl av).length ≤ maxL) (hlv : lv_args 0 av = lv0) (hWF : WF ws ad) (hk : k = some r)
    (body : ∀ (p : Program) (e : Env) (s : State) (m : MethodId) (args : Array Value) (below : List Frame) (meth : Method) (c : Code), EV p s m args meth c cc maxL own wy rt D cy ws ad → c.exceptionTable.toList = tableOf hh → G p l e (headSpec wy rm).room s m args below meth c maxL 0 0 D ws ad (QM D ws ad below args s mc ms vo so) 0 lv0 [] σ k) : Con l D cy ws ad y wy rm mc ms av (vo r) σ (so r) := by
  intro sz
  refine MetFree.of_bodyS (code := cc) (maxLocals := maxL) (ret := rt) hy ?_ ?_
  · intro args s m h hn
    obtain ⟨m9, meth, c, hn9, h1, h2, h3, h4, -, h5, h6, -⟩ := Cond.codeWith_spec (atoms_spec (ws := wy) h _ (by rw [hw]; exact List.mem_cons_self))
    cases hn.symm.trans hn9
    exact ⟨meth, c, h1, h2, h3, h4, h5, h6⟩
  · intro p e s m args below meth c s₁ B hml hv _
    have hh0 : s₁.heap = s.heap := by rw [B.state]; rfl
    obtain ⟨rfl, hsz, hP, hK⟩ := hv
    subst hsz
    subst hown
    have hts := atoms_spec (ws := wy) B.pre
    have E : EV p s m av.toArray meth c cc maxL y.cls wy rt D cy ws ad := ⟨B.exec, B.bytes, hml, findClass_of_methodNamed B.named, hts, B.returns, B.notSynchronized, hK, hWF⟩
    have htab : c.exceptionTable.toList = tableOf hh := vx_table (x := y) B (hts _ (by rw [hw]; exact List.mem_cons_self))
    have hl := lv_entry av (n := maxL) hav
    have hb := body p e s m av.toArray below meth c E htab r hk s.heap [] _ (by rw [hlv] at hl; exact hl) hP va_S.rf
    rw [← lg_entry_eq] at hb
    obtain ⟨t, a1, o, b1, b2, b3⟩ := hb s₁ hh0 (Stand.of_body B)
    exact ⟨t, o, a1, b1, b2, ⟨b3.1, b3.2⟩⟩
theorem Con.ofM {y : MethodName} {cc : ByteArray} {maxL mc ms : Nat} {rt : Option FieldType} {wy wy' : List Cond} {rm : Room} {av : List Value} {lv0 : List (Nat × Value)} {own : String} {k : Option ρ} {r : ρ} (vo : ρ → Option Value) (so : ρ → ω) (hy : plainName y.cls = true) (hw : wy = Cond.code y cc maxL rt :: wy') (hown : y.cls = own) (hav : (lg_sl av).length ≤ maxL) (hlv : lv_args 0 av = lv0) (hWF : WF ws ad) (hk : k = some r)
    (body : ∀ (p : Program) (e : Env) (s : State) (m : MethodId) (args : Array Value) (below : List Frame) (meth : Method) (c : Code), EV p s m args meth c cc maxL own wy rt D cy ws ad → G p l e (headSpec wy rm).room s m args below meth c maxL 0 0 D ws ad (QM D ws ad below args s mc ms vo so) 0 lv0 [] σ k) : Con l D cy ws ad y wy rm mc ms av (vo r) σ (so r) := by
  intro sz
  refine Met.ofW (cc := cc) (maxL := maxL) (ret := rt) hy hw ?_
  intro p e s m args below meth c s₁ B hml hv
  obtain ⟨rfl, hsz, hP, hK⟩ := hv
  subst hsz
  subst hown
  have E : EV p s m av.toArray meth c cc maxL y.cls wy rt D cy ws ad := ⟨B.exec, B.bytes, hml, findClass_of_methodNamed B.named, atoms_spec (ws := wy) B.pre, B.returns, B.notSynchronized, hK, hWF⟩
  have hl := lv_entry av (n := maxL) hav
  rw [lg_entry_eq]
  rw [hlv] at hl
  exact body p e s m av.toArray below meth c E r hk s.heap [] _ hl hP va_S.rf
/-- the script read by a call -/
theorem G.callCell {y : MethodName} {wy wy' : List Cond} {rm : Room} {index maxL n b L : Nat} {xs : Nat → Int32} {bytes : ByteArray} {rt : Option FieldType} {As : List Value} {f : Option Int32} {K : Int32 → Option ρ} (E : EV p s m args meth c cc nL own Ts ret D cy ws ad) (X0 : SX s ad b L xs) (hdg : decode cc pc = .ok (.invokestatic index, 3)) (hM : ∀ v, f = some v → ∀ sz, Met l y wy rm (va_Pc As (fun U => Pre D cy ws ad σ sz U ∧ va_X b L xs U U.heap ∧ b < U.heap.size ∧ ¬ wA ad U.heap.size b)) (QR D ws (wA ad sz) (some (.int v)) σ) 0 0 (wA ad sz)) (hG : GoodIn Ts (va_wsS own index y wy)) (hw : wy = Cond.code y bytes maxL rt :: wy') (hrc : rm.cells = 0) (hrs : rm.slots = 0) (hd : y.cls ≠ "java/lang/invoke/MethodHandle" ∧ y.cls ≠ "java/lang/invoke/VarHandle" ∧ (parseMethodDescriptor y.desc).map (fun d => d.parameters.length) = some n) (hR : rm.frames + 1 ≤ R.frames ∧ 8 + (maxL + 11) + rm.locals ≤ R.locals) (hn : As.length = n) (hcat : (st.map fun v => v.category).sum ≤ 8) (hf : cells + 0 ≤ R.cells ∧ slots + 0 ≤ R.slots) (kk : ∀ v : Int32, G p l e R s m args below meth c nL (cells + 0) (slots + 0) D ws ad Q (pc + 3) lv (.int v :: st) σ (K v)) : G p l e R s m args below meth c nL cells slots D ws ad Q pc lv (As.reverse ++ st) σ (bP f K) := by
  intro r hr H locs ls h hP hS
  obtain ⟨v, hf1, hk⟩ := bP_some hr
  obtain ⟨pb, pq⟩ := EV.pre (av := As) E hP hS
  have hbH : b < H.size := Nat.lt_of_lt_of_le X0.2.1 hS.1
  have hbA : ¬ wA ad H.size b := fun z => X0.2.2 (z.elim Or.inl (fun w => absurd hbH (by omega)))
  have hXH : va_X b L xs s H := X0.1.kept (hS.2.1 b X0.2.1 X0.2.2)
  refine G.run (sz := H.size) (va_runS (As := As) (rest := st) ⟨E.1, E.2.1, E.2.2.1, E.2.2.2.1, E.2.2.2.2.1⟩ (hM v hf1 H.size) (va_cwS n E.2.2.2.2.1 hG hw hrc hrs hd hR) ⟨?_, ?_⟩ rfl hn h.1 rfl (lv_room hcat) hdg hf) hS (fun H1 locs1 hP1 hS1 => kk v r hk H1 locs1 ls h hP1 hS1)
  · intro a U g mk q
    obtain ⟨q0, q1, qX, qb, qA⟩ := q
    exact ⟨q0, (pb a U g mk ⟨q0, q1⟩).2, va_X.moved (u := U) (U := U.calling g mk a) (Vm.Alike.refl U.vm) qX, qb, qA⟩
  · intro U hU hW
    have h1 := pq U hU hW
    exact ⟨h1.1, h1.2, by rw [hU]; exact va_X.moved hW.alike hXH, by rw [hU]; exact hbH, by rw [hU]; exact hbA⟩
def f_L_cell (N L : Nat) (xs : Nat → Int32) (a1 : Int32) : Option Int32 := if Int32.ofNat L ≤ a1 then some (1205587475 * (a1 + 11)) else sG L xs a1 fun v => some v
abbrev rm_L_cell : Room := { frames := 0, cells := 0, slots := 0, locals := 0 }
theorem c_L_cell {N b L : Nat} {xs : Nat → Int32} {a1 v : Int32} (hW : WF ws ad) (hr : f_L_cell N L xs a1 = some v) : ∀ sz, Met l yL_cell wsL_cell rm_L_cell (va_Pc [.ref b, .int a1] (fun U => Pre D cy ws ad σ sz U ∧ va_X b L xs U U.heap ∧ b < U.heap.size ∧ ¬ wA ad U.heap.size b)) (QR D ws (wA ad sz) (some (.int v)) σ) 0 0 (wA ad sz) := by
  intro sz
  refine Met.ofW (cc := cL_cell) (maxL := 2) (ret := some .int) (by decide) rfl ?_
  intro p e s m args below meth c s₁ B hml hv
  obtain ⟨rfl, ⟨hsz, hP, hK⟩, hX, hb, hA⟩ := hv
  subst hsz
  have E : EV p s m ([.ref b, .int a1] : List Value).toArray meth c cL_cell 2 RL wsL_cell (some .int) D cy ws ad := ⟨B.exec, B.bytes, hml, findClass_of_methodNamed B.named, atoms_spec (ws := wsL_cell) B.pre, B.returns, B.notSynchronized, hK, hW⟩
  have X0 : SX s ad b L xs := ⟨hX, hb, hA⟩
  have hl := lv_entry ([.ref b, .int a1] : List Value) (n := 2) (Nat.le_of_ble_eq_true rfl)
  rw [lg_entry_eq]
  have hl : lv_has _ 2 [(0, .ref b), (1, .int a1)] := hl
  have main : G p l e (headSpec wsL_cell rm_L_cell).room s m ([.ref b, .int a1] : List Value).toArray below meth c 2 0 0 D ws ad (QM D ws ad below ([.ref b, .int a1] : List Value).toArray s 0 0 (fun r : Int32 => some (.int r)) (fun _ => σ)) 0 [(0, .ref b), (1, .int a1)] [] σ (f_L_cell N L xs a1) := by
    unfold f_L_cell
    refine G.iload_n E dL_cell_0 1 rfl rfl ?_
    refine G.aload_n E dL_cell_1 0 rfl rfl ?_
    refine G.slen E X0 dL_cell_2 ?_
    refine G.icmp_ge (tgt := 12) E dL_cell_3 (by decide) ?_ ?_
    · refine G.ldc (v := 1205587475) E dL_cell_12 (List.mem_of_getElem? (i := 1) rfl) ?_
      refine G.iload_n E dL_cell_14 1 rfl rfl ?_
      refine G.bipush (v := 11) E dL_cell_15 (by decide) ?_
      refine G.iadd E dL_cell_17 ?_
      refine G.imul E dL_cell_18 ?_
      exact G.iret E dL_cell_19 rfl rfl
    · refine G.aload_n E dL_cell_6 0 rfl rfl ?_
      refine G.iload_n E dL_cell_7 1 rfl rfl ?_
      refine G.sld E X0 dL_cell_8 (fun v => ?_)
      refine G.goto (tgt := 19) E dL_cell_9 (by decide) ?_
      exact G.iret E dL_cell_19 rfl rfl
  exact main v hr s.heap [] _ hl hP va_S.rf
end GN
/-! THE CLAIM OUT OF ONE WALK OF THE LAW'S BODY. Your part is whole_start (and what it stands on); all else here is the same for every law, but numbers. -/
def R_law : String := "ExactWiresLaw"
def lw_P (b : Addr) (xs : List Int32) (args : Array Value) (s : State) : Prop := args = #[.ref b] ∧ s.IntsAt b xs ∧ xs.length ≤ 260 ∧ (Jvm.Cond.and given_1 narrow_1).before args s = true
def lw_Q (_ : Array Value) (s : State) (o : Outcome) (t : State) : Prop := o = .returned (some (.int 1)) ∧ Framed s o t [] 600104 7301314
def lw_Z (below : List Frame) (a : Array Value) (s : State) : State → Prop := fun t => ∃ o, t.status = .running ∧ Ended t below o ∧ lw_Q a s o t
/-- the law's own end, with 1 on the stack, nothing written that was there before, its room as the claim has it -/
theorem lw_ret {p : Program} {l : Launch} {e : Env} {s : State} {m : MethodId} {below : List Frame} {meth : Method} {c : Code} {b : Nat} (hx : p.tables.exec = Jvm.exec) (hb : c.code = code) (hr : meth.sig.returnType = ret) (hlocks : meth.locks = false) {pc : Nat} {H : Heap} {ls : Array Slot} (hdg : decode code pc = .ok (.ireturn, 1)) : W p l e room_1 s m #[Value.ref b] below meth c H [] 600104 7301314 (lw_Z below #[Value.ref b] s) (F0 m pc ls [.int 1]) := by
  intro T hT X
  obtain ⟨fs, hret, hrun, hended, hW, hframe⟩ := X.leave (v := some (.int 1)) (hlocks := hlocks) (fun h => by rw [hr] at h; cases h)
  have hmeth' : T.vm.method? m = some meth := X.method'
  refine ⟨T.setFrames fs, ?_, .returned (some (.int 1)), hrun, hended, rfl, ⟨_, rfl⟩, hW, hframe⟩
  jvm_step X.here [X.here.top, hx, hb, hdg, hmeth', hr, ret, narrow_b1]
  (try refine ⟨rfl, ?_⟩); (try refine ⟨rfl, ?_⟩)
  first | (intro acts; rw [hret _ acts rfl rfl rfl]) | rw [hret _ _ rfl rfl rfl]
  exact Steps.refl _
/-- what holds at the law's entry: the machine, the code, the tables' words (any of lw_tbl by 'hts w (by decide +kernel)'), the script of L ints xs at the cell b, what the Statement gives of the start (any of its parts by flat_of_before) -/
def lw_At (p : Program) (s : State) (m : MethodId) (meth : Method) (c : Code) (b L : Nat) (xs : Nat → Int32) : Prop :=
  p.tables.exec = Jvm.exec ∧ c.code = code ∧ meth.sig.returnType = ret ∧ c.maxLocals = 40 ∧ s.vm.findClass R_law = some m.cls ∧ (∀ w ∈ lw_tbl, w.before #[Value.ref b] s = true) ∧ va_X b L xs s s.heap ∧ b < s.heap.size ∧ meth.locks = false ∧ (Jvm.Cond.and given_1 narrow_1).before #[Value.ref b] s = true
theorem G.lawret {p : Program} {l : Launch} {e : Env} {s : State} {m : MethodId} {below : List Frame} {meth : Method} {c : Code} {b cells slots : Nat} {D : va_G} {cy : Nat → ClassId} {ws : Wd × Wd → va_W} {ad : List Nat} {pc : Nat} {lv : List (Nat × Value)} {σ : Wd × Wd} (E : EV p s m #[Value.ref b] meth c cL_law 40 RL wsL_law ret D cy ws ad) (hge : ∀ q ∈ ad, s.heap.size ≤ q) (hdg : decode cL_law pc = .ok (.ireturn, 1)) (h1 : cells ≤ 600104) (h2 : slots ≤ 7301314) : G p l e room_1 s m #[Value.ref b] below meth c 40 cells slots D ws ad (fun _ : Unit => lw_Z below #[Value.ref b] s) pc lv [.int 1] σ (some ()) := by
  intro r hr H locs ls h hP hS
  refine va_forget (fun q hq => (hS.2.2 q hq).elim (hge _) id) ?_
  refine W.widen h1 h2 ?_
  exact lw_ret E.1 E.2.1 E.2.2.2.2.2.1 E.2.2.2.2.2.2.1 hdg
