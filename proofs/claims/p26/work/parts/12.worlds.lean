/-! the two worlds: the objects and rows of the class, and the rows of the law, at addresses h 0, h 1 .. -/
def wsC (cy : Nat → ClassId) (h : Nat → Nat) (σ : Wd) : va_W := [(h 0, .inr (7, [.ref (h 1), .ref (h 5), .ref (h 16), .ref (h 26), .ref (h 28), .ref (h 40), .ref (h 57)])),
  (h 1, .inr (4, [.int (σ.1 1 0), .int (σ.1 1 1), .int (σ.1 1 2), .int (σ.1 1 3), .int (σ.1 1 4), .ref (h 2), .ref (h 3), .ref (h 4)])),
  (h 2, .inl (cy 0, 20, .inl (σ.1 2))),
  (h 3, .inl (cy 0, 20, .inl (σ.1 3))),
  (h 4, .inl (cy 0, 20, .inl (σ.1 4))),
  (h 5, .inr (0, [.ref (h 1), .ref (h 6), .ref (h 7), .int (σ.1 5 3), .int (σ.1 5 4), .int (σ.1 5 5), .int (σ.1 5 6), .int (σ.1 5 7), .int (σ.1 5 8)])),
  (h 6, .inl (cy 0, 20, .inl (σ.1 6))),
  (h 7, .inl (cy 2, 8, .inr (.inr (.inr (.inr (fun j => if j < 8 then some (h (8 + j)) else none)))))),
  (h 8, .inl (cy 0, 7, .inl (σ.1 8))),
  (h 9, .inl (cy 0, 7, .inl (σ.1 9))),
  (h 10, .inl (cy 0, 7, .inl (σ.1 10))),
  (h 11, .inl (cy 0, 7, .inl (σ.1 11))),
  (h 12, .inl (cy 0, 7, .inl (σ.1 12))),
  (h 13, .inl (cy 0, 7, .inl (σ.1 13))),
  (h 14, .inl (cy 0, 7, .inl (σ.1 14))),
  (h 15, .inl (cy 0, 7, .inl (σ.1 15))),
  (h 16, .inr (2, [.ref (h 1), .ref (h 17), .ref (h 18)])),
  (h 17, .inl (cy 0, 7, .inl (σ.1 17))),
  (h 18, .inl (cy 3, 7, .inr (.inr (.inr (.inr (fun j => if j < 7 then some (h (19 + j)) else none)))))),
  (h 19, .inl (cy 1, 7, .inr (.inl (σ.2 19)))),
  (h 20, .inl (cy 1, 7, .inr (.inl (σ.2 20)))),
  (h 21, .inl (cy 1, 7, .inr (.inl (σ.2 21)))),
  (h 22, .inl (cy 1, 7, .inr (.inl (σ.2 22)))),
  (h 23, .inl (cy 1, 7, .inr (.inl (σ.2 23)))),
  (h 24, .inl (cy 1, 7, .inr (.inl (σ.2 24)))),
  (h 25, .inl (cy 1, 7, .inr (.inl (σ.2 25)))),
  (h 26, .inr (6, [.ref (h 1), .ref (h 27)])),
  (h 27, .inl (cy 0, 9, .inl (σ.1 27))),
  (h 28, .inr (3, [.ref (h 1), .ref (h 29), .ref (h 33), .ref (h 34), .ref (h 35), .ref (h 36), .ref (h 37), .ref (h 38), .ref (h 39), .int (σ.1 28 9)])),
  (h 29, .inr (5, [.int (σ.1 29 0), .int (σ.1 29 1), .int (σ.1 29 2), .int (σ.1 29 3), .int (σ.1 29 4), .int (σ.1 29 5), .int (σ.1 29 6), .ref (h 30), .ref (h 31), .ref (h 32)])),
  (h 30, .inl (cy 0, 3, .inl (σ.1 30))),
  (h 31, .inl (cy 0, 3, .inl (σ.1 31))),
  (h 32, .inl (cy 0, 3, .inl (σ.1 32))),
  (h 33, .inl (cy 0, 3, .inl (σ.1 33))),
  (h 34, .inl (cy 0, 20, .inl (σ.1 34))),
  (h 35, .inl (cy 0, 20, .inl (σ.1 35))),
  (h 36, .inl (cy 0, 20, .inl (σ.1 36))),
  (h 37, .inl (cy 0, 20, .inl (σ.1 37))),
  (h 38, .inl (cy 0, 20, .inl (σ.1 38))),
  (h 39, .inl (cy 0, 20, .inl (σ.1 39))),
  (h 40, .inr (1, [.int (σ.1 40 0), .ref (h 41), .ref (h 49)])),
  (h 41, .inl (cy 3, 7, .inr (.inr (.inr (.inr (fun j => if j < 7 then some (h (42 + j)) else none)))))),
  (h 42, .inl (cy 1, 7, .inr (.inl (σ.2 42)))),
  (h 43, .inl (cy 1, 7, .inr (.inl (σ.2 43)))),
  (h 44, .inl (cy 1, 7, .inr (.inl (σ.2 44)))),
  (h 45, .inl (cy 1, 7, .inr (.inl (σ.2 45)))),
  (h 46, .inl (cy 1, 7, .inr (.inl (σ.2 46)))),
  (h 47, .inl (cy 1, 7, .inr (.inl (σ.2 47)))),
  (h 48, .inl (cy 1, 7, .inr (.inl (σ.2 48)))),
  (h 49, .inl (cy 3, 7, .inr (.inr (.inr (.inr (fun j => if j < 7 then some (h (50 + j)) else none)))))),
  (h 50, .inl (cy 1, 7, .inr (.inl (σ.2 50)))),
  (h 51, .inl (cy 1, 7, .inr (.inl (σ.2 51)))),
  (h 52, .inl (cy 1, 7, .inr (.inl (σ.2 52)))),
  (h 53, .inl (cy 1, 7, .inr (.inl (σ.2 53)))),
  (h 54, .inl (cy 1, 7, .inr (.inl (σ.2 54)))),
  (h 55, .inl (cy 1, 7, .inr (.inl (σ.2 55)))),
  (h 56, .inl (cy 1, 7, .inr (.inl (σ.2 56)))),
  (h 57, .inl (cy 0, 7, .inl (σ.1 57)))]
def adC (h : Nat → Nat) : List Nat := [h 0, h 1, h 2, h 3, h 4, h 5, h 6, h 7, h 8, h 9, h 10, h 11, h 12, h 13, h 14, h 15, h 16, h 17, h 18, h 19, h 20, h 21, h 22, h 23, h 24, h 25, h 26, h 27, h 28, h 29, h 30, h 31, h 32, h 33, h 34, h 35, h 36, h 37, h 38, h 39, h 40, h 41, h 42, h 43, h 44, h 45, h 46, h 47, h 48, h 49, h 50, h 51, h 52, h 53, h 54, h 55, h 56, h 57]
theorem wfC {h : Nat → Nat} (hn : (adC h).Nodup) (cy : Nat → ClassId) : WF (wsC cy h) (adC h) := ⟨hn, fun _ => rfl⟩
theorem wsC_at0 (cy : Nat → ClassId) (h : Nat → Nat) (σ : Wd) : (wsC cy h σ)[0]? = some (h 0, .inr (7, [.ref (h 1), .ref (h 5), .ref (h 16), .ref (h 26), .ref (h 28), .ref (h 40), .ref (h 57)])) := rfl
theorem wsC_at1 (cy : Nat → ClassId) (h : Nat → Nat) (σ : Wd) : (wsC cy h σ)[1]? = some (h 1, .inr (4, [.int (σ.1 1 0), .int (σ.1 1 1), .int (σ.1 1 2), .int (σ.1 1 3), .int (σ.1 1 4), .ref (h 2), .ref (h 3), .ref (h 4)])) := rfl
theorem wsC_set1_0 (cy : Nat → ClassId) (h : Nat → Nat) (σ : Wd) (v : Int32) : (wsC cy h σ).set 1 (h 1, .inr (4, List.set [.int (σ.1 1 0), .int (σ.1 1 1), .int (σ.1 1 2), .int (σ.1 1 3), .int (σ.1 1 4), .ref (h 2), .ref (h 3), .ref (h 4)] 0 (.int v))) = wsC cy h (sI σ 1 0 v) := rfl
theorem wsC_set1_1 (cy : Nat → ClassId) (h : Nat → Nat) (σ : Wd) (v : Int32) : (wsC cy h σ).set 1 (h 1, .inr (4, List.set [.int (σ.1 1 0), .int (σ.1 1 1), .int (σ.1 1 2), .int (σ.1 1 3), .int (σ.1 1 4), .ref (h 2), .ref (h 3), .ref (h 4)] 1 (.int v))) = wsC cy h (sI σ 1 1 v) := rfl
theorem wsC_set1_2 (cy : Nat → ClassId) (h : Nat → Nat) (σ : Wd) (v : Int32) : (wsC cy h σ).set 1 (h 1, .inr (4, List.set [.int (σ.1 1 0), .int (σ.1 1 1), .int (σ.1 1 2), .int (σ.1 1 3), .int (σ.1 1 4), .ref (h 2), .ref (h 3), .ref (h 4)] 2 (.int v))) = wsC cy h (sI σ 1 2 v) := rfl
theorem wsC_set1_3 (cy : Nat → ClassId) (h : Nat → Nat) (σ : Wd) (v : Int32) : (wsC cy h σ).set 1 (h 1, .inr (4, List.set [.int (σ.1 1 0), .int (σ.1 1 1), .int (σ.1 1 2), .int (σ.1 1 3), .int (σ.1 1 4), .ref (h 2), .ref (h 3), .ref (h 4)] 3 (.int v))) = wsC cy h (sI σ 1 3 v) := rfl
theorem wsC_set1_4 (cy : Nat → ClassId) (h : Nat → Nat) (σ : Wd) (v : Int32) : (wsC cy h σ).set 1 (h 1, .inr (4, List.set [.int (σ.1 1 0), .int (σ.1 1 1), .int (σ.1 1 2), .int (σ.1 1 3), .int (σ.1 1 4), .ref (h 2), .ref (h 3), .ref (h 4)] 4 (.int v))) = wsC cy h (sI σ 1 4 v) := rfl
theorem wsC_at2 (cy : Nat → ClassId) (h : Nat → Nat) (σ : Wd) : (wsC cy h σ)[2]? = some (h 2, .inl (cy 0, 20, .inl (σ.1 2))) := rfl
theorem wsC_set2 (cy : Nat → ClassId) (h : Nat → Nat) (σ : Wd) (v : Int32) (j : Nat) : (wsC cy h σ).set 2 (h 2, .inl (cy 0, 20, .inl (upd (σ.1 2) j v))) = wsC cy h (sI σ 2 j v) := rfl
theorem wsC_at3 (cy : Nat → ClassId) (h : Nat → Nat) (σ : Wd) : (wsC cy h σ)[3]? = some (h 3, .inl (cy 0, 20, .inl (σ.1 3))) := rfl
theorem wsC_set3 (cy : Nat → ClassId) (h : Nat → Nat) (σ : Wd) (v : Int32) (j : Nat) : (wsC cy h σ).set 3 (h 3, .inl (cy 0, 20, .inl (upd (σ.1 3) j v))) = wsC cy h (sI σ 3 j v) := rfl
theorem wsC_at4 (cy : Nat → ClassId) (h : Nat → Nat) (σ : Wd) : (wsC cy h σ)[4]? = some (h 4, .inl (cy 0, 20, .inl (σ.1 4))) := rfl
theorem wsC_set4 (cy : Nat → ClassId) (h : Nat → Nat) (σ : Wd) (v : Int32) (j : Nat) : (wsC cy h σ).set 4 (h 4, .inl (cy 0, 20, .inl (upd (σ.1 4) j v))) = wsC cy h (sI σ 4 j v) := rfl
theorem wsC_at5 (cy : Nat → ClassId) (h : Nat → Nat) (σ : Wd) : (wsC cy h σ)[5]? = some (h 5, .inr (0, [.ref (h 1), .ref (h 6), .ref (h 7), .int (σ.1 5 3), .int (σ.1 5 4), .int (σ.1 5 5), .int (σ.1 5 6), .int (σ.1 5 7), .int (σ.1 5 8)])) := rfl
theorem wsC_set5_3 (cy : Nat → ClassId) (h : Nat → Nat) (σ : Wd) (v : Int32) : (wsC cy h σ).set 5 (h 5, .inr (0, List.set [.ref (h 1), .ref (h 6), .ref (h 7), .int (σ.1 5 3), .int (σ.1 5 4), .int (σ.1 5 5), .int (σ.1 5 6), .int (σ.1 5 7), .int (σ.1 5 8)] 3 (.int v))) = wsC cy h (sI σ 5 3 v) := rfl
theorem wsC_set5_4 (cy : Nat → ClassId) (h : Nat → Nat) (σ : Wd) (v : Int32) : (wsC cy h σ).set 5 (h 5, .inr (0, List.set [.ref (h 1), .ref (h 6), .ref (h 7), .int (σ.1 5 3), .int (σ.1 5 4), .int (σ.1 5 5), .int (σ.1 5 6), .int (σ.1 5 7), .int (σ.1 5 8)] 4 (.int v))) = wsC cy h (sI σ 5 4 v) := rfl
theorem wsC_set5_5 (cy : Nat → ClassId) (h : Nat → Nat) (σ : Wd) (v : Int32) : (wsC cy h σ).set 5 (h 5, .inr (0, List.set [.ref (h 1), .ref (h 6), .ref (h 7), .int (σ.1 5 3), .int (σ.1 5 4), .int (σ.1 5 5), .int (σ.1 5 6), .int (σ.1 5 7), .int (σ.1 5 8)] 5 (.int v))) = wsC cy h (sI σ 5 5 v) := rfl
theorem wsC_set5_6 (cy : Nat → ClassId) (h : Nat → Nat) (σ : Wd) (v : Int32) : (wsC cy h σ).set 5 (h 5, .inr (0, List.set [.ref (h 1), .ref (h 6), .ref (h 7), .int (σ.1 5 3), .int (σ.1 5 4), .int (σ.1 5 5), .int (σ.1 5 6), .int (σ.1 5 7), .int (σ.1 5 8)] 6 (.int v))) = wsC cy h (sI σ 5 6 v) := rfl
theorem wsC_set5_7 (cy : Nat → ClassId) (h : Nat → Nat) (σ : Wd) (v : Int32) : (wsC cy h σ).set 5 (h 5, .inr (0, List.set [.ref (h 1), .ref (h 6), .ref (h 7), .int (σ.1 5 3), .int (σ.1 5 4), .int (σ.1 5 5), .int (σ.1 5 6), .int (σ.1 5 7), .int (σ.1 5 8)] 7 (.int v))) = wsC cy h (sI σ 5 7 v) := rfl
theorem wsC_set5_8 (cy : Nat → ClassId) (h : Nat → Nat) (σ : Wd) (v : Int32) : (wsC cy h σ).set 5 (h 5, .inr (0, List.set [.ref (h 1), .ref (h 6), .ref (h 7), .int (σ.1 5 3), .int (σ.1 5 4), .int (σ.1 5 5), .int (σ.1 5 6), .int (σ.1 5 7), .int (σ.1 5 8)] 8 (.int v))) = wsC cy h (sI σ 5 8 v) := rfl
theorem wsC_at6 (cy : Nat → ClassId) (h : Nat → Nat) (σ : Wd) : (wsC cy h σ)[6]? = some (h 6, .inl (cy 0, 20, .inl (σ.1 6))) := rfl
theorem wsC_set6 (cy : Nat → ClassId) (h : Nat → Nat) (σ : Wd) (v : Int32) (j : Nat) : (wsC cy h σ).set 6 (h 6, .inl (cy 0, 20, .inl (upd (σ.1 6) j v))) = wsC cy h (sI σ 6 j v) := rfl
theorem wsC_at7 (cy : Nat → ClassId) (h : Nat → Nat) (σ : Wd) : (wsC cy h σ)[7]? = some (h 7, .inl (cy 2, 8, .inr (.inr (.inr (.inr (fun j => if j < 8 then some (h (8 + j)) else none)))))) := rfl
theorem wsC_at8 (cy : Nat → ClassId) (h : Nat → Nat) (σ : Wd) : (wsC cy h σ)[8]? = some (h 8, .inl (cy 0, 7, .inl (σ.1 8))) := rfl
theorem wsC_at9 (cy : Nat → ClassId) (h : Nat → Nat) (σ : Wd) : (wsC cy h σ)[9]? = some (h 9, .inl (cy 0, 7, .inl (σ.1 9))) := rfl
theorem wsC_at10 (cy : Nat → ClassId) (h : Nat → Nat) (σ : Wd) : (wsC cy h σ)[10]? = some (h 10, .inl (cy 0, 7, .inl (σ.1 10))) := rfl
theorem wsC_at11 (cy : Nat → ClassId) (h : Nat → Nat) (σ : Wd) : (wsC cy h σ)[11]? = some (h 11, .inl (cy 0, 7, .inl (σ.1 11))) := rfl
theorem wsC_at12 (cy : Nat → ClassId) (h : Nat → Nat) (σ : Wd) : (wsC cy h σ)[12]? = some (h 12, .inl (cy 0, 7, .inl (σ.1 12))) := rfl
theorem wsC_at13 (cy : Nat → ClassId) (h : Nat → Nat) (σ : Wd) : (wsC cy h σ)[13]? = some (h 13, .inl (cy 0, 7, .inl (σ.1 13))) := rfl
theorem wsC_at14 (cy : Nat → ClassId) (h : Nat → Nat) (σ : Wd) : (wsC cy h σ)[14]? = some (h 14, .inl (cy 0, 7, .inl (σ.1 14))) := rfl
theorem wsC_at15 (cy : Nat → ClassId) (h : Nat → Nat) (σ : Wd) : (wsC cy h σ)[15]? = some (h 15, .inl (cy 0, 7, .inl (σ.1 15))) := rfl
theorem wsC_at16 (cy : Nat → ClassId) (h : Nat → Nat) (σ : Wd) : (wsC cy h σ)[16]? = some (h 16, .inr (2, [.ref (h 1), .ref (h 17), .ref (h 18)])) := rfl
theorem wsC_at17 (cy : Nat → ClassId) (h : Nat → Nat) (σ : Wd) : (wsC cy h σ)[17]? = some (h 17, .inl (cy 0, 7, .inl (σ.1 17))) := rfl
theorem wsC_set17 (cy : Nat → ClassId) (h : Nat → Nat) (σ : Wd) (v : Int32) (j : Nat) : (wsC cy h σ).set 17 (h 17, .inl (cy 0, 7, .inl (upd (σ.1 17) j v))) = wsC cy h (sI σ 17 j v) := rfl
theorem wsC_at18 (cy : Nat → ClassId) (h : Nat → Nat) (σ : Wd) : (wsC cy h σ)[18]? = some (h 18, .inl (cy 3, 7, .inr (.inr (.inr (.inr (fun j => if j < 7 then some (h (19 + j)) else none)))))) := rfl
theorem wsC_at19 (cy : Nat → ClassId) (h : Nat → Nat) (σ : Wd) : (wsC cy h σ)[19]? = some (h 19, .inl (cy 1, 7, .inr (.inl (σ.2 19)))) := rfl
theorem wsC_at20 (cy : Nat → ClassId) (h : Nat → Nat) (σ : Wd) : (wsC cy h σ)[20]? = some (h 20, .inl (cy 1, 7, .inr (.inl (σ.2 20)))) := rfl
theorem wsC_at21 (cy : Nat → ClassId) (h : Nat → Nat) (σ : Wd) : (wsC cy h σ)[21]? = some (h 21, .inl (cy 1, 7, .inr (.inl (σ.2 21)))) := rfl
theorem wsC_at22 (cy : Nat → ClassId) (h : Nat → Nat) (σ : Wd) : (wsC cy h σ)[22]? = some (h 22, .inl (cy 1, 7, .inr (.inl (σ.2 22)))) := rfl
theorem wsC_at23 (cy : Nat → ClassId) (h : Nat → Nat) (σ : Wd) : (wsC cy h σ)[23]? = some (h 23, .inl (cy 1, 7, .inr (.inl (σ.2 23)))) := rfl
theorem wsC_at24 (cy : Nat → ClassId) (h : Nat → Nat) (σ : Wd) : (wsC cy h σ)[24]? = some (h 24, .inl (cy 1, 7, .inr (.inl (σ.2 24)))) := rfl
theorem wsC_at25 (cy : Nat → ClassId) (h : Nat → Nat) (σ : Wd) : (wsC cy h σ)[25]? = some (h 25, .inl (cy 1, 7, .inr (.inl (σ.2 25)))) := rfl
theorem wsC_at26 (cy : Nat → ClassId) (h : Nat → Nat) (σ : Wd) : (wsC cy h σ)[26]? = some (h 26, .inr (6, [.ref (h 1), .ref (h 27)])) := rfl
theorem wsC_at27 (cy : Nat → ClassId) (h : Nat → Nat) (σ : Wd) : (wsC cy h σ)[27]? = some (h 27, .inl (cy 0, 9, .inl (σ.1 27))) := rfl
theorem wsC_set27 (cy : Nat → ClassId) (h : Nat → Nat) (σ : Wd) (v : Int32) (j : Nat) : (wsC cy h σ).set 27 (h 27, .inl (cy 0, 9, .inl (upd (σ.1 27) j v))) = wsC cy h (sI σ 27 j v) := rfl
theorem wsC_at28 (cy : Nat → ClassId) (h : Nat → Nat) (σ : Wd) : (wsC cy h σ)[28]? = some (h 28, .inr (3, [.ref (h 1), .ref (h 29), .ref (h 33), .ref (h 34), .ref (h 35), .ref (h 36), .ref (h 37), .ref (h 38), .ref (h 39), .int (σ.1 28 9)])) := rfl
theorem wsC_set28_9 (cy : Nat → ClassId) (h : Nat → Nat) (σ : Wd) (v : Int32) : (wsC cy h σ).set 28 (h 28, .inr (3, List.set [.ref (h 1), .ref (h 29), .ref (h 33), .ref (h 34), .ref (h 35), .ref (h 36), .ref (h 37), .ref (h 38), .ref (h 39), .int (σ.1 28 9)] 9 (.int v))) = wsC cy h (sI σ 28 9 v) := rfl
theorem wsC_at29 (cy : Nat → ClassId) (h : Nat → Nat) (σ : Wd) : (wsC cy h σ)[29]? = some (h 29, .inr (5, [.int (σ.1 29 0), .int (σ.1 29 1), .int (σ.1 29 2), .int (σ.1 29 3), .int (σ.1 29 4), .int (σ.1 29 5), .int (σ.1 29 6), .ref (h 30), .ref (h 31), .ref (h 32)])) := rfl
theorem wsC_set29_0 (cy : Nat → ClassId) (h : Nat → Nat) (σ : Wd) (v : Int32) : (wsC cy h σ).set 29 (h 29, .inr (5, List.set [.int (σ.1 29 0), .int (σ.1 29 1), .int (σ.1 29 2), .int (σ.1 29 3), .int (σ.1 29 4), .int (σ.1 29 5), .int (σ.1 29 6), .ref (h 30), .ref (h 31), .ref (h 32)] 0 (.int v))) = wsC cy h (sI σ 29 0 v) := rfl
theorem wsC_set29_1 (cy : Nat → ClassId) (h : Nat → Nat) (σ : Wd) (v : Int32) : (wsC cy h σ).set 29 (h 29, .inr (5, List.set [.int (σ.1 29 0), .int (σ.1 29 1), .int (σ.1 29 2), .int (σ.1 29 3), .int (σ.1 29 4), .int (σ.1 29 5), .int (σ.1 29 6), .ref (h 30), .ref (h 31), .ref (h 32)] 1 (.int v))) = wsC cy h (sI σ 29 1 v) := rfl
theorem wsC_set29_2 (cy : Nat → ClassId) (h : Nat → Nat) (σ : Wd) (v : Int32) : (wsC cy h σ).set 29 (h 29, .inr (5, List.set [.int (σ.1 29 0), .int (σ.1 29 1), .int (σ.1 29 2), .int (σ.1 29 3), .int (σ.1 29 4), .int (σ.1 29 5), .int (σ.1 29 6), .ref (h 30), .ref (h 31), .ref (h 32)] 2 (.int v))) = wsC cy h (sI σ 29 2 v) := rfl
theorem wsC_set29_3 (cy : Nat → ClassId) (h : Nat → Nat) (σ : Wd) (v : Int32) : (wsC cy h σ).set 29 (h 29, .inr (5, List.set [.int (σ.1 29 0), .int (σ.1 29 1), .int (σ.1 29 2), .int (σ.1 29 3), .int (σ.1 29 4), .int (σ.1 29 5), .int (σ.1 29 6), .ref (h 30), .ref (h 31), .ref (h 32)] 3 (.int v))) = wsC cy h (sI σ 29 3 v) := rfl
theorem wsC_set29_4 (cy : Nat → ClassId) (h : Nat → Nat) (σ : Wd) (v : Int32) : (wsC cy h σ).set 29 (h 29, .inr (5, List.set [.int (σ.1 29 0), .int (σ.1 29 1), .int (σ.1 29 2), .int (σ.1 29 3), .int (σ.1 29 4), .int (σ.1 29 5), .int (σ.1 29 6), .ref (h 30), .ref (h 31), .ref (h 32)] 4 (.int v))) = wsC cy h (sI σ 29 4 v) := rfl
theorem wsC_set29_5 (cy : Nat → ClassId) (h : Nat → Nat) (σ : Wd) (v : Int32) : (wsC cy h σ).set 29 (h 29, .inr (5, List.set [.int (σ.1 29 0), .int (σ.1 29 1), .int (σ.1 29 2), .int (σ.1 29 3), .int (σ.1 29 4), .int (σ.1 29 5), .int (σ.1 29 6), .ref (h 30), .ref (h 31), .ref (h 32)] 5 (.int v))) = wsC cy h (sI σ 29 5 v) := rfl
theorem wsC_set29_6 (cy : Nat → ClassId) (h : Nat → Nat) (σ : Wd) (v : Int32) : (wsC cy h σ).set 29 (h 29, .inr (5, List.set [.int (σ.1 29 0), .int (σ.1 29 1), .int (σ.1 29 2), .int (σ.1 29 3), .int (σ.1 29 4), .int (σ.1 29 5), .int (σ.1 29 6), .ref (h 30), .ref (h 31), .ref (h 32)] 6 (.int v))) = wsC cy h (sI σ 29 6 v) := rfl
theorem wsC_at30 (cy : Nat → ClassId) (h : Nat → Nat) (σ : Wd) : (wsC cy h σ)[30]? = some (h 30, .inl (cy 0, 3, .inl (σ.1 30))) := rfl
theorem wsC_set30 (cy : Nat → ClassId) (h : Nat → Nat) (σ : Wd) (v : Int32) (j : Nat) : (wsC cy h σ).set 30 (h 30, .inl (cy 0, 3, .inl (upd (σ.1 30) j v))) = wsC cy h (sI σ 30 j v) := rfl
theorem wsC_at31 (cy : Nat → ClassId) (h : Nat → Nat) (σ : Wd) : (wsC cy h σ)[31]? = some (h 31, .inl (cy 0, 3, .inl (σ.1 31))) := rfl
theorem wsC_set31 (cy : Nat → ClassId) (h : Nat → Nat) (σ : Wd) (v : Int32) (j : Nat) : (wsC cy h σ).set 31 (h 31, .inl (cy 0, 3, .inl (upd (σ.1 31) j v))) = wsC cy h (sI σ 31 j v) := rfl
theorem wsC_at32 (cy : Nat → ClassId) (h : Nat → Nat) (σ : Wd) : (wsC cy h σ)[32]? = some (h 32, .inl (cy 0, 3, .inl (σ.1 32))) := rfl
theorem wsC_set32 (cy : Nat → ClassId) (h : Nat → Nat) (σ : Wd) (v : Int32) (j : Nat) : (wsC cy h σ).set 32 (h 32, .inl (cy 0, 3, .inl (upd (σ.1 32) j v))) = wsC cy h (sI σ 32 j v) := rfl
theorem wsC_at33 (cy : Nat → ClassId) (h : Nat → Nat) (σ : Wd) : (wsC cy h σ)[33]? = some (h 33, .inl (cy 0, 3, .inl (σ.1 33))) := rfl
theorem wsC_set33 (cy : Nat → ClassId) (h : Nat → Nat) (σ : Wd) (v : Int32) (j : Nat) : (wsC cy h σ).set 33 (h 33, .inl (cy 0, 3, .inl (upd (σ.1 33) j v))) = wsC cy h (sI σ 33 j v) := rfl
theorem wsC_at34 (cy : Nat → ClassId) (h : Nat → Nat) (σ : Wd) : (wsC cy h σ)[34]? = some (h 34, .inl (cy 0, 20, .inl (σ.1 34))) := rfl
theorem wsC_set34 (cy : Nat → ClassId) (h : Nat → Nat) (σ : Wd) (v : Int32) (j : Nat) : (wsC cy h σ).set 34 (h 34, .inl (cy 0, 20, .inl (upd (σ.1 34) j v))) = wsC cy h (sI σ 34 j v) := rfl
theorem wsC_at35 (cy : Nat → ClassId) (h : Nat → Nat) (σ : Wd) : (wsC cy h σ)[35]? = some (h 35, .inl (cy 0, 20, .inl (σ.1 35))) := rfl
theorem wsC_set35 (cy : Nat → ClassId) (h : Nat → Nat) (σ : Wd) (v : Int32) (j : Nat) : (wsC cy h σ).set 35 (h 35, .inl (cy 0, 20, .inl (upd (σ.1 35) j v))) = wsC cy h (sI σ 35 j v) := rfl
theorem wsC_at36 (cy : Nat → ClassId) (h : Nat → Nat) (σ : Wd) : (wsC cy h σ)[36]? = some (h 36, .inl (cy 0, 20, .inl (σ.1 36))) := rfl
theorem wsC_set36 (cy : Nat → ClassId) (h : Nat → Nat) (σ : Wd) (v : Int32) (j : Nat) : (wsC cy h σ).set 36 (h 36, .inl (cy 0, 20, .inl (upd (σ.1 36) j v))) = wsC cy h (sI σ 36 j v) := rfl
theorem wsC_at37 (cy : Nat → ClassId) (h : Nat → Nat) (σ : Wd) : (wsC cy h σ)[37]? = some (h 37, .inl (cy 0, 20, .inl (σ.1 37))) := rfl
theorem wsC_set37 (cy : Nat → ClassId) (h : Nat → Nat) (σ : Wd) (v : Int32) (j : Nat) : (wsC cy h σ).set 37 (h 37, .inl (cy 0, 20, .inl (upd (σ.1 37) j v))) = wsC cy h (sI σ 37 j v) := rfl
theorem wsC_at38 (cy : Nat → ClassId) (h : Nat → Nat) (σ : Wd) : (wsC cy h σ)[38]? = some (h 38, .inl (cy 0, 20, .inl (σ.1 38))) := rfl
theorem wsC_set38 (cy : Nat → ClassId) (h : Nat → Nat) (σ : Wd) (v : Int32) (j : Nat) : (wsC cy h σ).set 38 (h 38, .inl (cy 0, 20, .inl (upd (σ.1 38) j v))) = wsC cy h (sI σ 38 j v) := rfl
theorem wsC_at39 (cy : Nat → ClassId) (h : Nat → Nat) (σ : Wd) : (wsC cy h σ)[39]? = some (h 39, .inl (cy 0, 20, .inl (σ.1 39))) := rfl
theorem wsC_set39 (cy : Nat → ClassId) (h : Nat → Nat) (σ : Wd) (v : Int32) (j : Nat) : (wsC cy h σ).set 39 (h 39, .inl (cy 0, 20, .inl (upd (σ.1 39) j v))) = wsC cy h (sI σ 39 j v) := rfl
theorem wsC_at40 (cy : Nat → ClassId) (h : Nat → Nat) (σ : Wd) : (wsC cy h σ)[40]? = some (h 40, .inr (1, [.int (σ.1 40 0), .ref (h 41), .ref (h 49)])) := rfl
theorem wsC_set40_0 (cy : Nat → ClassId) (h : Nat → Nat) (σ : Wd) (v : Int32) : (wsC cy h σ).set 40 (h 40, .inr (1, List.set [.int (σ.1 40 0), .ref (h 41), .ref (h 49)] 0 (.int v))) = wsC cy h (sI σ 40 0 v) := rfl
theorem wsC_at41 (cy : Nat → ClassId) (h : Nat → Nat) (σ : Wd) : (wsC cy h σ)[41]? = some (h 41, .inl (cy 3, 7, .inr (.inr (.inr (.inr (fun j => if j < 7 then some (h (42 + j)) else none)))))) := rfl
theorem wsC_at42 (cy : Nat → ClassId) (h : Nat → Nat) (σ : Wd) : (wsC cy h σ)[42]? = some (h 42, .inl (cy 1, 7, .inr (.inl (σ.2 42)))) := rfl
theorem wsC_at43 (cy : Nat → ClassId) (h : Nat → Nat) (σ : Wd) : (wsC cy h σ)[43]? = some (h 43, .inl (cy 1, 7, .inr (.inl (σ.2 43)))) := rfl
theorem wsC_at44 (cy : Nat → ClassId) (h : Nat → Nat) (σ : Wd) : (wsC cy h σ)[44]? = some (h 44, .inl (cy 1, 7, .inr (.inl (σ.2 44)))) := rfl
theorem wsC_at45 (cy : Nat → ClassId) (h : Nat → Nat) (σ : Wd) : (wsC cy h σ)[45]? = some (h 45, .inl (cy 1, 7, .inr (.inl (σ.2 45)))) := rfl
theorem wsC_at46 (cy : Nat → ClassId) (h : Nat → Nat) (σ : Wd) : (wsC cy h σ)[46]? = some (h 46, .inl (cy 1, 7, .inr (.inl (σ.2 46)))) := rfl
theorem wsC_at47 (cy : Nat → ClassId) (h : Nat → Nat) (σ : Wd) : (wsC cy h σ)[47]? = some (h 47, .inl (cy 1, 7, .inr (.inl (σ.2 47)))) := rfl
theorem wsC_at48 (cy : Nat → ClassId) (h : Nat → Nat) (σ : Wd) : (wsC cy h σ)[48]? = some (h 48, .inl (cy 1, 7, .inr (.inl (σ.2 48)))) := rfl
theorem wsC_at49 (cy : Nat → ClassId) (h : Nat → Nat) (σ : Wd) : (wsC cy h σ)[49]? = some (h 49, .inl (cy 3, 7, .inr (.inr (.inr (.inr (fun j => if j < 7 then some (h (50 + j)) else none)))))) := rfl
theorem wsC_at50 (cy : Nat → ClassId) (h : Nat → Nat) (σ : Wd) : (wsC cy h σ)[50]? = some (h 50, .inl (cy 1, 7, .inr (.inl (σ.2 50)))) := rfl
theorem wsC_at51 (cy : Nat → ClassId) (h : Nat → Nat) (σ : Wd) : (wsC cy h σ)[51]? = some (h 51, .inl (cy 1, 7, .inr (.inl (σ.2 51)))) := rfl
theorem wsC_at52 (cy : Nat → ClassId) (h : Nat → Nat) (σ : Wd) : (wsC cy h σ)[52]? = some (h 52, .inl (cy 1, 7, .inr (.inl (σ.2 52)))) := rfl
theorem wsC_at53 (cy : Nat → ClassId) (h : Nat → Nat) (σ : Wd) : (wsC cy h σ)[53]? = some (h 53, .inl (cy 1, 7, .inr (.inl (σ.2 53)))) := rfl
theorem wsC_at54 (cy : Nat → ClassId) (h : Nat → Nat) (σ : Wd) : (wsC cy h σ)[54]? = some (h 54, .inl (cy 1, 7, .inr (.inl (σ.2 54)))) := rfl
theorem wsC_at55 (cy : Nat → ClassId) (h : Nat → Nat) (σ : Wd) : (wsC cy h σ)[55]? = some (h 55, .inl (cy 1, 7, .inr (.inl (σ.2 55)))) := rfl
theorem wsC_at56 (cy : Nat → ClassId) (h : Nat → Nat) (σ : Wd) : (wsC cy h σ)[56]? = some (h 56, .inl (cy 1, 7, .inr (.inl (σ.2 56)))) := rfl
theorem wsC_at57 (cy : Nat → ClassId) (h : Nat → Nat) (σ : Wd) : (wsC cy h σ)[57]? = some (h 57, .inl (cy 0, 7, .inl (σ.1 57))) := rfl
theorem wsC_set57 (cy : Nat → ClassId) (h : Nat → Nat) (σ : Wd) (v : Int32) (j : Nat) : (wsC cy h σ).set 57 (h 57, .inl (cy 0, 7, .inl (upd (σ.1 57) j v))) = wsC cy h (sI σ 57 j v) := rfl
theorem wsC_row8 (cy : Nat → ClassId) (h : Nat → Nat) (σ : Wd) : ∀ z : Nat, z < 8 → (wsC cy h σ)[8 + z]? = some (h (8 + z), .inl (cy 0, 7, .inl (σ.1 (8 + z))))
  | 0, _ => rfl
  | 1, _ => rfl
  | 2, _ => rfl
  | 3, _ => rfl
  | 4, _ => rfl
  | 5, _ => rfl
  | 6, _ => rfl
  | 7, _ => rfl
  | _ + 8, hz => absurd hz (by omega)
theorem wsC_rset8 (cy : Nat → ClassId) (h : Nat → Nat) (σ : Wd) (v : Int32) (j : Nat) : ∀ z : Nat, z < 8 → (wsC cy h σ).set (8 + z) (h (8 + z), .inl (cy 0, 7, .inl (upd (σ.1 (8 + z)) j v))) = wsC cy h (sI σ (8 + z) j v)
  | 0, _ => rfl
  | 1, _ => rfl
  | 2, _ => rfl
  | 3, _ => rfl
  | 4, _ => rfl
  | 5, _ => rfl
  | 6, _ => rfl
  | 7, _ => rfl
  | _ + 8, hz => absurd hz (by omega)
theorem wsC_row19 (cy : Nat → ClassId) (h : Nat → Nat) (σ : Wd) : ∀ z : Nat, z < 7 → (wsC cy h σ)[19 + z]? = some (h (19 + z), .inl (cy 1, 7, .inr (.inl (σ.2 (19 + z)))))
  | 0, _ => rfl
  | 1, _ => rfl
  | 2, _ => rfl
  | 3, _ => rfl
  | 4, _ => rfl
  | 5, _ => rfl
  | 6, _ => rfl
  | _ + 7, hz => absurd hz (by omega)
theorem wsC_rset19 (cy : Nat → ClassId) (h : Nat → Nat) (σ : Wd) (v : Int64) (j : Nat) : ∀ z : Nat, z < 7 → (wsC cy h σ).set (19 + z) (h (19 + z), .inl (cy 1, 7, .inr (.inl (vp_updL (σ.2 (19 + z)) j v)))) = wsC cy h (sL σ (19 + z) j v)
  | 0, _ => rfl
  | 1, _ => rfl
  | 2, _ => rfl
  | 3, _ => rfl
  | 4, _ => rfl
  | 5, _ => rfl
  | 6, _ => rfl
  | _ + 7, hz => absurd hz (by omega)
theorem wsC_row42 (cy : Nat → ClassId) (h : Nat → Nat) (σ : Wd) : ∀ z : Nat, z < 7 → (wsC cy h σ)[42 + z]? = some (h (42 + z), .inl (cy 1, 7, .inr (.inl (σ.2 (42 + z)))))
  | 0, _ => rfl
  | 1, _ => rfl
  | 2, _ => rfl
  | 3, _ => rfl
  | 4, _ => rfl
  | 5, _ => rfl
  | 6, _ => rfl
  | _ + 7, hz => absurd hz (by omega)
theorem wsC_rset42 (cy : Nat → ClassId) (h : Nat → Nat) (σ : Wd) (v : Int64) (j : Nat) : ∀ z : Nat, z < 7 → (wsC cy h σ).set (42 + z) (h (42 + z), .inl (cy 1, 7, .inr (.inl (vp_updL (σ.2 (42 + z)) j v)))) = wsC cy h (sL σ (42 + z) j v)
  | 0, _ => rfl
  | 1, _ => rfl
  | 2, _ => rfl
  | 3, _ => rfl
  | 4, _ => rfl
  | 5, _ => rfl
  | 6, _ => rfl
  | _ + 7, hz => absurd hz (by omega)
theorem wsC_row50 (cy : Nat → ClassId) (h : Nat → Nat) (σ : Wd) : ∀ z : Nat, z < 7 → (wsC cy h σ)[50 + z]? = some (h (50 + z), .inl (cy 1, 7, .inr (.inl (σ.2 (50 + z)))))
  | 0, _ => rfl
  | 1, _ => rfl
  | 2, _ => rfl
  | 3, _ => rfl
  | 4, _ => rfl
  | 5, _ => rfl
  | 6, _ => rfl
  | _ + 7, hz => absurd hz (by omega)
theorem wsC_rset50 (cy : Nat → ClassId) (h : Nat → Nat) (σ : Wd) (v : Int64) (j : Nat) : ∀ z : Nat, z < 7 → (wsC cy h σ).set (50 + z) (h (50 + z), .inl (cy 1, 7, .inr (.inl (vp_updL (σ.2 (50 + z)) j v)))) = wsC cy h (sL σ (50 + z) j v)
  | 0, _ => rfl
  | 1, _ => rfl
  | 2, _ => rfl
  | 3, _ => rfl
  | 4, _ => rfl
  | 5, _ => rfl
  | 6, _ => rfl
  | _ + 7, hz => absurd hz (by omega)
def wsN (cy : Nat → ClassId) (h : Nat → Nat) (σ : Wd) : va_W := [(h 0, .inl (cy 0, 6, .inl (σ.1 0))),
  (h 1, .inl (cy 0, 20, .inl (σ.1 1))),
  (h 2, .inl (cy 0, 20, .inl (σ.1 2))),
  (h 3, .inl (cy 0, 20, .inl (σ.1 3))),
  (h 4, .inl (cy 0, 6, .inl (σ.1 4))),
  (h 5, .inl (cy 0, 20, .inl (σ.1 5))),
  (h 6, .inl (cy 0, 20, .inl (σ.1 6))),
  (h 7, .inl (cy 0, 20, .inl (σ.1 7))),
  (h 8, .inl (cy 0, 40, .inl (σ.1 8))),
  (h 9, .inl (cy 0, 7, .inl (σ.1 9))),
  (h 10, .inl (cy 1, 49, .inr (.inl (σ.2 10)))),
  (h 11, .inl (cy 1, 49, .inr (.inl (σ.2 11))))]
def adN (h : Nat → Nat) : List Nat := [h 0, h 1, h 2, h 3, h 4, h 5, h 6, h 7, h 8, h 9, h 10, h 11]
theorem wfN {h : Nat → Nat} (hn : (adN h).Nodup) (cy : Nat → ClassId) : WF (wsN cy h) (adN h) := ⟨hn, fun _ => rfl⟩
theorem wsN_at0 (cy : Nat → ClassId) (h : Nat → Nat) (σ : Wd) : (wsN cy h σ)[0]? = some (h 0, .inl (cy 0, 6, .inl (σ.1 0))) := rfl
theorem wsN_set0 (cy : Nat → ClassId) (h : Nat → Nat) (σ : Wd) (v : Int32) (j : Nat) : (wsN cy h σ).set 0 (h 0, .inl (cy 0, 6, .inl (upd (σ.1 0) j v))) = wsN cy h (sI σ 0 j v) := rfl
theorem wsN_at1 (cy : Nat → ClassId) (h : Nat → Nat) (σ : Wd) : (wsN cy h σ)[1]? = some (h 1, .inl (cy 0, 20, .inl (σ.1 1))) := rfl
theorem wsN_set1 (cy : Nat → ClassId) (h : Nat → Nat) (σ : Wd) (v : Int32) (j : Nat) : (wsN cy h σ).set 1 (h 1, .inl (cy 0, 20, .inl (upd (σ.1 1) j v))) = wsN cy h (sI σ 1 j v) := rfl
theorem wsN_at2 (cy : Nat → ClassId) (h : Nat → Nat) (σ : Wd) : (wsN cy h σ)[2]? = some (h 2, .inl (cy 0, 20, .inl (σ.1 2))) := rfl
theorem wsN_set2 (cy : Nat → ClassId) (h : Nat → Nat) (σ : Wd) (v : Int32) (j : Nat) : (wsN cy h σ).set 2 (h 2, .inl (cy 0, 20, .inl (upd (σ.1 2) j v))) = wsN cy h (sI σ 2 j v) := rfl
theorem wsN_at3 (cy : Nat → ClassId) (h : Nat → Nat) (σ : Wd) : (wsN cy h σ)[3]? = some (h 3, .inl (cy 0, 20, .inl (σ.1 3))) := rfl
theorem wsN_set3 (cy : Nat → ClassId) (h : Nat → Nat) (σ : Wd) (v : Int32) (j : Nat) : (wsN cy h σ).set 3 (h 3, .inl (cy 0, 20, .inl (upd (σ.1 3) j v))) = wsN cy h (sI σ 3 j v) := rfl
theorem wsN_at4 (cy : Nat → ClassId) (h : Nat → Nat) (σ : Wd) : (wsN cy h σ)[4]? = some (h 4, .inl (cy 0, 6, .inl (σ.1 4))) := rfl
theorem wsN_set4 (cy : Nat → ClassId) (h : Nat → Nat) (σ : Wd) (v : Int32) (j : Nat) : (wsN cy h σ).set 4 (h 4, .inl (cy 0, 6, .inl (upd (σ.1 4) j v))) = wsN cy h (sI σ 4 j v) := rfl
theorem wsN_at5 (cy : Nat → ClassId) (h : Nat → Nat) (σ : Wd) : (wsN cy h σ)[5]? = some (h 5, .inl (cy 0, 20, .inl (σ.1 5))) := rfl
theorem wsN_set5 (cy : Nat → ClassId) (h : Nat → Nat) (σ : Wd) (v : Int32) (j : Nat) : (wsN cy h σ).set 5 (h 5, .inl (cy 0, 20, .inl (upd (σ.1 5) j v))) = wsN cy h (sI σ 5 j v) := rfl
theorem wsN_at6 (cy : Nat → ClassId) (h : Nat → Nat) (σ : Wd) : (wsN cy h σ)[6]? = some (h 6, .inl (cy 0, 20, .inl (σ.1 6))) := rfl
theorem wsN_set6 (cy : Nat → ClassId) (h : Nat → Nat) (σ : Wd) (v : Int32) (j : Nat) : (wsN cy h σ).set 6 (h 6, .inl (cy 0, 20, .inl (upd (σ.1 6) j v))) = wsN cy h (sI σ 6 j v) := rfl
theorem wsN_at7 (cy : Nat → ClassId) (h : Nat → Nat) (σ : Wd) : (wsN cy h σ)[7]? = some (h 7, .inl (cy 0, 20, .inl (σ.1 7))) := rfl
theorem wsN_set7 (cy : Nat → ClassId) (h : Nat → Nat) (σ : Wd) (v : Int32) (j : Nat) : (wsN cy h σ).set 7 (h 7, .inl (cy 0, 20, .inl (upd (σ.1 7) j v))) = wsN cy h (sI σ 7 j v) := rfl
theorem wsN_at8 (cy : Nat → ClassId) (h : Nat → Nat) (σ : Wd) : (wsN cy h σ)[8]? = some (h 8, .inl (cy 0, 40, .inl (σ.1 8))) := rfl
theorem wsN_set8 (cy : Nat → ClassId) (h : Nat → Nat) (σ : Wd) (v : Int32) (j : Nat) : (wsN cy h σ).set 8 (h 8, .inl (cy 0, 40, .inl (upd (σ.1 8) j v))) = wsN cy h (sI σ 8 j v) := rfl
theorem wsN_at9 (cy : Nat → ClassId) (h : Nat → Nat) (σ : Wd) : (wsN cy h σ)[9]? = some (h 9, .inl (cy 0, 7, .inl (σ.1 9))) := rfl
theorem wsN_set9 (cy : Nat → ClassId) (h : Nat → Nat) (σ : Wd) (v : Int32) (j : Nat) : (wsN cy h σ).set 9 (h 9, .inl (cy 0, 7, .inl (upd (σ.1 9) j v))) = wsN cy h (sI σ 9 j v) := rfl
theorem wsN_at10 (cy : Nat → ClassId) (h : Nat → Nat) (σ : Wd) : (wsN cy h σ)[10]? = some (h 10, .inl (cy 1, 49, .inr (.inl (σ.2 10)))) := rfl
theorem wsN_set10 (cy : Nat → ClassId) (h : Nat → Nat) (σ : Wd) (v : Int64) (j : Nat) : (wsN cy h σ).set 10 (h 10, .inl (cy 1, 49, .inr (.inl (vp_updL (σ.2 10) j v)))) = wsN cy h (sL σ 10 j v) := rfl
theorem wsN_at11 (cy : Nat → ClassId) (h : Nat → Nat) (σ : Wd) : (wsN cy h σ)[11]? = some (h 11, .inl (cy 1, 49, .inr (.inl (σ.2 11)))) := rfl
theorem wsN_set11 (cy : Nat → ClassId) (h : Nat → Nat) (σ : Wd) (v : Int64) (j : Nat) : (wsN cy h σ).set 11 (h 11, .inl (cy 1, 49, .inr (.inl (vp_updL (σ.2 11) j v)))) = wsN cy h (sL σ 11 j v) := rfl
