/-! weights by the reference -/
section WEIGHS
variable {σ h : Hp} {d : Nat} {X : String → Hp → Prop} {F : Int32 → Hp → Prop} {x1 x2 x3 x4 x5 x6 x7 x y u : Int32}
theorem wg_162 (hd : 4 ≤ d) (hS : Std h.2.2) (nx : E mX12_weighs d 0 0 14 [(0, .ref 91), (1, .int x1), (2, .int x2), (3, .int x3), (4, .int x4), (5, .int x5), (6, .int (x6 + u)), (7, .int (x7 + 1))] [] h (Qi F) X) :
    E mX12_weighs d 0 0 162 [(0, .ref 91), (1, .int x1), (2, .int x2), (3, .int x3), (4, .int x4), (5, .int x5), (7, .int x7)] [.int u, .int x6] h (Qi F) X :=
  sgX12_weighs_162 _ _ _ _ _ _ _ _ hd hS (sgX12_weighs_165 _ _ _ _ _ _ _ hd hS nx)
theorem wg_140 (hd : 4 ≤ d) (hS : Std h.2.2) (nx : E mX12_weighs d 0 0 14 [(0, .ref 91), (1, .int x1), (2, .int x2), (3, .int x3), (4, .int x4), (5, .int (x5 + u)), (6, .int (x6 + bI (decide (x = 1) && decide (y = 1)))), (7, .int (x7 + 1))] [] h (Qi F) X) :
    E mX12_weighs d 0 0 140 [(0, .ref 91), (1, .int x1), (2, .int x2), (3, .int x3), (4, .int x4), (6, .int x6), (7, .int x7), (8, .int x), (9, .int y)] [.int u, .int x5] h (Qi F) X := by
  refine sgX12_weighs_140 _ _ _ _ _ _ _ _ _ _ hd hS ⟨fun z => ⟨fun z2 => wg_162 hd hS ?_, fun z2 => sgX12_weighs_161 _ _ _ _ _ _ _ hd hS (wg_162 hd hS ?_)⟩, fun z => sgX12_weighs_161 _ _ _ _ _ _ _ hd hS (wg_162 hd hS ?_)⟩
  · have e : bI (decide (x = 1) && decide (y = 1)) = 1 := by rw [decide_eq_true z, decide_eq_true z2]; rfl
    rw [e] at nx; exact nx
  · have e : bI (decide (x = 1) && decide (y = 1)) = 0 := by rw [decide_eq_false z2, Bool.and_false]; rfl
    rw [e] at nx; exact nx
  · have e : bI (decide (x = 1) && decide (y = 1)) = 0 := by rw [decide_eq_false z, Bool.false_and]; rfl
    rw [e] at nx; exact nx
theorem wg_118 (hd : 4 ≤ d) (hS : Std h.2.2) (nx : E mX12_weighs d 0 0 14 [(0, .ref 91), (1, .int x1), (2, .int x2), (3, .int x3), (4, .int (x4 + u)), (5, .int (x5 + bI (decide (x = 1) && decide (y = 2)))), (6, .int (x6 + bI (decide (x = 1) && decide (y = 1)))), (7, .int (x7 + 1))] [] h (Qi F) X) :
    E mX12_weighs d 0 0 118 [(0, .ref 91), (1, .int x1), (2, .int x2), (3, .int x3), (5, .int x5), (6, .int x6), (7, .int x7), (8, .int x), (9, .int y)] [.int u, .int x4] h (Qi F) X := by
  refine sgX12_weighs_118 _ _ _ _ _ _ _ _ _ _ hd hS ⟨fun z => ⟨fun z2 => wg_140 hd hS ?_, fun z2 => sgX12_weighs_139 _ _ _ _ _ _ _ _ _ hd hS (wg_140 hd hS ?_)⟩, fun z => sgX12_weighs_139 _ _ _ _ _ _ _ _ _ hd hS (wg_140 hd hS ?_)⟩
  · have e : bI (decide (x = 1) && decide (y = 2)) = 1 := by rw [decide_eq_true z, decide_eq_true z2]; rfl
    rw [e] at nx; exact nx
  · have e : bI (decide (x = 1) && decide (y = 2)) = 0 := by rw [decide_eq_false z2, Bool.and_false]; rfl
    rw [e] at nx; exact nx
  · have e : bI (decide (x = 1) && decide (y = 2)) = 0 := by rw [decide_eq_false z, Bool.false_and]; rfl
    rw [e] at nx; exact nx
theorem wg_97 (hd : 4 ≤ d) (hS : Std h.2.2) (nx : E mX12_weighs d 0 0 14 [(0, .ref 91), (1, .int x1), (2, .int x2), (3, .int (x3 + u)), (4, .int (x4 + bI (decide (x = 2) && decide (y = 1)))), (5, .int (x5 + bI (decide (x = 1) && decide (y = 2)))), (6, .int (x6 + bI (decide (x = 1) && decide (y = 1)))), (7, .int (x7 + 1))] [] h (Qi F) X) :
    E mX12_weighs d 0 0 97 [(0, .ref 91), (1, .int x1), (2, .int x2), (4, .int x4), (5, .int x5), (6, .int x6), (7, .int x7), (8, .int x), (9, .int y)] [.int u, .int x3] h (Qi F) X := by
  refine sgX12_weighs_97 _ _ _ _ _ _ _ _ _ _ hd hS ⟨fun z => ⟨fun z2 => wg_118 hd hS ?_, fun z2 => sgX12_weighs_117 _ _ _ _ _ _ _ _ _ hd hS (wg_118 hd hS ?_)⟩, fun z => sgX12_weighs_117 _ _ _ _ _ _ _ _ _ hd hS (wg_118 hd hS ?_)⟩
  · have e : bI (decide (x = 2) && decide (y = 1)) = 1 := by rw [decide_eq_true z, decide_eq_true z2]; rfl
    rw [e] at nx; exact nx
  · have e : bI (decide (x = 2) && decide (y = 1)) = 0 := by rw [decide_eq_false z2, Bool.and_false]; rfl
    rw [e] at nx; exact nx
  · have e : bI (decide (x = 2) && decide (y = 1)) = 0 := by rw [decide_eq_false z, Bool.false_and]; rfl
    rw [e] at nx; exact nx
end WEIGHS
