/-! the law's first rows: the class and the reference made, the heap then told, coupled -/
def WZ0 : WL := (0, 15, .inr (.inr 90)) :: (0, 14, .inl 0) :: (0, 13, .inr (.inr 89)) :: (0, 12, .inr (.inr 85)) :: (86, 3, .inl (-1)) :: (86, 2, .inl (-1)) :: (86, 1, .inl (-1)) :: (86, 0, .inl (-1)) :: (85, 2, .inr (.inr 88)) :: (85, 1, .inr (.inr 87)) :: (85, 0, .inr (.inr 86)) :: (0, 11, .inr (.inr 73)) :: (73, 8, .inl 16) :: (73, 7, .inl 0) :: (73, 6, .inl 0) :: (73, 5, .inr (.inr 84)) :: (73, 4, .inr (.inr 83)) :: (73, 3, .inr (.inr 82)) :: (73, 2, .inl (-1)) :: (73, 1, .inl 0) :: (73, 0, .inr (.inr 74)) :: (74, 8, .inr (.inr 81)) :: (74, 7, .inr (.inr 80)) :: (74, 6, .inl 0) :: (74, 5, .inr (.inr 79)) :: (74, 4, .inr (.inr 78)) :: (74, 3, .inr (.inr 77)) :: (74, 2, .inr (.inr 76)) :: (74, 1, .inr (.inr 75)) :: (74, 0, .inl 0) :: (0, 10, .inr (.inr 65)) :: (65, 8, .inr (.inr 72)) :: (65, 7, .inr (.inr 71)) :: (65, 6, .inl 0) :: (65, 5, .inr (.inr 70)) :: (65, 4, .inr (.inr 69)) :: (65, 3, .inr (.inr 68)) :: (65, 2, .inr (.inr 67)) :: (65, 1, .inr (.inr 66)) :: (65, 0, .inl 0) :: (0, 9, .inr (.inr 57)) :: (57, 1, .inr (.inr 8)) :: (57, 0, .inr (.inr 1)) :: (57, 10, .inr (.inr 64)) :: (57, 9, .inr (.inr 63)) :: (57, 8, .inl 0) :: (57, 7, .inr (.inr 62)) :: (57, 6, .inr (.inr 61)) :: (57, 5, .inr (.inr 60)) :: (57, 4, .inr (.inr 59)) :: (57, 3, .inr (.inr 58)) :: (57, 2, .inl 0) :: (0, 8, .inr (.inr 53)) :: (53, 4, .inr (.inr 56)) :: (53, 3, .inr (.inr 55)) :: (53, 2, .inr (.inr 54)) :: (53, 1, .inr (.inl 0)) :: (53, 0, .inl 0) :: (0, 7, .inr (.inr 45)) :: (45, 13, .inr (.inl 0)) :: (45, 12, .inr (.inl 0)) :: (45, 11, .inl 0) :: (45, 10, .inl 0) :: (45, 9, .inl 0) :: (45, 8, .inl 0) :: (45, 7, .inr (.inr 52)) :: (45, 6, .inr (.inr 51)) :: (45, 5, .inr (.inr 50)) :: (45, 4, .inr (.inr 49)) :: (45, 3, .inr (.inr 48)) :: (45, 2, .inr (.inr 47)) :: (45, 1, .inl 0) :: (45, 0, .inr (.inr 46)) :: (0, 6, .inr (.inr 34)) :: (34, 2, .inr (.inr 26)) :: (34, 1, .inr (.inr 8)) :: (34, 0, .inr (.inr 1)) :: (34, 13, .inr (.inr 44)) :: (34, 12, .inr (.inr 43)) :: (34, 11, .inr (.inr 42)) :: (34, 10, .inr (.inr 41)) :: (34, 9, .inr (.inr 40)) :: (34, 8, .inr (.inr 39)) :: (34, 7, .inr (.inr 38)) :: (34, 6, .inr (.inr 37)) :: (34, 5, .inr (.inr 36)) :: (34, 4, .inr (.inr 35)) :: (34, 3, .inr (.inl 0)) :: (0, 5, .inr (.inr 30)) :: (30, 2, .inr (.inr 33)) :: (30, 1, .inr (.inr 32)) :: (30, 0, .inr (.inr 31)) :: (0, 4, .inr (.inr 26)) :: (26, 2, .inr (.inr 29)) :: (26, 1, .inr (.inr 28)) :: (26, 0, .inr (.inr 27)) :: (0, 3, .inr (.inr 22)) :: (22, 2, .inr (.inr 25)) :: (22, 1, .inr (.inr 24)) :: (22, 0, .inr (.inr 23)) :: (0, 2, .inr (.inr 18)) :: (18, 3, .inr (.inr 21)) :: (18, 2, .inr (.inr 20)) :: (18, 1, .inr (.inr 19)) :: (18, 0, .inl 0) :: (0, 1, .inr (.inr 8)) :: (8, 0, .inr (.inr 1)) :: (8, 15, .inl 99999) :: (8, 14, .inl 0) :: (8, 13, .inr (.inl 0)) :: (8, 12, .inr (.inl 0)) :: (8, 11, .inr (.inl 0)) :: (8, 10, .inr (.inr 17)) :: (8, 9, .inr (.inr 16)) :: (8, 8, .inr (.inr 15)) :: (8, 7, .inr (.inr 14)) :: (8, 6, .inr (.inr 13)) :: (8, 5, .inr (.inr 12)) :: (8, 4, .inr (.inr 11)) :: (8, 3, .inr (.inr 10)) :: (8, 2, .inr (.inr 9)) :: (8, 1, .inl 0) :: (0, 0, .inr (.inr 1)) :: (1, 10, .inr (.inr 7)) :: (1, 9, .inr (.inr 6)) :: (1, 8, .inl 0) :: (1, 7, .inr (.inr 5)) :: (1, 6, .inl 0) :: (1, 5, .inl 0) :: (1, 4, .inr (.inr 4)) :: (1, 3, .inr (.inr 3)) :: (1, 2, .inr (.inr 2)) :: (1, 1, .inl 0) :: (1, 0, .inl 0) :: []
def WZ : WL := (91, 86, .inr (.inr 145)) :: (91, 85, .inr (.inr 144)) :: (91, 84, .inr (.inr 143)) :: (143, 3, .inl (-1)) :: (143, 2, .inl (-1)) :: (143, 1, .inl (-1)) :: (143, 0, .inl (-1)) :: (91, 83, .inr (.inr 142)) :: (91, 82, .inr (.inr 141)) :: (91, 81, .inr (.inr 140)) :: (91, 80, .inr (.inr 139)) :: (91, 76, .inl (-1)) :: (91, 66, .inr (.inr 138)) :: (91, 65, .inr (.inr 137)) :: (91, 64, .inr (.inr 136)) :: (91, 63, .inr (.inr 135)) :: (91, 62, .inr (.inr 134)) :: (91, 61, .inr (.inr 133)) :: (91, 60, .inr (.inr 132)) :: (91, 59, .inr (.inr 131)) :: (91, 58, .inr (.inr 130)) :: (91, 57, .inr (.inr 129)) :: (91, 56, .inr (.inr 128)) :: (91, 55, .inr (.inr 127)) :: (91, 53, .inr (.inr 126)) :: (91, 52, .inr (.inr 125)) :: (91, 47, .inr (.inr 124)) :: (91, 46, .inr (.inr 123)) :: (91, 45, .inr (.inr 122)) :: (91, 44, .inr (.inr 121)) :: (91, 43, .inr (.inr 120)) :: (91, 41, .inr (.inr 119)) :: (91, 40, .inr (.inr 118)) :: (91, 39, .inr (.inr 117)) :: (91, 36, .inl (-1)) :: (91, 35, .inr (.inr 116)) :: (91, 34, .inr (.inr 115)) :: (91, 33, .inr (.inr 114)) :: (91, 32, .inr (.inr 113)) :: (91, 31, .inr (.inr 112)) :: (91, 30, .inl 99999) :: (91, 28, .inr (.inr 111)) :: (91, 27, .inr (.inr 110)) :: (91, 26, .inr (.inr 109)) :: (91, 25, .inr (.inr 108)) :: (91, 24, .inr (.inr 107)) :: (91, 23, .inr (.inr 106)) :: (91, 22, .inr (.inr 105)) :: (91, 21, .inr (.inr 104)) :: (91, 20, .inr (.inr 103)) :: (91, 19, .inr (.inr 102)) :: (91, 18, .inr (.inr 101)) :: (91, 17, .inr (.inr 100)) :: (91, 16, .inr (.inr 99)) :: (91, 15, .inr (.inr 98)) :: (91, 14, .inr (.inr 97)) :: (91, 13, .inr (.inr 96)) :: (91, 12, .inr (.inr 95)) :: (91, 11, .inr (.inr 94)) :: (91, 10, .inr (.inr 93)) :: (91, 9, .inr (.inr 92)) :: WZ0
section START
variable {xs : Nat → Int32} {L : Nat}
set_option maxRecDepth 100000 in
theorem sgL_start (hQ : EL xs L 147 28405 23 (lvI 0) [] (hX WZ 147)) : EL xs L 0 0 0 [(0, .ref 4000)] [] (hX [] 0) := fun C hC hL =>
  have b : Lb 0 [] := fun q hq => nomatch hq
  (x_newo (N := 16) hC dL_law_0 rfl rfl inX11 tyX11_ok (by decide +kernel) (by decide) b_1_27 b_1_28 b_1_1 (rmn_L hL (Nat.le_of_ble_eq_true rfl) (Nat.le_of_ble_eq_true rfl)) (by decide) b (fun b => (w_dup hC dL_law_3 rfl (l_callIv (μ' := nX11_init) (k2 := 91) (n2 := 9723) [] [.ref 0] hC hL (OKv.up (show 4 ≤ 40 by decide) (made_0 (L := []) b (F := fun g => Lb 91 WZ0 ∧ g = hX WZ0 91) (fun b => ⟨b, rfl⟩))) rfl rfl (Nat.le_of_ble_eq_true rfl) (Nat.le_of_ble_eq_true rfl) (by decide) dL_law_4 cl_L_173 rfl (Nat.le_of_ble_eq_true rfl) (fun h1 hq _ => (by obtain ⟨b, rfl⟩ := hq; exact (
   (w_astore_n hC dL_law_7 (i := 1) rfl (by decide) [0, 1] (lv' := [(1, .ref 0), (0, .ref 4000)]) rfl (x_newo (N := 87) hC dL_law_8 rfl rfl inX12 tyX12_ok (by decide +kernel) (by decide) b_8_16 b_8_17 b_1_13 (rmn_L hL (Nat.le_of_ble_eq_true rfl) (Nat.le_of_ble_eq_true rfl)) (by decide) b (fun b => (w_dup hC dL_law_11 rfl (l_callIv (μ' := nX12_init) (k2 := 146) (n2 := 28404) [] [.ref 91] hC hL (OKv.up (show 2 ≤ 40 by decide) (made_91 (L := WZ0) b (F := fun g => Lb 146 WZ ∧ g = hX WZ 146) (fun b => ⟨b, rfl⟩))) rfl rfl (Nat.le_of_ble_eq_true rfl) (Nat.le_of_ble_eq_true rfl) (by decide) dL_law_12 cl_L_176 rfl (Nat.le_of_ble_eq_true rfl) (fun h1 hq _ => (by obtain ⟨b, rfl⟩ := hq; exact (
   (w_astore_n hC dL_law_15 (i := 2) rfl (by decide) [0, 1, 2] (lv' := [(2, .ref 91), (1, .ref 0), (0, .ref 4000)]) rfl (w_iconst (x := 1) hC dL_law_16 ic_1 (x_newj (N := 1) hC dL_law_17 sa_146 (by decide) (by decide) rfl (rmn_L hL (Nat.le_of_ble_eq_true rfl) (Nat.le_of_ble_eq_true rfl)) (by decide) b (fun b => (w_astore_n hC dL_law_19 (i := 3) rfl (by decide) [0, 1, 2, 3] (lv' := [(3, .ref 146), (2, .ref 91), (1, .ref 0), (0, .ref 4000)]) rfl (w_iconst (x := 0) hC dL_law_20 ic_0 (w_istore hC dL_law_21 (by decide) [4, 3, 2, 1, 0] (lv' := lvI 0) rfl (hQ C hC hL)))))))))))))))))))))))
end START
def nolong (L : WL) : Bool := L.all fun q => match q.2.2 with
  | .inr (.inl v) => decide (v = 0)
  | _ => true
theorem wJ_no {c j : Nat} : ∀ {L : WL}, nolong L = true → wJ L c j = 0
  | [], _ => rfl
  | q :: r, h => by
    rw [nolong, List.all_cons, Bool.and_eq_true] at h
    have ih := wJ_no (c := c) (j := j) (L := r) h.2
    obtain ⟨a, k, v | v | v⟩ := q
    · exact ih
    · have hv : v = 0 := of_decide_eq_true h.1
      show (if c = a ∧ j = k then v else wJ r c j) = 0
      rw [ih, hv, ite_self]
    · exact ih
abbrev HZ : Hp := hX WZ 147
set_option maxRecDepth 100000 in
theorem VV_0 : VV HZ := by
  have eP : nP HZ = 0 := by decide +kernel
  have eH : nH HZ = 0 := by decide +kernel
  have eD : nD HZ = 0 := by decide +kernel
  have eL : nL HZ = 0 := by decide +kernel
  have z4 : HZ.1 104 = fun _ => 0 := wI_0 (by decide +kernel)
  have z5 : HZ.1 105 = fun _ => 0 := wI_0 (by decide +kernel)
  have z6 : HZ.1 106 = fun _ => 0 := wI_0 (by decide +kernel)
  have z7 : HZ.1 107 = fun _ => 0 := wI_0 (by decide +kernel)
  have z8 : HZ.1 108 = fun _ => 0 := wI_0 (by decide +kernel)
  have y7 : ∀ d m, lst HZ d m = 0 := fun d m => congrFun z7 _
  have y8 : ∀ d m, pln HZ d m = 0 := fun d m => congrFun z8 _
  have y6 : ∀ a b, bar HZ a b = false := fun a b => by rw [bar, z6]; rfl
  have no : ∀ {n k : Nat}, n = 0 → ¬ k < n := fun e h => by omega
  refine ⟨⟨by decide +kernel, by decide +kernel, by decide +kernel, by decide +kernel, by decide +kernel, by decide +kernel, by decide +kernel, fun p hp => (no eP hp).elim, fun d hd => (no eD hd).elim, fun j => Or.inl (congrFun z6 j), fun j => ⟨Or.inl (congrFun z7 j), Or.inl (congrFun z8 j)⟩, fun k hk => (no eH hk).elim, fun k hk => (no eL hk).elim, fun d _ _ => ⟨congrFun z4 d, congrFun z5 d, fun m _ => ⟨y7 d m, y8 d m⟩⟩, fun a b _ _ h => absurd h (by rw [y6]; decide)⟩, ⟨0, by decide, by decide +kernel⟩, fun b _ m _ _ => y7 b m, ?_, by unfold VTp; decide +kernel, by decide +kernel⟩
  have : ∀ i, i < 4 → HZ.1 143 i = -1 := by decide +kernel
  exact fun i hi => Or.inl (this i hi)
set_option maxRecDepth 100000 in
theorem CC_0 : CC HZ HZ := by
  have eP : nP HZ = 0 := by decide +kernel
  have eH : nH HZ = 0 := by decide +kernel
  have eO : nO HZ = 0 := by decide +kernel
  have eD : nD HZ = 0 := by decide +kernel
  have eL : nL HZ = 0 := by decide +kernel
  have eK : nK HZ = 0 := by decide +kernel
  have eN : nN HZ = 0 := by decide +kernel
  have z6 : HZ.1 106 = fun _ => 0 := wI_0 (by decide +kernel)
  have z7 : HZ.1 107 = fun _ => 0 := wI_0 (by decide +kernel)
  have z8 : HZ.1 108 = fun _ => 0 := wI_0 (by decide +kernel)
  have z89 : HZ.1 89 = fun _ => 0 := wI_0 (by decide +kernel)
  have z136 : HZ.1 136 = fun _ => 0 := wI_0 (by decide +kernel)
  have y7 : ∀ d m, lst HZ d m = 0 := fun d m => congrFun z7 _
  have y8 : ∀ d m, pln HZ d m = 0 := fun d m => congrFun z8 _
  have y6 : ∀ a b, bar HZ a b = false := fun a b => by rw [bar, z6]; rfl
  have ya : ∀ d, al HZ d = false := fun d => by rw [al, eD]; simp
  have J : ∀ c j, HZ.2.1 c j = 0 := fun c j => wJ_no (by decide +kernel)
  have no : ∀ {n k : Nat}, n = 0 → ¬ k < n := fun e h => by omega
  have l0 : lkd 0 = false := by decide
  have t0 : decide ((0 : Int32) = 2) = false := by decide
  have t1 : decide ((0 : Int32) = 3) = false := by decide
  refine ⟨⟨⟨by decide +kernel, fun k hk => (no eD hk).elim, fun k hk => (no eD hk).elim, fun k hk b => ?_, fun b => ?_, fun b => ?_, fun b => ?_, fun a ha b => ?_, fun a ha b => ?_, by decide +kernel, by decide +kernel⟩, ⟨by decide +kernel, fun p hp => (no eP hp).elim⟩, ⟨by decide +kernel, by decide +kernel, by decide +kernel, by decide +kernel, fun k hk => (no eH hk).elim, fun k hk => (no eO hk).elim⟩, ⟨by decide +kernel, fun k hk => (no eL hk).elim⟩, fun m hm b => ?_, fun m hm b => ?_⟩, ⟨by decide +kernel, fun k hk => (no eK hk).elim⟩, ⟨by decide +kernel, fun i hi => ?_, by decide +kernel, by decide +kernel⟩, ⟨⟨by decide +kernel, by decide +kernel⟩, by decide +kernel, fun k hk => (no eN hk).elim⟩, ?_, fun j hj => by rw [J, J]⟩
  · rw [J, hb_0, ya]; rfl
  · rw [J, hb_0, ya]; rfl
  · rw [J, hb_0, eD]; simp
  · rw [J, hb_0, eD]; simp
  · rw [J, hb_0, eD]; simp
  · rw [J, hb_0, y6, Bool.and_false]
  · simp only [J, hb_0, y7, l0, t0, t1, Bool.and_false, and_self]
  · simp only [J, hb_0, y8, l0, t0, t1, Bool.and_false, and_self]
  · rw [z89, z136]
  · have : ∀ i, i < 4 → HZ.1 143 i = -1 ∧ HZ.1 86 i = -1 := by decide +kernel
    exact fun i hi => Or.inl (this i hi)
theorem Cpl_0 : Cpl HZ HZ := ⟨⟨by decide +kernel, rfl⟩, VV_0, CC_0, MA.rf⟩
