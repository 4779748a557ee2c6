/-! the land: place, mark, hand, officer -/
section OPSL
variable {σ h : Hp} {d : Nat} {X : String → Hp → Prop} {F : Int32 → Hp → Prop} {x y l a b : Int32}
def CW (h σ' : Hp) (cd : Nat) (v : Int32) (tb : Nat → String) (F : Int32 → Hp → Prop) (X : String → Hp → Prop) : Prop := (cd = 0 → ∀ q, KL h q → CS σ' q → F v q) ∧ (cd ≠ 0 → X (tb cd) h)
def MW (h σ' : Hp) (cd : Nat) (v : Int32) (F : Int32 → Hp → Prop) : Prop := ∀ q r, KM h q → MA σ' q → q.1 91 0 = nI cd → (cd = 0 → r = v) → F r q
theorem ok_failsW {n : Nat} {v : Int32} {h0 : Hp} (hd : 1 ≤ d) (k : Kp scm h0 h) (m : MA σ h0) (hn : n ≠ 0) (hq : MW h0 σ n v F) : OKi d mX12_fails [.ref 91, .int (nI n)] h F X :=
  ok_fails hd k.1 fun q f e0 => hq q 0 (k.tr (f.km k.1)).m (m.km (k.tr (f.km k.1))) e0 fun z => absurd z hn
def cdPlace (x y l : Int32) : Nat := if isW x 0 99 = true ∧ isW y 0 99 = true ∧ isW l 0 5 = true then 0 else 1
def vPlace (σ : Hp) : Int32 := if nP σ < 30 then nI (nP σ) else -1
def nxPlace (σ : Hp) (x y l : Int32) : Hp := if cdPlace x y l = 0 ∧ nP σ < 30 then stPlace σ x y l else σ
theorem cdPlace_0 (e : cdPlace x y l = 0) : isW x 0 99 = true ∧ isW y 0 99 = true ∧ isW l 0 5 = true := by
  rw [cdPlace] at e
  by_cases q : isW x 0 99 = true ∧ isW y 0 99 = true ∧ isW l 0 5 = true
  · exact q
  · rw [if_neg q] at e; omega
theorem VS_nxPlace (V : VS σ) : VS (nxPlace σ x y l) := by
  rw [nxPlace]
  by_cases q : cdPlace x y l = 0 ∧ nP σ < 30
  · rw [if_pos q]
    have e := cdPlace_0 q.1
    obtain ⟨i, hi, ei⟩ := isW_n (n := 99) (by decide) e.1
    obtain ⟨j, hj, ej⟩ := isW_n (n := 99) (by decide) e.2.1
    rw [ei, ej]
    exact VS_place V q.2 hi hj
  · rw [if_neg q]; exact V
theorem ok_placeC (hd : 7 ≤ d) (hS : Std h.2.2) (V : VS σ) (c : CS σ h) (hq : CW h (nxPlace σ x y l) (cdPlace x y l) (vPlace σ) (t1 iae) F X) : OKi d mX11_place [.ref 0, .int x, .int y, .int l] h F X := by
  have no : ¬ (isW x 0 99 = true ∧ isW y 0 99 = true ∧ isW l 0 5 = true) → X iae h := fun z => by
    have e : cdPlace x y l = 1 := if_neg z
    have := hq.2 (by omega)
    rw [e] at this; exact this
  refine enX11_place _ _ _ hd hS (ok_isW (a := 0) (b := 99) rfl rfl (by omega) hS ⟨fun z => no fun w => absurd w.1 (by rw [bI_0.mp z]; decide), fun z => ok_isW (a := 0) (b := 99) rfl rfl (by omega) hS ⟨fun z2 => no fun w => absurd w.2.1 (by rw [bI_0.mp z2]; decide), fun z2 => ok_isW (a := 0) (b := 5) rfl rfl (by omega) hS ⟨fun z3 => no fun w => absurd w.2.2 (by rw [bI_0.mp z3]; decide), fun z3 => ?_⟩⟩⟩)
  have e : cdPlace x y l = 0 := if_pos ⟨bI_n0.mp z, bI_n0.mp z2, bI_n0.mp z3⟩
  have fin := hq.1 e
  rw [nxPlace, vPlace] at fin
  refine ok_addPlace (by omega) hS V c.2.1 (fun z4 => ?_) fun z4 q f cp => ?_
  · rw [if_neg (fun w => absurd w.2 (by omega)), if_neg (by omega)] at fin
    exact fin h (KL.rf hS) c
  · rw [if_pos ⟨e, z4⟩, if_pos z4] at fin
    exact fin q (f.kl hS) (CS_place V c f cp)
theorem ok_placeM (hd : 4 ≤ d) (hS : Std h.2.2) (V : VS σ) (m : MA σ h) (hq : MW h (nxPlace σ x y l) (cdPlace x y l) (vPlace σ) F) : OKi d mX12_place [.ref 91, .int x, .int y, .int l] h F X := by
  have hP := V.p.2
  have kk : Kp scm h (hI h 91 0 0) := k0 (Kp.rf hS)
  have no : ¬ (isW x 0 99 = true ∧ isW y 0 99 = true ∧ isW l 0 5 = true) → MW h σ 1 (vPlace σ) F := fun z => by
    have e : cdPlace x y l = 1 := if_neg z
    have := hq
    rw [nxPlace, if_neg (fun w => absurd w.1 (by omega)), e] at this; exact this
  refine OKi.up hd (oki_of 3 (by decide +kernel) (Nat.le_of_ble_eq_true rfl) (sgX12_place_0 _ _ _ (Nat.le_of_ble_eq_true rfl) hS (ok_isWM (a := 0) (b := 99) rfl rfl (by omega) kk.1 ⟨fun z => ok_failsW (n := 1) (by omega) kk m (by decide) (no fun w => absurd w.1 (by rw [bI_0.mp z]; decide)), fun z => ok_isWM (a := 0) (b := 99) rfl rfl (by omega) kk.1 ⟨fun z2 => ok_failsW (n := 1) (by omega) kk m (by decide) (no fun w => absurd w.2.1 (by rw [bI_0.mp z2]; decide)), fun z2 => ok_isWM (a := 0) (b := 5) rfl rfl (by omega) kk.1 ⟨fun z3 => ok_failsW (n := 1) (by omega) kk m (by decide) (no fun w => absurd w.2.2 (by rw [bI_0.mp z3]; decide)), fun z3 => ?_⟩⟩⟩)))
  have e : cdPlace x y l = 0 := if_pos ⟨bI_n0.mp z, bI_n0.mp z2, bI_n0.mp z3⟩
  have fin := hq
  have mk := m.km kk
  rw [nxPlace, vPlace, e] at fin
  rw [mk.i 91 2, V.p.1, lit_nI 30, nI_eq (b := 30) (by omega) (by omega)]
  refine ⟨fun z4 => ?_, fun z4 => ?_⟩
  · rw [if_neg (fun w => absurd w.2 (by omega)), if_neg (by omega)] at fin
    exact fin _ _ kk.m mk hI_k fun _ => rfl
  · have h30 : nP σ < 30 := by omega
    rw [if_pos ⟨rfl, h30⟩, if_pos h30] at fin
    rw [nI_clamp (by omega), nI_1, nI_m1]
    refine ⟨vin h30, vin h30, vin h30, fin _ _ (kk.m.tr (Fr.m (L := [92, 93, 94]) (fs := [(91, 2)]) (Fr.tr (Fr.tr (Fr.tr Fr.pI Fr.pI) Fr.pI) Fr.pI) kk.1)) ((((mk.hI _ _ _).hI _ _ _).hI _ _ _).hI _ _ _) ?_ fun _ => rfl⟩
    rw [hI_j (by decide), hI_c (by decide), hI_c (by decide), hI_c (by decide), hI_k]; rfl
def vMark (σ : Hp) : Int32 := if nM σ < 16 then nI (nM σ) else -1
def nxMark (σ : Hp) : Hp := if nM σ < 16 then stMark σ else σ
theorem VS_nxMark (V : VS σ) : VS (nxMark σ) := by
  rw [nxMark]; split
  · next q => exact VS_mark V q
  · exact V
theorem ok_markC (hd : 2 ≤ d) (hS : Std h.2.2) (V : VS σ) (c : CS σ h) (hq : ∀ q, KL h q → CS (nxMark σ) q → F (vMark σ) q) : OKi d mX11_mark [.ref 0] h F X := by
  rw [nxMark, vMark] at hq
  refine enX11_mark hd hS (ok_addMark (by omega) hS V c.2.2.1 (fun z => ?_) fun z => ?_)
  · rw [if_neg (by omega), if_neg (by omega)] at hq
    exact hq h (KL.rf hS) c
  · rw [if_pos z, if_pos z] at hq
    exact hq _ ((Fr.pI : Fr [] [(1, 5)] h _).kl hS) (CS_mark V z c)
theorem ok_markM (hd : 1 ≤ d) (hS : Std h.2.2) (V : VS σ) (m : MA σ h) (hq : ∀ q, KM h q → MA (nxMark σ) q → F (vMark σ) q) : OKi d mX12_mark [.ref 91] h F X := by
  have hM := V.m.2
  have kk : Kp scm h (hI h 91 0 0) := k0 (Kp.rf hS)
  have mk := m.km kk
  rw [nxMark, vMark] at hq
  refine enX12_mark hd hS ?_
  rw [m.i 91 3, V.m.1, lit_nI 16, nI_eq (b := 16) (by omega) (by omega)]
  refine ⟨fun z => ?_, fun z => ?_⟩
  · rw [if_neg (by omega), if_neg (by omega)] at hq
    exact hq _ kk.m mk
  · have h16 : nM σ < 16 := by omega
    rw [if_pos h16, if_pos h16] at hq
    rw [nI_1, nI_m1]
    exact hq _ (kk.m.tr (Fr.m (L := []) (fs := [(91, 3)]) Fr.pI kk.1)) (mk.hI _ _ _)
def cdHand (σ : Hp) (x : Int32) : Nat := if x = -1 ∨ isN x (nP σ) = true then 0 else 1
def vHand (σ : Hp) : Int32 := if nH σ < 20 then nI (nH σ) else -1
def nxHand (σ : Hp) (x : Int32) : Hp := if cdHand σ x = 0 ∧ nH σ < 20 then stHand σ x else σ
theorem VS_nxHand (V : VS σ) : VS (nxHand σ x) := by
  have hP := V.p.2
  rw [nxHand]
  by_cases q : cdHand σ x = 0 ∧ nH σ < 20
  · rw [if_pos q]
    refine VS_hand V q.2 ?_
    have e := q.1
    rw [cdHand] at e
    by_cases w : x = -1 ∨ isN x (nP σ) = true
    · obtain z | z := w
      · exact Or.inl z
      · exact Or.inr (isN_t (by omega) z)
    · rw [if_neg w] at e; omega
  · rw [if_neg q]; exact V
theorem ok_handC (hd : 8 ≤ d) (hS : Std h.2.2) (V : VS σ) (c : CS σ h) (hq : CW h (nxHand σ x) (cdHand σ x) (vHand σ) (t1 nse) F X) : OKi d mX11_hand [.ref 0, .int x] h F X := by
  have add : x = -1 ∨ isN x (nP σ) = true → OKi 7 mX2_addHand [.ref 1, .int x] h F X := fun w => by
    have e : cdHand σ x = 0 := if_pos w
    have fin := hq.1 e
    rw [nxHand, vHand] at fin
    refine ok_addHand (by omega) hS V c.2.2.1 (fun z => ?_) fun z => ?_
    · rw [if_neg (fun w => absurd w.2 (by omega)), if_neg (by omega)] at fin
      exact fin h (KL.rf hS) c
    · rw [if_pos ⟨e, z⟩, if_pos z] at fin
      exact fin _ (Fr.kl (L := [5]) (fs := [(1, 6)]) (Fr.tr Fr.pI Fr.pI) hS) (CS_hand V z c)
  refine enX11_hand _ hd hS ⟨fun z => add (Or.inl z), fun z => ok_needPlace (by omega) hS c.2.1.1 (fun z2 => add (Or.inr z2)) fun z2 => ?_⟩
  have e : cdHand σ x = 1 := if_neg fun w => by
    obtain w | w := w
    · exact z w
    · rw [z2] at w; cases w
  have := hq.2 (by omega)
  rw [e] at this; exact this
theorem ok_handM (hd : 4 ≤ d) (hS : Std h.2.2) (V : VS σ) (m : MA σ h) (hq : MW h (nxHand σ x) (cdHand σ x) (vHand σ) F) : OKi d mX12_hand [.ref 91, .int x] h F X := by
  have hH := V.h.2
  have kk : Kp scm h (hI h 91 0 0) := k0 (Kp.rf hS)
  have mk := m.km kk
  have add : x = -1 ∨ isN x (nP σ) = true → E mX12_hand 3 0 0 24 [(0, .ref 91), (1, .int x)] [] (hI h 91 0 0) (Qi F) X := fun w => by
    have e : cdHand σ x = 0 := if_pos w
    have fin := hq
    rw [nxHand, vHand, e] at fin
    refine sgX12_hand_24 _ (Nat.le_of_ble_eq_true rfl) kk.1 ?_
    rw [mk.i 91 4, V.h.1, lit_nI 20, nI_eq (b := 20) (by omega) (by omega)]
    refine ⟨fun z => ?_, fun z => ?_⟩
    · rw [if_neg (fun w => absurd w.2 (by omega)), if_neg (by omega)] at fin
      exact fin _ _ kk.m mk hI_k fun _ => rfl
    · have h20 : nH σ < 20 := by omega
      rw [if_pos ⟨rfl, h20⟩, if_pos h20] at fin
      rw [nI_clamp (by omega), nI_1, nI_m1]
      refine ⟨vin h20, fin _ _ (kk.m.tr (Fr.m (L := [95]) (fs := [(91, 4)]) (Fr.tr Fr.pI Fr.pI) kk.1)) ((mk.hI _ _ _).hI _ _ _) ?_ fun _ => rfl⟩
      rw [hI_j (by decide), hI_c (by decide), hI_k]; rfl
  refine OKi.up hd (oki_of 3 (by decide +kernel) (Nat.le_of_ble_eq_true rfl) (sgX12_hand_0 _ (Nat.le_of_ble_eq_true rfl) hS ⟨fun z => add (Or.inl z), fun z => ok_isPlaceM (by omega) kk.1 V mk.mc ⟨fun z2 => ok_failsW (n := 1) (v := vHand σ) (by omega) kk m (by decide) ?_, fun z2 => add (Or.inr (bI_n0.mp z2))⟩⟩))
  have e : cdHand σ x = 1 := if_neg fun w => by
    obtain w | w := w
    · exact z w
    · rw [bI_0.mp z2] at w; cases w
  have := hq
  rw [nxHand, if_neg (fun w => absurd w.1 (by omega)), e] at this; exact this
def cdOfficer (x y : Int32) : Nat := if isW x 0 5 = true ∧ isW y 0 9 = true then 0 else 1
def vOfficer (σ : Hp) : Int32 := if nO σ < 10 then nI (nO σ) else -1
def nxOfficer (σ : Hp) (x y : Int32) : Hp := if cdOfficer x y = 0 ∧ nO σ < 10 then stOff σ x y else σ
theorem VS_nxOfficer (V : VS σ) : VS (nxOfficer σ x y) := by
  rw [nxOfficer]; split
  · next q => exact VS_officer V q.2
  · exact V
theorem ok_officerC (hd : 7 ≤ d) (hS : Std h.2.2) (V : VS σ) (c : CS σ h) (hq : CW h (nxOfficer σ x y) (cdOfficer x y) (vOfficer σ) (t1 iae) F X) : OKi d mX11_officer [.ref 0, .int x, .int y] h F X := by
  have no : ¬ (isW x 0 5 = true ∧ isW y 0 9 = true) → X iae h := fun z => by
    have e : cdOfficer x y = 1 := if_neg z
    have := hq.2 (by omega)
    rw [e] at this; exact this
  refine enX11_officer _ _ hd hS (ok_isW (a := 0) (b := 5) rfl rfl (by omega) hS ⟨fun z => no fun w => absurd w.1 (by rw [bI_0.mp z]; decide), fun z => ok_isW (a := 0) (b := 9) rfl rfl (by omega) hS ⟨fun z2 => no fun w => absurd w.2 (by rw [bI_0.mp z2]; decide), fun z2 => ?_⟩⟩)
  have e : cdOfficer x y = 0 := if_pos ⟨bI_n0.mp z, bI_n0.mp z2⟩
  have fin := hq.1 e
  rw [nxOfficer, vOfficer] at fin
  refine ok_addOfficer (by omega) hS V c.2.2.1 (fun z4 => ?_) fun z4 => ?_
  · rw [if_neg (fun w => absurd w.2 (by omega)), if_neg (by omega)] at fin
    exact fin h (KL.rf hS) c
  · rw [if_pos ⟨e, z4⟩, if_pos z4] at fin
    exact fin _ (Fr.kl (L := [6, 7]) (fs := [(1, 8)]) (Fr.tr (Fr.tr Fr.pI Fr.pI) Fr.pI) hS) (CS_officer V z4 c)
theorem ok_officerM (hd : 4 ≤ d) (hS : Std h.2.2) (V : VS σ) (m : MA σ h) (hq : MW h (nxOfficer σ x y) (cdOfficer x y) (vOfficer σ) F) : OKi d mX12_officer [.ref 91, .int x, .int y] h F X := by
  have hO := V.o.2
  have kk : Kp scm h (hI h 91 0 0) := k0 (Kp.rf hS)
  have mk := m.km kk
  have no : ¬ (isW x 0 5 = true ∧ isW y 0 9 = true) → MW h σ 1 (vOfficer σ) F := fun z => by
    have e : cdOfficer x y = 1 := if_neg z
    have := hq
    rw [nxOfficer, if_neg (fun w => absurd w.1 (by omega)), e] at this; exact this
  refine OKi.up hd (oki_of 3 (by decide +kernel) (Nat.le_of_ble_eq_true rfl) (sgX12_officer_0 _ _ (Nat.le_of_ble_eq_true rfl) hS (ok_isWM (a := 0) (b := 5) rfl rfl (by omega) kk.1 ⟨fun z => ok_failsW (n := 1) (by omega) kk m (by decide) (no fun w => absurd w.1 (by rw [bI_0.mp z]; decide)), fun z => ok_isWM (a := 0) (b := 9) rfl rfl (by omega) kk.1 ⟨fun z2 => ok_failsW (n := 1) (by omega) kk m (by decide) (no fun w => absurd w.2 (by rw [bI_0.mp z2]; decide)), fun z2 => ?_⟩⟩)))
  have e : cdOfficer x y = 0 := if_pos ⟨bI_n0.mp z, bI_n0.mp z2⟩
  have fin := hq
  rw [nxOfficer, vOfficer, e] at fin
  rw [mk.i 91 5, V.o.1, lit_nI 10, nI_eq (b := 10) (by omega) (by omega)]
  refine ⟨fun z4 => ?_, fun z4 => ?_⟩
  · rw [if_neg (fun w => absurd w.2 (by omega)), if_neg (by omega)] at fin
    exact fin _ _ kk.m mk hI_k fun _ => rfl
  · have h10 : nO σ < 10 := by omega
    rw [if_pos ⟨rfl, h10⟩, if_pos h10] at fin
    rw [nI_clamp (by omega), nI_1, nI_m1]
    refine ⟨vin h10, vin h10, fin _ _ (kk.m.tr (Fr.m (L := [96, 97]) (fs := [(91, 5)]) (Fr.tr (Fr.tr Fr.pI Fr.pI) Fr.pI) kk.1)) (((mk.hI _ _ _).hI _ _ _).hI _ _ _) ?_ fun _ => rfl⟩
    rw [hI_j (by decide), hI_c (by decide), hI_c (by decide), hI_k]; rfl
/-! deed -/
def VN (σ : Hp) : Prop := ∃ n, n ≤ 99999 ∧ σ.1 91 1 = nI n
def okH (σ : Hp) (x y : Int32) : Prop := 0 ≤ x ∧ x ≤ y ∧ y ≤ σ.1 91 1
def cdDeed (σ : Hp) (a x y : Int32) : Nat := if isN a (nP σ) = true then (if 0 ≤ x ∧ x ≤ y ∧ y ≤ σ.1 91 1 then 0 else 2) else 1
def vDeed (σ : Hp) : Int32 := if nD σ < 60 then nI (nD σ) else -1
def nxDeed (σ : Hp) (a x y : Int32) : Hp := if cdDeed σ a x y = 0 ∧ nD σ < 60 then stAdd σ a x y else σ
theorem okH_n (N : VN σ) (o : okH σ x y) : ∃ f t, f ≤ t ∧ t ≤ 99999 ∧ x = nI f ∧ y = nI t := by
  obtain ⟨n, hn, en⟩ := N
  obtain ⟨h1, h2, h3⟩ := o
  have h4 : 0 ≤ y := by rw [fa_le] at *; omega
  obtain ⟨f, hf, ef⟩ := nI_nat h1
  obtain ⟨t, ht, et⟩ := nI_nat h4
  rw [et, en] at h3
  rw [ef, et] at h2
  have h3 := (nI_leI ht (by omega)).mp h3
  have h2 := (nI_leI hf ht).mp h2
  exact ⟨f, t, h2, by omega, ef, et⟩
theorem VS_nxDeed (V : VS σ) (N : VN σ) : VS (nxDeed σ a x y) := by
  have hP := V.p.2
  rw [nxDeed]
  by_cases q : cdDeed σ a x y = 0 ∧ nD σ < 60
  · rw [if_pos q]
    have e := q.1
    rw [cdDeed] at e
    by_cases w : isN a (nP σ) = true
    · rw [if_pos w] at e
      by_cases o : 0 ≤ x ∧ x ≤ y ∧ y ≤ σ.1 91 1
      · obtain ⟨p, hp, ep⟩ := isN_t (by omega) w
        obtain ⟨f, t, h1, h2, ef, et⟩ := okH_n N o
        rw [ep, ef, et]
        exact VS_add V hp q.2 h1 h2
      · rw [if_neg o] at e; omega
    · rw [if_neg w] at e; omega
  · rw [if_neg q]; exact V
theorem ok_deedC (hd : 8 ≤ d) (hS : Std h.2.2) (V : VS σ) (c : CS σ h) (hq : CW h (nxDeed σ a x y) (cdDeed σ a x y) (vDeed σ) (t2 nse iae) F X) : OKi d mX11_deed [.ref 0, .int a, .int x, .int y] h F X := by
  have hP := V.p.2
  refine enX11_deed _ _ _ hd hS (ok_needPlace (by omega) hS c.2.1.1 (fun h1 => ?_) fun h1 => ?_)
  · have no : ¬ (0 ≤ x ∧ x ≤ y ∧ y ≤ σ.1 91 1) → X iae h := fun z => by
      have e : cdDeed σ a x y = 2 := by rw [cdDeed, if_pos h1, if_neg z]
      have := hq.2 (by omega)
      rw [e] at this; exact this
    rw [c.2.2.1.1]
    refine ⟨fun z => no fun w => absurd z (Int32.not_lt.mpr w.1), fun z => ⟨fun z2 => no fun w => absurd z2 (Int32.not_lt.mpr w.2.1), fun z2 => ⟨fun z3 => ?_, fun z3 => no fun w => z3 w.2.2⟩⟩⟩
    have e : cdDeed σ a x y = 0 := by rw [cdDeed, if_pos h1, if_pos ⟨Int32.not_lt.mp z, Int32.not_lt.mp z2, z3⟩]
    have fin := hq.1 e
    rw [nxDeed, vDeed] at fin
    obtain ⟨p, hp, ep⟩ := isN_t (by omega) h1
    subst ep
    refine ok_add (by omega) hS V c.1 c.2.1 c.2.2.1.1 hp (fun z4 => ?_) fun z4 g f cd => ?_
    · rw [if_neg (fun w => absurd w.2 (by omega)), if_neg (by omega)] at fin
      exact fin h (KL.rf hS) c
    · rw [if_pos ⟨e, z4⟩, if_pos z4] at fin
      exact fin g (f.kl hS) (CS_add c f cd)
  · have e : cdDeed σ a x y = 1 := by rw [cdDeed, h1]; rfl
    have := hq.2 (by omega)
    rw [e] at this; exact this
theorem ok_isHour (hd : 2 ≤ d) (hS : Std h.2.2) (hq : F (bI (isW x 0 99999)) h) : OKi d mX12_isHour [.int x] h F X :=
  enX12_isHour _ hd hS (ok_isWM (a := 0) (b := 99999) rfl rfl (by omega) hS ⟨bI_01 _, hq⟩)
theorem ok_deedM (hd : 5 ≤ d) (hS : Std h.2.2) (V : VS σ) (N : VN σ) (m : MA σ h) (hq : MW h (nxDeed σ a x y) (cdDeed σ a x y) (vDeed σ) F) : OKi d mX12_deed [.ref 91, .int a, .int x, .int y] h F X := by
  have hP := V.p.2
  have hD := V.d.2
  have kk : Kp scm h (hI h 91 0 0) := k0 (Kp.rf hS)
  have mk := m.km kk
  have no : ∀ n : Nat, cdDeed σ a x y = n → n ≠ 0 → MW h σ n (vDeed σ) F := fun n e hn => by
    have := hq
    rw [nxDeed, if_neg (fun w => absurd w.1 (by omega)), e] at this; exact this
  refine OKi.up hd (oki_of 4 (by decide +kernel) (Nat.le_of_ble_eq_true rfl) (sgX12_deed_0 _ _ _ (Nat.le_of_ble_eq_true rfl) hS (ok_isPlaceM (by omega) kk.1 V mk.mc ⟨fun z => ok_failsW (n := 1) (by omega) kk m (by decide) (no 1 (by rw [cdDeed, bI_0.mp z]; rfl) (by decide)), fun z => ?_⟩)))
  have h1 := bI_n0.mp z
  have n2 : ¬ (0 ≤ x ∧ x ≤ y ∧ y ≤ σ.1 91 1) → cdDeed σ a x y = 2 := fun z => by rw [cdDeed, if_pos h1, if_neg z]
  refine ok_isHour (by omega) kk.1 ⟨fun z2 => ok_failsW (n := 2) (by omega) kk m (by decide) (no 2 (n2 fun w => ?_) (by decide)), fun z2 => ok_isWM (a := x) (b := σ.1 91 1) rfl (by rw [mk.i 91 1]) (by omega) kk.1 ⟨fun z3 => ok_failsW (n := 2) (by omega) kk m (by decide) (no 2 (n2 fun w => ?_) (by decide)), fun z3 => ?_⟩⟩
  · obtain ⟨f, t, l1, l2, ef, et⟩ := okH_n N w
    have := bI_0.mp z2
    rw [isW, ef, lit_nI 99999, decide_eq_true (nI_ge0 (by omega)), decide_eq_true (nI_le (b := 99999) (by omega) (by omega))] at this
    cases this
  · have := bI_0.mp z3
    rw [isW, decide_eq_true w.2.1, decide_eq_true w.2.2] at this
    cases this
  · have e : cdDeed σ a x y = 0 := by
      have a1 := bI_n0.mp z2
      have a2 := bI_n0.mp z3
      simp only [isW, Bool.and_eq_true, decide_eq_true_eq] at a1 a2
      rw [cdDeed, if_pos h1, if_pos ⟨a1.1, a2.1, a2.2⟩]
    have fin := hq
    rw [nxDeed, vDeed, e] at fin
    rw [mk.i 91 6, mk.i 91 1, V.d.1, lit_nI 60, nI_eq (b := 60) (by omega) (by omega)]
    refine ⟨fun z4 => ?_, fun z4 => ?_⟩
    · rw [if_neg (fun w => absurd w.2 (by omega)), if_neg (by omega)] at fin
      exact fin _ _ kk.m mk hI_k fun _ => rfl
    · have h60 : nD σ < 60 := by omega
      rw [if_pos ⟨rfl, h60⟩, if_pos h60] at fin
      rw [nI_clamp (by omega), nI_1, nI_m1]
      refine ⟨vin h60, vin h60, vin h60, vin h60, vin h60, vin h60, fin _ _ (kk.m.tr (Fr.m (L := [98, 99, 100, 101, 102, 103]) (fs := [(91, 6)]) (Fr.tr (Fr.tr (Fr.tr (Fr.tr (Fr.tr (Fr.tr Fr.pI Fr.pI) Fr.pI) Fr.pI) Fr.pI) Fr.pI) Fr.pI) kk.1)) (((((((mk.hI _ _ _).hI _ _ _).hI _ _ _).hI _ _ _).hI _ _ _).hI _ _ _).hI _ _ _) ?_ fun _ => rfl⟩
      rw [hI_j (by decide), hI_c (by decide), hI_c (by decide), hI_c (by decide), hI_c (by decide), hI_c (by decide), hI_c (by decide), hI_k]; rfl
end OPSL
