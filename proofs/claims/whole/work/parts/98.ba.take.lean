/-! take -/
section TAKE
variable {σ h : Hp} {d : Nat} {X : String → Hp → Prop} {F : Int32 → Hp → Prop} {x y a t : Int32}
def w3 (v : Int64) : Bool := decide (0 ≤ v ∧ v ≤ 3)
def allW (σ : Hp) (t : Nat) : Nat → Bool
  | 0 => true
  | k + 1 => allW σ t k && w3 (σ.2.1 145 (40 * t + k))
theorem allW_lo {t k n : Nat} (h : allW σ t n = true) : k < n → w3 (σ.2.1 145 (40 * t + k)) = true := by
  induction n with
  | zero => intro hk; omega
  | succ n ih =>
    intro hk
    simp only [allW, Bool.and_eq_true] at h
    by_cases q : k = n
    · rw [q]; exact h.2
    · exact ih h.1 (by omega)
theorem allW_no {t k n : Nat} (hk : k < n) (h : w3 (σ.2.1 145 (40 * t + k)) = false) : allW σ t n = false := by
  cases e : allW σ t n
  · rfl
  · rw [allW_lo e hk] at h; cases h
theorem w3_s {v : Int64} (h : w3 v = true) : S03 v.toInt32 := by
  simp only [w3, decide_eq_true_eq] at h
  obtain ⟨h1, h2⟩ := h
  rw [fa_le64] at h1 h2
  have z0 : (0 : Int64).toInt = 0 := by decide
  have z3 : (3 : Int64).toInt = 3 := by decide
  have c : v.toInt = 0 ∨ v.toInt = 1 ∨ v.toInt = 2 ∨ v.toInt = 3 := by omega
  obtain c | c | c | c := c
  · have : v = 0 := (fa_eq64 _ _).mpr (by rw [c]; rfl)
    rw [this]; exact Or.inl rfl
  · have : v = 1 := (fa_eq64 _ _).mpr (by rw [c]; rfl)
    rw [this]; exact Or.inr (Or.inl rfl)
  · have : v = 2 := (fa_eq64 _ _).mpr (by rw [c]; rfl)
    rw [this]; exact Or.inr (Or.inr (Or.inl rfl))
  · have : v = 3 := (fa_eq64 _ _).mpr (by rw [c]; rfl)
    rw [this]; exact Or.inr (Or.inr (Or.inr rfl))
def tkM (σ : Hp) (t : Int32) : Nat := (σ.1 144 t.toNatClampNeg).toNatClampNeg
def cdTake (σ : Hp) (t a : Int32) : Nat := if isN t 4 = true ∧ isD σ a = true then (if σ.1 143 t.toNatClampNeg = -1 then 2 else if tkM σ t ≤ nM σ ∧ allW σ t.toNatClampNeg (tkM σ t) = true then 0 else 3) else 1
def stTk (σ : Hp) (t i : Nat) : Nat → Hp
  | 0 => σ
  | k + 1 => stTell (stTk σ t i k) i k (σ.2.1 145 (40 * t + k)).toInt32
def nxTake (σ : Hp) (t a : Int32) : Hp := if cdTake σ t a = 0 then stTk σ t.toNatClampNeg a.toNatClampNeg (tkM σ t) else σ
def vTake (σ : Hp) (t : Int32) : Int32 := nI (tkM σ t)
theorem stTk_fr {t i : Nat} : ∀ k, Fr [107, 108] [] σ (stTk σ t i k)
  | 0 => Fr.rf
  | k + 1 => (stTk_fr k).tr stTell_fr
theorem stTk_n {t i : Nat} (k : Nat) : nD (stTk σ t i k) = nD σ ∧ nM (stTk σ t i k) = nM σ := by
  have f : Fr [107, 108] [] σ (stTk σ t i k) := stTk_fr k
  exact ⟨by rw [nD, nD, f.i 91 6], by rw [nM, nM, f.i 91 3]⟩
theorem VS_tk {t i : Nat} (V : VS σ) (hi : i < nD σ) {n : Nat} (hn : n ≤ nM σ) (hw : allW σ t n = true) : ∀ k, k ≤ n → VS (stTk σ t i k)
  | 0, _ => V
  | k + 1, hk => by
    have hM := V.m.2
    exact VS_tell (VS_tk V hi hn hw k (by omega)) (by rw [(stTk_n k).1]; exact hi) (by omega) (w3_s (allW_lo hw (by omega)))
theorem cdTake_0 (Y : VYt σ) (e : cdTake σ t a = 0) : isN t 4 = true ∧ isD σ a = true ∧ σ.1 143 t.toNatClampNeg ≠ -1 ∧ tkM σ t ≤ nM σ ∧ allW σ t.toNatClampNeg (tkM σ t) = true := by
  rw [cdTake] at e
  by_cases h1 : isN t 4 = true ∧ isD σ a = true
  · rw [if_pos h1] at e
    by_cases h2 : σ.1 143 t.toNatClampNeg = -1
    · rw [if_pos h2] at e; omega
    · rw [if_neg h2] at e
      by_cases h3 : tkM σ t ≤ nM σ ∧ allW σ t.toNatClampNeg (tkM σ t) = true
      · exact ⟨h1.1, h1.2, h2, h3⟩
      · rw [if_neg h3] at e; omega
  · rw [if_neg h1] at e; omega
theorem VS_nxTake (V : VS σ) (Y : VYt σ) : VS (nxTake σ t a) := by
  have hD := V.d.2
  rw [nxTake]
  by_cases q : cdTake σ t a = 0
  · rw [if_pos q]
    obtain ⟨h1, h2, h3, h4, h5⟩ := cdTake_0 Y q
    obtain ⟨i, _, em, hi⟩ := isD_t V h2
    rw [em, nI_clamp (by omega)]
    exact VS_tk V hi h4 h5 _ (Nat.le_refl _)
  · rw [if_neg q]; exact V
theorem ok_atC {F : Int64 → Hp → Prop} {i k : Nat} (hd : 1 ≤ d) (hS : Std h.2.2) (c : CYt σ h) (hi : i < 4) (hk : k < 40) (hq : F (σ.2.1 145 (40 * i + k)) h) : OKl d mX10_at [.ref 85, .int (nI i), .int (nI k)] h F X := by
  refine enX10_at _ _ hd hS ?_
  rw [Int32.mul_comm, lit_40, nI_clamp (by omega), c.2 _ (by omega)]
  exact ⟨vin (by omega), hq⟩
theorem CYt.fr {q : Hp} {L : List Nat} {fs : List (Nat × Nat)} (c : CYt σ h) (f : Fr L fs h q) (hL : ∀ k, inW L fs 86 k = false ∧ inW L fs 87 k = false ∧ inW L fs 88 k = false := by exact fun _ => ⟨rfl, rfl, rfl⟩) : CYt σ q :=
  ⟨fun i hi => by rw [f.i 86 i (hL i).1, f.i 87 i (hL i).2.1]; exact c.1 i hi, fun j hj => by rw [f.l 88 j (hL j).2.2]; exact c.2 j hj⟩
theorem ok_hasAll {i l : Nat} (hd : 2 ≤ d) (hS : Std h.2.2) (c : CYt σ h) (hi : i < 4) (hm : h.1 86 i = nI l) (hl : l ≤ 40) (hq : F (bI (allW σ i l)) h) : OKi d mX10_hasAllWithin [.ref 85, .int (nI i), .int 0, .int 3] h F X := by
  have go : ∀ n k : Nat, k + n = l → allW σ i k = true → E mX10_hasAllWithin 1 0 0 3 [(0, .ref 85), (1, .int (nI i)), (2, .int 0), (3, .int 3), (4, .int (nI k))] [] h (Qi F) X := by
    intro n
    induction n with
    | zero =>
      intro k e I
      have : k = l := by omega
      subst this
      refine sgX10_hasAllWithin_3 _ _ _ _ (Nat.le_of_ble_eq_true rfl) hS ?_
      rw [nI_clamp (by omega), hm]
      rw [I] at hq
      exact ⟨vin (by omega), fun _ => hq, fun w => absurd (Int32.le_refl _) w⟩
    | succ n ih =>
      intro k e I
      have hkl : k < l := by omega
      refine sgX10_hasAllWithin_3 _ _ _ _ (Nat.le_of_ble_eq_true rfl) hS ?_
      rw [nI_clamp (by omega), hm]
      refine ⟨vin (by omega), fun w => absurd w (nI_ge hkl (by omega)), fun _ => ok_atC (by omega) hS c hi (by omega) (ok_isWithin (by omega) hS ⟨fun w => ?_, fun w => ?_⟩)⟩
      · rw [allW_no hkl (bI_0.mp w)] at hq; exact hq
      · rw [nI_1]
        exact ih (k + 1) (by omega) (by rw [allW, I]; exact bI_n0.mp w)
  exact enX10_hasAllWithin _ _ _ hd hS (go l 0 (Nat.zero_add _) rfl)
theorem ok_takeC (hd : 8 ≤ d) (hS : Std h.2.2) (V : VS σ) (Y : VYt σ) (c : CS σ h) (cy : CYt σ h) (hq : CW h (nxTake σ t a) (cdTake σ t a) (vTake σ t) (t3 nse ise iae) F X) : OKi d mX11_take [.ref 0, .int t, .int a] h F X := by
  have hD := V.d.2
  have hM := V.m.2
  have no : ∀ n : Nat, n ≠ 0 → cdTake σ t a = n → X (t3 nse ise iae n) h := fun n h1 e => by
    have := hq.2 (by omega)
    rw [e] at this; exact this
  refine enX11_take _ _ hd hS (ok_needTray (by omega) hS (fun h1 => ok_needDeed (by omega) hS V c.1 (fun h2 => ?_) fun h2 => no 1 (by decide) (if_neg fun w => absurd w.2 (by rw [h2]; decide))) fun h1 => no 1 (by decide) (if_neg fun w => absurd w.1 (by rw [h1]; decide)))
  obtain ⟨i, hi, ei⟩ := isN_t (by decide) h1
  obtain ⟨j, aj, ej, hj⟩ := isD_t V h2
  subst ei ej
  have e1 : cdTake σ (nI i) (nI j) = (if σ.1 143 i = -1 then 2 else if tkM σ (nI i) ≤ nM σ ∧ allW σ i (tkM σ (nI i)) = true then 0 else 3) := by rw [cdTake, if_pos ⟨h1, h2⟩, nI_clamp (by omega)]
  refine enX11_needLaid _ (by omega) hS ?_
  rw [nI_clamp (by omega)]
  obtain ⟨z1, z2⟩ | ⟨z1, z2, z3⟩ := cy.1 i hi
  · exact ⟨vin (by omega), fun _ => no 2 (by decide) (by rw [e1, if_pos z1]), fun w => absurd z2 w⟩
  · obtain w | ⟨k, l, hk, hl, ek, el⟩ := Y i hi
    · exact absurd w z1
    · have e2 : tkM σ (nI i) = l := by rw [tkM, nI_clamp (by omega), el, nI_clamp (by omega)]
      rw [if_neg z1, e2] at e1
      rw [z2, el, c.mk V, nI_ltI (by omega) (by omega)]
      refine ⟨vin (by omega), fun w => absurd w (nI_neg (by omega)), fun _ => ⟨vin (by omega), fun w => no 3 (by decide) ?_, fun w => ?_⟩⟩
      · rw [e1, if_neg (fun w2 => absurd w2.1 (by omega))]
      · have hlm : l ≤ nM σ := by omega
        have z2' : h.1 86 i = nI l := by rw [z2, el]
        refine ok_hasAll (by omega) hS cy hi z2' (by omega) ⟨fun w2 => no 3 (by decide) ?_, fun w2 => ⟨vin (by omega), ?_⟩⟩
        · rw [e1, if_neg fun w3 => ?_]
          have := bI_0.mp w2
          rw [w3.2] at this; cases this
        · have aw := bI_n0.mp w2
          rw [if_pos ⟨hlm, aw⟩] at e1
          have fin := hq.1 e1
          rw [nxTake, if_pos e1, vTake, e2, nI_clamp (by omega), nI_clamp (by omega)] at fin
          rw [z2, el]
          have go : ∀ (n k : Nat) (q : Hp), k + n = l → Fr [23, 24, 25, 27, 28, 29] [] h q → CS (stTk σ i j k) q → E mX11_take 7 3 18 71 [(0, .ref 0), (1, .int (nI i)), (2, .int (nI j)), (3, .int (nI l)), (4, .int (nI k))] [] q (Qi F) X := by
            intro n
            induction n with
            | zero =>
              intro k q e f cq
              have : k = l := by omega
              subst this
              exact sgX11_take_71k _ _ _ _ (Nat.le_refl _) (f.sd hS) ⟨fun _ => fin q (f.kl hS) cq, fun v => absurd (Int32.le_refl _) v⟩
            | succ n ih =>
              intro k q e f cq
              have hkl : k < l := by omega
              have Vk := VS_tk V hj hlm aw k (by omega)
              have nk := stTk_n (σ := σ) (t := i) (i := j) k
              have fs : Fr [107, 108] [] σ (stTk σ i j k) := stTk_fr k
              refine sgX11_take_71k _ _ _ _ (Nat.le_refl _) (f.sd hS) ⟨fun v => absurd v (nI_ge hkl (by omega)), fun _ => ok_atC (by omega) (f.sd hS) (cy.fr f) hi (by omega) (ok_note (by omega) (f.sd hS) Vk cq (by rw [nk.1]; exact hj) (by rw [nk.2]; omega) (w3_s (allW_lo aw hkl)) fun q2 f2 c2 => ?_)⟩
              rw [nI_1]
              exact ih (k + 1) q2 (by omega) (f.tr f2) c2
          exact go l 0 h (Nat.zero_add _) Fr.rf c
theorem ok_takeM (hd : 6 ≤ d) (hS : Std h.2.2) (V : VS σ) (Y : VYt σ) (ma : MA σ h) (hq : MW h (nxTake σ t a) (cdTake σ t a) (vTake σ t) F) : OKi d mX12_take [.ref 91, .int t, .int a] h F X := by
  have hD := V.d.2
  have hM := V.m.2
  have kk : Kp scm h (hI h 91 0 0) := k0 (Kp.rf hS)
  have mk := ma.km kk
  have no : ∀ n : Nat, n ≠ 0 → cdTake σ t a = n → MW h σ n (vTake σ t) F := fun n hn e => by
    have := hq
    rw [nxTake, if_neg (by omega), e] at this; exact this
  refine OKi.up hd (oki_of 5 (by decide +kernel) (Nat.le_of_ble_eq_true rfl) (sgX12_take_0 _ _ (Nat.le_of_ble_eq_true rfl) hS (ok_isTray (by omega) kk.1 ⟨fun z => ok_failsW (n := 1) (by omega) kk ma (by decide) (no 1 (by decide) (if_neg fun w => absurd w.1 (by rw [bI_0.mp z]; decide))), fun z => ok_isDeedM (by omega) kk.1 V mk.mc ⟨fun z2 => ok_failsW (n := 1) (by omega) kk ma (by decide) (no 1 (by decide) (if_neg fun w => absurd w.2 (by rw [bI_0.mp z2]; decide))), fun z2 => ?_⟩⟩)))
  have h1 := bI_n0.mp z
  have h2 := bI_n0.mp z2
  obtain ⟨i, hi, ei⟩ := isN_t (by decide) h1
  obtain ⟨j, aj, ej, hj⟩ := isD_t V h2
  subst ei ej
  have e1 : cdTake σ (nI i) (nI j) = (if σ.1 143 i = -1 then 2 else if tkM σ (nI i) ≤ nM σ ∧ allW σ i (tkM σ (nI i)) = true then 0 else 3) := by rw [cdTake, if_pos ⟨h1, h2⟩, nI_clamp (by omega)]
  rw [nI_clamp (by omega), mk.i 143]
  refine ⟨vin (by omega), fun w => ok_failsW (n := 2) (by omega) kk ma (by decide) (no 2 (by decide) (by rw [e1, if_pos w])), fun z1 => ⟨vin (by omega), ?_⟩⟩
  obtain w | ⟨k, l, hk, hl, ek, el⟩ := Y i hi
  · exact absurd w z1
  · have e2 : tkM σ (nI i) = l := by rw [tkM, nI_clamp (by omega), el, nI_clamp (by omega)]
    rw [if_neg z1, e2] at e1
    rw [mk.i 144, el, mk.i 91 3, V.m.1, nI_leI (by omega) (by omega)]
    refine ⟨fun hlm => ?_, fun w => ok_failsW (n := 3) (by omega) kk ma (by decide) (no 3 (by decide) (by rw [e1, if_neg (fun w2 => w w2.1)]))⟩
    have l2 : allW σ i l = true → E mX12_take 5 0 0 108 [(0, .ref 91), (1, .int (nI i)), (2, .int (nI j)), (3, .int 0)] [] (hI h 91 0 0) (Qi F) X := fun aw => by
      rw [if_pos ⟨hlm, aw⟩] at e1
      have fin := hq
      rw [nxTake, if_pos e1, vTake, e2, e1, nI_clamp (by omega), nI_clamp (by omega)] at fin
      have go : ∀ (n k : Nat) (q : Hp), k + n = l → Fr [107, 108] [] (hI h 91 0 0) q → MA (stTk σ i j k) q → E mX12_take 5 0 0 108 [(0, .ref 91), (1, .int (nI i)), (2, .int (nI j)), (3, .int (nI k))] [] q (Qi F) X := by
        intro n
        induction n with
        | zero =>
          intro k q e f mq
          have : k = l := by omega
          subst this
          have fs : Fr [107, 108] [] σ (stTk σ i j k) := stTk_fr k
          refine sgX12_take_108 _ _ _ (Nat.le_of_ble_eq_true rfl) (f.sd kk.1) ?_
          rw [nI_clamp (by omega), mq.i 144, fs.i 144, el]
          refine ⟨vin (by omega), fun _ => ⟨vin (by omega), fin q _ (kk.m.tr (f.m kk.1)) mq (by rw [f.i 91 0, hI_k]; rfl) fun _ => rfl⟩, fun v => absurd (Int32.le_refl _) v⟩
        | succ n ih =>
          intro k q e f mq
          have hkl : k < l := by omega
          have Vk := VS_tk V hj hlm aw k (by omega)
          have nk := stTk_n (σ := σ) (t := i) (i := j) k
          have fs : Fr [107, 108] [] σ (stTk σ i j k) := stTk_fr k
          refine sgX12_take_108 _ _ _ (Nat.le_of_ble_eq_true rfl) (f.sd kk.1) ?_
          rw [lit_40, nI_clamp (by omega), nI_clamp (by omega), mq.i 144, fs.i 144, el, mq.l 145, fs.l 145]
          refine ⟨vin (by omega), fun v => absurd v (nI_ge hkl (by omega)), fun _ => ⟨vin (by omega), ok_tells (by omega) (f.sd kk.1) Vk mq (by rw [nk.1]; exact hj) (by rw [nk.2]; omega) (w3_s (allW_lo aw hkl)) fun q2 f2 m2 => ?_⟩⟩
          rw [nI_1]
          exact ih (k + 1) q2 (by omega) (f.tr f2) m2
      exact go l 0 _ (Nat.zero_add _) Fr.rf mk
    have l1 : ∀ n k : Nat, k + n = l → allW σ i k = true → E mX12_take 5 0 0 63 [(0, .ref 91), (1, .int (nI i)), (2, .int (nI j)), (3, .int (nI k))] [] (hI h 91 0 0) (Qi F) X := by
      intro n
      induction n with
      | zero =>
        intro k e I
        have : k = l := by omega
        subst this
        refine sgX12_take_63 _ _ _ (Nat.le_of_ble_eq_true rfl) kk.1 ?_
        rw [nI_clamp (by omega), mk.i 144, el]
        exact ⟨vin (by omega), fun _ => l2 I, fun v => absurd (Int32.le_refl _) v⟩
      | succ n ih =>
        intro k e I
        have hkl : k < l := by omega
        refine sgX12_take_63 _ _ _ (Nat.le_of_ble_eq_true rfl) kk.1 ?_
        rw [lit_40, nI_clamp (by omega), nI_clamp (by omega), mk.i 144, el, mk.l 145]
        refine ⟨vin (by omega), fun v => absurd v (nI_ge hkl (by omega)), fun _ => ⟨vin (by omega), ok_within (by omega) kk.1 ⟨fun w2 => ok_failsW (n := 3) (by omega) kk ma (by decide) (no 3 (by decide) ?_), fun w2 => ?_⟩⟩⟩
        · rw [e1, if_neg fun w3 => ?_]
          have := allW_no (σ := σ) hkl (bI_0.mp w2)
          rw [w3.2] at this; cases this
        · rw [nI_1]
          exact ih (k + 1) (by omega) (by rw [allW, I]; exact bI_n0.mp w2)
    exact l1 l 0 (Nat.zero_add _) rfl
end TAKE
