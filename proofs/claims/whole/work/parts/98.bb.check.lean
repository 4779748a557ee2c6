/-! check -/
section CHECK
variable {σ h : Hp} {d : Nat} {X : String → Hp → Prop} {F : Int32 → Hp → Prop} {t : Int32} {x : Int64} {late : Bool}
abbrev CST : Type := Option Int32 × Nat
def ckS (m : Nat) (N : Nat → Int64) (W : Nat → Nat → Int32) (s : CST) (i j : Nat) : CST := match s.1 with
  | some _ => s
  | none => if s.2 < m then (if N s.2 = (W i j).toInt64 then (none, s.2 + 1) else (some (nI s.2), s.2)) else (some (-3 - nI m), s.2)
def ckR (m : Nat) (N : Nat → Int64) (W : Nat → Nat → Int32) (s : CST) (i : Nat) : Nat → CST
  | 0 => s
  | j + 1 => if i < j then ckS m N W (ckR m N W s i j) i j else ckR m N W s i j
def ckA (m n : Nat) (N : Nat → Int64) (W : Nat → Nat → Int32) : Nat → CST
  | 0 => (none, 0)
  | i + 1 => ckR m N W (ckA m n N W i) i n
def ckF (s : CST) : Int32 := match s.1 with
  | some r => r
  | none => -1
section CKS
variable {m n : Nat} {N : Nat → Int64} {W : Nat → Nat → Int32}
theorem ckS_some {s : CST} {r : Int32} {i j : Nat} (h : s.1 = some r) : ckS m N W s i j = s := by rw [ckS, h]
theorem ckR_some {s : CST} {r : Int32} {i : Nat} (h : s.1 = some r) : ∀ j, ckR m N W s i j = s
  | 0 => rfl
  | j + 1 => by
    rw [ckR, ckR_some h j]
    split
    · exact ckS_some h
    · rfl
theorem ckR_up {s : CST} {r : Int32} {i : Nat} : ∀ {j : Nat} (k : Nat), (ckR m N W s i j).1 = some r → ckR m N W s i (j + k) = ckR m N W s i j
  | _, 0, _ => rfl
  | j, k + 1, h => by
    have ih := ckR_up k h
    show ckR m N W s i (j + k + 1) = _
    rw [ckR, ih]
    split
    · exact ckS_some h
    · rfl
theorem ckA_up {r : Int32} : ∀ {i : Nat} (k : Nat), (ckA m n N W i).1 = some r → ckA m n N W (i + k) = ckA m n N W i
  | _, 0, _ => rfl
  | i, k + 1, h => by
    have ih := ckA_up k h
    show ckA m n N W (i + k + 1) = _
    rw [ckA, ih]
    exact ckR_some h n
theorem ckR_lo {s : CST} {i : Nat} : ∀ j, j ≤ i + 1 → ckR m N W s i j = s
  | 0, _ => rfl
  | j + 1, h => by
    rw [ckR, if_neg (by omega)]
    exact ckR_lo j (by omega)
/-- a pair at which it ends -/
theorem ck_end {i j : Nat} {r : Int32} (hi : i < n) (hj : j ≤ n) (h : (ckR m N W (ckA m n N W i) i j).1 = some r) : ckF (ckA m n N W n) = r := by
  have e1 := ckR_up (n - j) h
  rw [show j + (n - j) = n by omega] at e1
  have e2 : (ckA m n N W (i + 1)).1 = some r := by rw [ckA, e1]; exact h
  have e3 := ckA_up (n - (i + 1)) e2
  rw [show i + 1 + (n - (i + 1)) = n by omega] at e3
  rw [e3, ckF, e2]
theorem ckS_le {s : CST} {i j : Nat} (h : s.2 ≤ m) : (ckS m N W s i j).2 ≤ m := by
  rw [ckS]
  cases s.1 with
  | some r => exact h
  | none =>
    show (if s.2 < m then (if N s.2 = (W i j).toInt64 then ((none, s.2 + 1) : CST) else (some (nI s.2), s.2)) else (some (-3 - nI m), s.2)).2 ≤ m
    split
    · split
      · next q _ => exact q
      · exact h
    · exact h
theorem ckR_le {s : CST} {i : Nat} (h : s.2 ≤ m) : ∀ j, (ckR m N W s i j).2 ≤ m
  | 0 => h
  | j + 1 => by
    rw [ckR]; split
    · exact ckS_le (ckR_le h j)
    · exact ckR_le h j
theorem ckA_le : ∀ i, (ckA m n N W i).2 ≤ m
  | 0 => Nat.zero_le _
  | i + 1 => ckR_le (ckA_le i) n
end CKS
def ckM (σ : Hp) (t : Nat) : Nat := (σ.1 144 t).toNatClampNeg
def ckN (σ : Hp) (t k : Nat) : Int64 := σ.2.1 145 (40 * t + k)
def ckW (σ : Hp) (late : Bool) (x : Int64) (i j : Nat) : Int32 := pwv σ (wS σ late) (wS σ late) (mbf x i) (mbf x j)
def vCheck (σ : Hp) (late : Bool) (x : Int64) (t : Int32) : Int32 := if σ.1 143 t.toNatClampNeg = -1 then -2 else ckF (ckA (ckM σ t.toNatClampNeg) (cntb x) (ckN σ t.toNatClampNeg) (ckW σ late x) (cntb x))
theorem ok_firstC {i l : Nat} (hd : 6 ≤ d) (hS : Std h.2.2) (V : VS σ) (c : CS σ h) (cy : CYt σ h) (g : GS σ x 2 9) (hi : i < 4) (hl : l ≤ 40) (hm : h.1 86 i = nI l) (hq : ∀ q, Kp scr h q → F (ckF (ckA l (cntb x) (ckN σ i) (ckW σ late x) (cntb x))) q) :
    OKi d mX11_firstThatDiffers [.ref 0, .long x, .ref (SR late), .int (nI i)] h F X := by
  have hD := V.d.2
  have sh := SR_ok late
  have xs : ∀ k, hb x k = true → k < nD σ := fun k hk => (stn_al (g.1 k hk)).2
  have ec := cntb_to (σ := σ) hD fun k hk => by
    cases e : hb x k
    · rfl
    · have := xs k e; omega
  refine enX11_firstThatDiffers sh _ _ hd hS (ok_layC (w := wS σ late) sh (by omega) hS V c.1 (c.mk V) (c.sr late) fun q1 f1 L1 => ?_)
  have k1 : Kp scr h q1 := kc_R sh hS f1
  have inner : ∀ (a : Nat), a < nD σ → (∀ q, Kp scr h q → LK σ (wS σ late) (SR late) q → (ckA l (cntb x) (ckN σ i) (ckW σ late x) (fb_ct (hb x) (a + 1))).1 = none → E mX11_firstThatDiffers 5 0 0 14 [(0, .ref 0), (1, .long x), (3, .ref (SR late)), (4, .int (nI i)), (5, .int (nI (ckA l (cntb x) (ckN σ i) (ckW σ late x) (fb_ct (hb x) (a + 1))).2)), (6, .int (nI (a + 1)))] [] q (Qi F) X) →
      ∀ (n b : Nat) (q : Hp), b + n = nD σ → a < b → Kp scr h q → LK σ (wS σ late) (SR late) q →
      ∀ s : CST, s = (if hb x a = true then ckR l (ckN σ i) (ckW σ late x) (ckA l (cntb x) (ckN σ i) (ckW σ late x) (fb_ct (hb x) a)) (fb_ct (hb x) a) (fb_ct (hb x) b) else ckA l (cntb x) (ckN σ i) (ckW σ late x) (fb_ct (hb x) a)) → s.1 = none →
      E mX11_firstThatDiffers 5 0 0 32 [(0, .ref 0), (1, .long x), (3, .ref (SR late)), (4, .int (nI i)), (5, .int (nI s.2)), (6, .int (nI a)), (7, .int (nI b))] [] q (Qi F) X := by
    intro a ha nx n
    induction n with
    | zero =>
      intro b q e hab k L s hs h0
      have : b = nD σ := by omega
      subst this
      have ck := c.kc k
      have es : ckA l (cntb x) (ckN σ i) (ckW σ late x) (fb_ct (hb x) (a + 1)) = s := by
        rw [hs, fb_ct_succ]
        by_cases z : hb x a = true
        · rw [if_pos z, if_pos z, ckA, ec]
        · rw [if_neg z, if_neg z, Nat.add_zero]
      rw [es] at nx
      refine sgX11_firstThatDiffers_32 sh _ _ _ _ _ (Nat.le_refl _) k.1 ⟨fun _ => ?_, fun z => absurd (by rw [ck.n]; exact Int32.le_refl _) z⟩
      rw [nI_1]
      exact nx q k L h0
    | succ n ih =>
      intro b q e hab k L s hs h0
      have hb' : b < nD σ := by omega
      have ck := c.kc k
      have cq : CYt σ q := ⟨fun j hj => by rw [k.i 86 j, k.i 87 j]; exact cy.1 j hj, fun j hj => by rw [k.l 88 j]; exact cy.2 j hj⟩
      have nxs := fun q2 k2 L2 => ih (b + 1) q2 (by omega) (by omega) k2 L2
      have skip : (hb x a && hb x b) = false → ∀ q2, Kp scr h q2 → LK σ (wS σ late) (SR late) q2 → E mX11_firstThatDiffers 5 0 0 32 [(0, .ref 0), (1, .long x), (3, .ref (SR late)), (4, .int (nI i)), (5, .int (nI s.2)), (6, .int (nI a)), (7, .int (nI (b + 1)))] [] q2 (Qi F) X := fun hz q2 k2 L2 => by
        refine nxs q2 k2 L2 s ?_ h0
        rw [hs, fb_ct_succ]
        by_cases z : hb x a = true
        · rw [z, Bool.true_and] at hz
          rw [if_pos z, if_pos z, hz, if_neg (by decide), Nat.add_zero]
        · rw [if_neg z, if_neg z]
      refine sgX11_firstThatDiffers_32 sh _ _ _ _ _ (Nat.le_refl _) k.1 ⟨fun z => absurd z (by rw [ck.n]; exact nI_ge hb' (by omega)), fun _ => ok_has (by omega) k.1 (by omega) ⟨fun z => ?_, fun z => ok_has (by omega) k.1 (by omega) ⟨fun z2 => ?_, fun z2 => ?_⟩⟩⟩
      · rw [nI_1]
        exact skip (by rw [bI_0.mp z]; rfl) q k L
      · rw [nI_1]
        exact skip (by rw [bI_0.mp z2, Bool.and_false]) q k L
      · have za := bI_n0.mp z
        have zb := bI_n0.mp z2
        have ea := mbf_at za
        have eb := mbf_at zb
        have cab : fb_ct (hb x) a < fb_ct (hb x) b := by
          have := fb_ct_mono (hb x) (m := a + 1) (n := b) (by omega)
          rw [fb_ct_succ, za, if_pos rfl] at this
          exact this
        have cb : fb_ct (hb x) b < cntb x := by
          have := fb_ct_mono (hb x) (m := b + 1) (n := nD σ) (by omega)
          rw [fb_ct_succ, zb, if_pos rfl, ← ec] at this
          exact this
        rw [if_pos za] at hs
        have sle : s.2 ≤ l := by rw [hs]; exact ckR_le (ckA_le _) _
        have nxt : ckR l (ckN σ i) (ckW σ late x) (ckA l (cntb x) (ckN σ i) (ckW σ late x) (fb_ct (hb x) a)) (fb_ct (hb x) a) (fb_ct (hb x) (b + 1)) = ckS l (ckN σ i) (ckW σ late x) s (fb_ct (hb x) a) (fb_ct (hb x) b) := by
          rw [fb_ct_succ, zb, if_pos rfl, ckR, if_pos cab, ← hs]
        have fin : ∀ r, (ckS l (ckN σ i) (ckW σ late x) s (fb_ct (hb x) a) (fb_ct (hb x) b)).1 = some r → ∀ q2, Kp scr h q2 → F r q2 := fun r hr q2 k2 => by
          rw [← nxt] at hr
          have ct1 : fb_ct (hb x) (b + 1) ≤ cntb x := by rw [fb_ct_succ, zb, if_pos rfl]; exact cb
          have := ck_end (by omega) ct1 hr
          have := hq q2 k2
          rw [‹ckF _ = r›] at this
          exact this
        rw [nI_clamp (by omega), k.i 86 i, hm, nI_ltI (by omega) (by omega), nI_1, nI_1]
        refine ⟨vin (by omega), fun w => ok_atC (by omega) k.1 cq hi (by omega) (ok_pairWorth (u := wS σ late) sh sh (by omega) k.1 V ck.n (ck.mk V) L (ck.sr late) (wS_03 V late) (by omega) (by omega) fun q2 f2 L2 => ?_), fun w => ?_⟩
        · have k2 := k.tr (f2.kc k.1)
          have eW : ckW σ late x (fb_ct (hb x) a) (fb_ct (hb x) b) = pwv σ (wS σ late) (wS σ late) a b := by rw [ckW, ea, eb]
          have eN : ckN σ i s.2 = σ.2.1 145 (40 * i + s.2) := rfl
          refine ⟨fun w2 => ?_, fun w2 => ?_⟩
          · have es : ckS l (ckN σ i) (ckW σ late x) s (fb_ct (hb x) a) (fb_ct (hb x) b) = (none, s.2 + 1) := by
              rw [ckS, h0]
              show (if s.2 < l then (if ckN σ i s.2 = (ckW σ late x (fb_ct (hb x) a) (fb_ct (hb x) b)).toInt64 then ((none, s.2 + 1) : CST) else (some (nI s.2), s.2)) else (some (-3 - nI l), s.2)) = (none, s.2 + 1)
              rw [if_pos w, eW, eN, if_pos w2]
            exact nxs q2 k2 L2 (none, s.2 + 1) (by rw [if_pos za, nxt, es]) rfl
          · refine fin _ ?_ q2 k2
            rw [ckS, h0]
            show (if s.2 < l then (if ckN σ i s.2 = (ckW σ late x (fb_ct (hb x) a) (fb_ct (hb x) b)).toInt64 then ((none, s.2 + 1) : CST) else (some (nI s.2), s.2)) else (some (-3 - nI l), s.2)).1 = some (nI s.2)
            rw [if_pos w, eW, eN, if_neg w2]
        · have e2 : s.2 = l := by omega
          rw [e2]
          refine fin _ ?_ q k
          rw [ckS, h0]
          show (if s.2 < l then (if ckN σ i s.2 = (ckW σ late x (fb_ct (hb x) a) (fb_ct (hb x) b)).toInt64 then ((none, s.2 + 1) : CST) else (some (nI s.2), s.2)) else (some (-3 - nI l), s.2)).1 = some ((-3 : Int32) - nI l)
          rw [if_neg w]
  have go : ∀ (n a : Nat) (q : Hp), a + n = nD σ → Kp scr h q → LK σ (wS σ late) (SR late) q → (ckA l (cntb x) (ckN σ i) (ckW σ late x) (fb_ct (hb x) a)).1 = none →
      E mX11_firstThatDiffers 5 0 0 14 [(0, .ref 0), (1, .long x), (3, .ref (SR late)), (4, .int (nI i)), (5, .int (nI (ckA l (cntb x) (ckN σ i) (ckW σ late x) (fb_ct (hb x) a)).2)), (6, .int (nI a))] [] q (Qi F) X := by
    intro n
    induction n with
    | zero =>
      intro a q e k L h0
      have : a = nD σ := by omega
      subst this
      have fin := hq q k
      rw [← ec] at h0
      rw [ckF, h0] at fin
      exact sgX11_firstThatDiffers_14 sh _ _ _ _ (Nat.le_refl _) k.1 ⟨fun _ => fin, fun z => absurd (by rw [(c.kc k).n]; exact Int32.le_refl _) z⟩
    | succ n ih =>
      intro a q e k L h0
      have ha : a < nD σ := by omega
      refine sgX11_firstThatDiffers_14 sh _ _ _ _ (Nat.le_refl _) k.1 ⟨fun z => absurd z (by rw [(c.kc k).n]; exact nI_ge ha (by omega)), fun _ => ?_⟩
      rw [nI_1]
      refine inner a ha (fun q2 k2 L2 h2 => ih (a + 1) q2 (by omega) k2 L2 h2) (nD σ - (a + 1)) (a + 1) q (by omega) (by omega) k L _ ?_ h0
      by_cases z : hb x a = true
      · rw [if_pos z, fb_ct_succ, if_pos z, ckR_lo _ (Nat.le_refl _)]
      · rw [if_neg z]
  exact go (nD σ) 0 q1 (Nat.zero_add _) k1 L1 rfl
theorem ok_checkC (hd : 8 ≤ d) (hS : Std h.2.2) (V : VS σ) (Y : VYt σ) (c : CS σ h) (cy : CYt σ h) (h0 : isN t 4 = true → GS σ x 2 9 → ∀ q, Kp scr h q → F (vCheck σ late x t) q) (h1 : isN t 4 = false → X nse h) (h2 : isN t 4 = true → ¬ GS σ x 2 9 → X iae h) :
    OKi d mX11_check [.ref 0, .long x, .int (bI late), .int t] h F X := by
  refine enX11_check _ _ _ hd hS (ok_needTray (by omega) hS (fun ht => ok_needSet (l := 2) (m := 9) (by omega) hS V c.1 (by decide) (by decide) (fun g => ?_) (h2 ht)) h1)
  have fin := h0 ht g
  obtain ⟨i, hi, ei⟩ := isN_t (by decide) ht
  subst ei
  rw [vCheck, nI_clamp (by omega)] at fin
  rw [nI_clamp (by omega)]
  obtain ⟨z1, z2⟩ | ⟨z1, z2, z3⟩ := cy.1 i hi
  · rw [if_pos z1] at fin
    exact ⟨vin (by omega), fun _ => fin h (Kp.rf hS), fun w => absurd z2 w⟩
  · obtain w | ⟨k, l, hk, hl, ek, el⟩ := Y i hi
    · exact absurd w z1
    · rw [if_neg z1, ckM, el, nI_clamp (by omega)] at fin
      rw [z2, el]
      exact ⟨vin (by omega), fun w => absurd w (nI_neg (by omega)), fun _ => ok_sheet (by omega) hS ⟨SR_ok late, ok_firstC (by omega) hS V c cy g hi hl (by rw [z2, el]) fin⟩⟩
theorem ok_checkM (hd : 9 ≤ d) (hS : Std h.2.2) (V : VS σ) (Y : VYt σ) (ma : MA σ h) (ak : h.1 91 36 = -1) (h0 : isN t 4 = true → GS σ x 2 9 → ∀ q, Kp scm h q → q.1 91 0 = 0 → F (vCheck σ late x t) q) (h1 : isN t 4 = false → ∀ q r, Kp scm h q → q.1 91 0 = 1 → F r q) (h2 : isN t 4 = true → ¬ GS σ x 2 9 → ∀ q r, Kp scm h q → q.1 91 0 = 2 → F r q) :
    OKi d mX12_check [.ref 91, .long x, .int (bI late), .int t] h F X := by
  have hD := V.d.2
  have kk : Kp scm h (hI h 91 0 0) := k0 (Kp.rf hS)
  have mk := ma.km kk
  refine OKi.up hd (oki_of 8 (by decide +kernel) (Nat.le_of_ble_eq_true rfl) (sgX12_check_0 _ _ _ (Nat.le_of_ble_eq_true rfl) hS (ok_isTray (by omega) kk.1 ⟨fun z => ok_fails (by omega) kk.1 fun q f e0 => h1 (bI_0.mp z) q _ (kk.tr (f.km kk.1)) e0, fun z => ?_⟩)))
  have ht := bI_n0.mp z
  obtain ⟨i, hi, ei⟩ := isN_t (by decide) ht
  subst ei
  refine ok_gathers (l := 2) (m := 9) (by omega) kk.1 V mk.mc (by decide) (by decide) (fun g q1 f1 e42 I1 => ⟨fun w => absurd w (by decide), fun _ => ?_⟩) fun g q1 f1 => ⟨fun _ => ok_fails (by omega) (f1.sd kk.1) fun q f e0 => h2 ht g q _ ((kk.tr (f1.km kk.1)).tr (f.km (f1.sd kk.1))) e0, fun w => absurd rfl w⟩
  have k1 := kk.tr (f1.km kk.1)
  have m1 := ma.km k1
  have fin := h0 ht g
  rw [vCheck, nI_clamp (by omega)] at fin
  have e01 : q1.1 91 0 = 0 := by rw [f1.i 91 0, hI_k]
  rw [nI_clamp (by omega), m1.i 143]
  have c9 := g.2.2
  have xs : ∀ k, hb x k = true → k < nD σ := fun k hk => (stn_al (g.1 k hk)).2
  refine ⟨vin (by omega), fun w => ?_, fun z1 => ?_⟩
  · rw [if_pos w] at fin
    exact fin q1 k1 e01
  obtain w | ⟨k, l, hk, hl, ek, el⟩ := Y i hi
  · exact absurd w z1
  rw [if_neg z1, ckM, el, nI_clamp (by omega)] at fin
  refine ok_layM (w := wS σ late) (by omega) k1.1 V m1.mc (asked_no (by rw [f1.i 91 36, hI_j (by decide)]; exact ak)) fun q2 f2 R2 => ?_
  have k2 := k1.tr (f2.km k1.1)
  have m2 := ma.km k2
  have e02 : q2.1 91 0 = 0 := by rw [f2.i 91 0, e01]
  have fin := fin q2 k2 e02
  have e422 : q2.1 91 42 = nI (cntb x) := by rw [f2.i 91 42]; exact e42
  have I2 : ∀ j, j < cntb x → q2.1 120 j = nI (mbf x j) := fun j hj => by rw [f2.i 120 j]; exact I1 j hj
  have mlt : ∀ j, j < cntb x → mbf x j < nD σ := fun j hj => xs _ (mbf_in hj).1
  have inner : ∀ a, a < cntb x → ((ckA l (cntb x) (ckN σ i) (ckW σ late x) (a + 1)).1 = none → E mX12_check 8 0 0 61 [(0, .ref 91), (4, .int (nI i)), (5, .int (nI (ckA l (cntb x) (ckN σ i) (ckW σ late x) (a + 1)).2)), (6, .int (nI (a + 1)))] [] q2 (Qi F) X) →
      ∀ n b : Nat, b + n = cntb x → a < b → ∀ s : CST, s = ckR l (ckN σ i) (ckW σ late x) (ckA l (cntb x) (ckN σ i) (ckW σ late x) a) a b → s.1 = none →
      E mX12_check 8 0 0 76 [(0, .ref 91), (4, .int (nI i)), (5, .int (nI s.2)), (6, .int (nI a)), (7, .int (nI b))] [] q2 (Qi F) X := by
    intro a ha nx n
    induction n with
    | zero =>
      intro b e hab s hs h0
      have : b = cntb x := by omega
      subst this
      rw [ckA, ← hs] at nx
      refine sgX12_check_76 _ _ _ _ (Nat.le_of_ble_eq_true rfl) k2.1 ⟨fun _ => ?_, fun w => absurd (by rw [e422]; exact Int32.le_refl _) w⟩
      rw [nI_1]
      exact nx h0
    | succ n ih =>
      intro b e hab s hs h0
      have hb' : b < cntb x := by omega
      have sle : s.2 ≤ l := by rw [hs]; exact ckR_le (ckA_le _) _
      have nxt : ckR l (ckN σ i) (ckW σ late x) (ckA l (cntb x) (ckN σ i) (ckW σ late x) a) a (b + 1) = ckS l (ckN σ i) (ckW σ late x) s a b := by rw [ckR, if_pos hab, ← hs]
      have fin2 : ∀ r, (ckS l (ckN σ i) (ckW σ late x) s a b).1 = some r → F r q2 := fun r hr => by
        rw [← nxt] at hr
        have e5 := ck_end ha (show b + 1 ≤ cntb x by omega) hr
        have := fin
        rw [e5] at this
        exact this
      refine sgX12_check_76 _ _ _ _ (Nat.le_of_ble_eq_true rfl) k2.1 ⟨fun w => absurd w (by rw [e422]; exact nI_ge hb' (by omega)), fun _ => ?_⟩
      rw [nI_clamp (by omega), m2.i 144, el, nI_ltI (by omega) (by omega), lit_40, nI_clamp (by omega), nI_clamp (by omega), nI_clamp (by omega), I2 a ha, I2 b hb', m2.l 145, nI_1, nI_1]
      refine ⟨vin (by omega), fun w => ⟨vin (by omega), vin (by omega), vin (by omega), ok_worthOfM (by omega) k2.1 V (by rw [m2.i 91 3, V.m.1]) R2 (mlt a ha) (mlt b hb') ⟨fun w2 => ?_, fun w2 => ?_⟩⟩, fun w => ⟨vin (by omega), ?_⟩⟩
      · have es : ckS l (ckN σ i) (ckW σ late x) s a b = (none, s.2 + 1) := by
          rw [ckS, h0]
          show (if s.2 < l then (if ckN σ i s.2 = (ckW σ late x a b).toInt64 then ((none, s.2 + 1) : CST) else (some (nI s.2), s.2)) else (some (-3 - nI l), s.2)) = (none, s.2 + 1)
          rw [if_pos w, ckN, ckW, if_pos w2]
        exact ih (b + 1) (by omega) (by omega) (none, s.2 + 1) (by rw [nxt, es]) rfl
      · refine fin2 _ ?_
        rw [ckS, h0]
        show (if s.2 < l then (if ckN σ i s.2 = (ckW σ late x a b).toInt64 then ((none, s.2 + 1) : CST) else (some (nI s.2), s.2)) else (some (-3 - nI l), s.2)).1 = some (nI s.2)
        rw [if_pos w, ckN, ckW, if_neg w2]
      · refine fin2 _ ?_
        rw [ckS, h0]
        show (if s.2 < l then (if ckN σ i s.2 = (ckW σ late x a b).toInt64 then ((none, s.2 + 1) : CST) else (some (nI s.2), s.2)) else (some (-3 - nI l), s.2)).1 = some ((-3 : Int32) - nI l)
        rw [if_neg w]
  have go : ∀ n a : Nat, a + n = cntb x → (ckA l (cntb x) (ckN σ i) (ckW σ late x) a).1 = none → E mX12_check 8 0 0 61 [(0, .ref 91), (4, .int (nI i)), (5, .int (nI (ckA l (cntb x) (ckN σ i) (ckW σ late x) a).2)), (6, .int (nI a))] [] q2 (Qi F) X := by
    intro n
    induction n with
    | zero =>
      intro a e h0
      have : a = cntb x := by omega
      subst this
      have fin := fin
      rw [ckF, h0] at fin
      exact sgX12_check_61 _ _ _ (Nat.le_of_ble_eq_true rfl) k2.1 ⟨fun _ => fin, fun w => absurd (by rw [e422]; exact Int32.le_refl _) w⟩
    | succ n ih =>
      intro a e h0
      have ha : a < cntb x := by omega
      refine sgX12_check_61 _ _ _ (Nat.le_of_ble_eq_true rfl) k2.1 ⟨fun w => absurd w (by rw [e422]; exact nI_ge ha (by omega)), fun _ => ?_⟩
      rw [nI_1]
      exact inner a ha (fun h2 => ih (a + 1) (by omega) h2) (cntb x - (a + 1)) (a + 1) (by omega) (by omega) _ (ckR_lo _ (Nat.le_refl _)).symm h0
  exact go (cntb x) 0 (Nat.zero_add _) rfl
end CHECK
