/-! guess, homes -/
section GUESS
variable {σ h : Hp} {d : Nat} {X : String → Hp → Prop} {P : Nat → Bool} {x : Int64}
theorem absI_n : ∀ x, x < 100 → ∀ y, y < 100 → absI (nI x - nI y) = nI (if x < y then y - x else x - y) := by decide +kernel
def dN (σ : Hp) (p q : Nat) : Nat := (dst σ p q).toNatClampNeg
theorem dst_n (V : VS σ) {a b : Nat} (ha : a < nP σ) (hb' : b < nP σ) : dst σ a b = nI (dN σ a b) ∧ dN σ a b ≤ 198 := by
  obtain ⟨x, y, hx, hy, e1, e2⟩ := V.xy ha
  obtain ⟨x', y', hx', hy', e3, e4⟩ := V.xy hb'
  have e : dst σ a b = nI ((if x < x' then x' - x else x - x') + (if y < y' then y' - y else y - y')) := by
    rw [dst, e1, e2, e3, e4, absI_n x (by omega) x' (by omega), absI_n y (by omega) y' (by omega), nI_add]
  have l : (if x < x' then x' - x else x - x') + (if y < y' then y' - y else y - y') ≤ 198 := by split <;> split <;> omega
  have en : dN σ a b = (if x < x' then x' - x else x - x') + (if y < y' then y' - y else y - y') := by rw [dN, e, nI_clamp (by omega)]
  rw [en]; exact ⟨e, l⟩
/-- distances of the first n of a set from a place, together -/
def gsd (σ : Hp) (P : Nat → Bool) (p n : Nat) : Nat := fb_sm (fun k => if P k = true then dN σ p (plc σ k) else 0) n
def lmin (u : Nat → Nat) : Nat → Nat
  | 0 => 0
  | k + 1 => if u k < u (lmin u k) then k else lmin u k
def gsv (σ : Hp) (P : Nat → Bool) : Nat := lmin (fun p => gsd σ P p (nD σ)) (nP σ)
theorem gsd_s (p n : Nat) : gsd σ P p (n + 1) = gsd σ P p n + (if P n = true then dN σ p (plc σ n) else 0) := rfl
theorem gsd_le (V : VS σ) {p n : Nat} (hp : p < nP σ) (hn : n ≤ nD σ) : gsd σ P p n ≤ 11880 := by
  have hD := V.d.2
  refine Nat.le_trans (fb_sm_bound (c := 198) fun k hk => ?_) (by omega)
  split
  · exact (dst_n V hp (V.de (by omega)).1.2).2
  · omega
theorem lmin_1 (u : Nat → Nat) : lmin u 1 = 0 := by rw [lmin]; split <;> rfl
theorem lmin_lt (u : Nat → Nat) : ∀ k, lmin u (k + 1) ≤ k
  | 0 => by rw [lmin_1]; exact Nat.le_refl _
  | k + 1 => by
    have := lmin_lt u k
    rw [lmin]; split <;> omega
theorem gsv_lt (V : VS σ) (h0 : 0 < nP σ) : gsv σ P < nP σ := by
  obtain ⟨k, e⟩ : ∃ k, nP σ = k + 1 := ⟨nP σ - 1, by omega⟩
  have := lmin_lt (fun p => gsd σ P p (nD σ)) k
  rw [gsv, e]; omega
theorem ok_middle {F : Int32 → Hp → Prop} (hd : 4 ≤ d) (hS : Std h.2.2) (V : VS σ) (c : CS σ h) (hx : ∀ k, hb x k = P k) (hq : F (nI (gsv σ P)) h) : OKi d mX9_middle [.ref 57, .long x] h F X := by
  have hD := V.d.2
  have hP := V.p.2
  have hp1 := c.2.1.1
  have go : ∀ n p : Nat, p + n = nP σ → E mX9_middle 3 0 0 8 [(0, .ref 57), (1, .long x), (3, .int (nI (lmin (fun p => gsd σ P p (nD σ)) p))), (4, .int (if p = 0 then -1 else nI (gsd σ P (lmin (fun p => gsd σ P p (nD σ)) p) (nD σ)))), (5, .int (nI p))] [] h (Qi F) X := by
    intro n
    induction n with
    | zero =>
      intro p e
      have : p = nP σ := by omega
      subst this
      exact sgX9_middle_8 _ _ _ _ (Nat.le_of_ble_eq_true rfl) hS ⟨fun _ => hq, fun z => absurd (by rw [hp1]; exact Int32.le_refl _) z⟩
    | succ n ih =>
      intro p e
      have hp : p < nP σ := by omega
      have nx := ih (p + 1) (by omega)
      rw [if_neg (by omega)] at nx
      have inner : ∀ m k : Nat, k + m = nD σ → E mX9_middle 3 0 0 26 [(0, .ref 57), (1, .long x), (3, .int (nI (lmin (fun p => gsd σ P p (nD σ)) p))), (4, .int (if p = 0 then -1 else nI (gsd σ P (lmin (fun p => gsd σ P p (nD σ)) p) (nD σ)))), (5, .int (nI p)), (6, .int (nI (gsd σ P p k))), (7, .int (nI k))] [] h (Qi F) X := by
        intro m
        induction m with
        | zero =>
          intro k ek
          have : k = nD σ := by omega
          subst this
          have gp := gsd_le (P := P) V hp (Nat.le_refl _)
          refine sgX9_middle_26 _ _ _ _ _ _ (Nat.le_of_ble_eq_true rfl) hS ⟨fun _ => ?_, fun z => absurd (by rw [c.1.n]; exact Int32.le_refl _) z⟩
          rw [nI_1]
          cases p with
          | zero =>
            rw [lmin_1] at nx
            exact ⟨fun _ => nx, fun z => absurd rfl z⟩
          | succ p =>
            have lm := lmin_lt (fun p => gsd σ P p (nD σ)) p
            have gl := gsd_le (P := P) V (p := lmin (fun p => gsd σ P p (nD σ)) (p + 1)) (by omega) (Nat.le_refl _)
            rw [if_neg (by omega), nI_leI (by omega) (by omega)]
            rw [lmin] at nx
            refine ⟨fun z => absurd z (nI_neg (by omega)), fun _ => ⟨fun z => ?_, fun z => ?_⟩⟩
            · rw [if_neg (by omega)] at nx; exact nx
            · rw [if_pos (by omega)] at nx; exact nx
        | succ m ih2 =>
          intro k ek
          have hk : k < nD σ := by omega
          have nx2 := ih2 (k + 1) (by omega)
          rw [gsd_s] at nx2
          refine sgX9_middle_26 _ _ _ _ _ _ (Nat.le_of_ble_eq_true rfl) hS ⟨fun z => absurd z (by rw [c.1.n]; exact nI_ge hk (by omega)), fun _ => ok_has (by omega) hS (by omega) ?_⟩
          rw [hx, nI_1]
          refine ⟨fun z => ?_, fun z => ⟨vin (by omega), ?_⟩⟩
          · rw [bI_0.mp z, if_neg (show ¬ false = true by decide), Nat.add_zero] at nx2; exact nx2
          · rw [nI_clamp (by omega), (c.1.de hk).1, (V.de hk).1.1]
            refine ok_distanceC (by omega) hS c.2.1 hp (V.de hk).1.2 hP ?_
            rw [(dst_n V hp (V.de hk).1.2).1, nI_add]
            rw [bI_n0.mp z, if_pos rfl] at nx2; exact nx2
      refine sgX9_middle_8 _ _ _ _ (Nat.le_of_ble_eq_true rfl) hS ⟨fun z => absurd z (by rw [hp1]; exact nI_ge hp (by omega)), fun _ => inner _ 0 (Nat.zero_add _)⟩
  exact OKi.up hd (oki_of 3 (by decide +kernel) (Nat.le_of_ble_eq_true rfl) (sgX9_middle_0 _ (Nat.le_of_ble_eq_true rfl) hS (go _ 0 (Nat.zero_add _))))
/-- the chosen deeds, as the reference holds them -/
def CHo (σ : Hp) (P : Nat → Bool) (q : Hp) : Prop := ∀ k, k < nD σ → q.1 133 k = bI (P k)
theorem ok_guessOf {F : Int32 → Hp → Prop} (hd : 4 ≤ d) (hS : Std h.2.2) (V : VS σ) (mc : MC σ h) (C : CHo σ P h) (h0 : 0 < nP σ) (hq : F (nI (gsv σ P)) h) : OKi d mX12_guessOf [.ref 91] h F X := by
  have hD := V.d.2
  have hP := V.p.2
  have e2 : h.1 91 2 = nI (nP σ) := by rw [mc.i 91 2]; exact V.p.1
  have e6 : h.1 91 6 = nI (nD σ) := by rw [mc.i 91 6]; exact V.d.1
  have go : ∀ n p : Nat, p + n = nP σ → E mX12_guessOf 3 0 0 6 [(0, .ref 91), (1, .int (if p = 0 then -1 else nI (lmin (fun p => gsd σ P p (nD σ)) p))), (2, .int (if p = 0 then 0 else nI (gsd σ P (lmin (fun p => gsd σ P p (nD σ)) p) (nD σ)))), (3, .int (nI p))] [] h (Qi F) X := by
    intro n
    induction n with
    | zero =>
      intro p e
      have : p = nP σ := by omega
      subst this
      rw [if_neg (by omega)]
      exact sgX12_guessOf_6 _ _ _ (Nat.le_of_ble_eq_true rfl) hS ⟨fun _ => hq, fun z => absurd (by rw [e2]; exact Int32.le_refl _) z⟩
    | succ n ih =>
      intro p e
      have hp : p < nP σ := by omega
      have nx := ih (p + 1) (by omega)
      rw [if_neg (by omega), if_neg (by omega)] at nx
      have inner : ∀ m k : Nat, k + m = nD σ → E mX12_guessOf 3 0 0 20 [(0, .ref 91), (1, .int (if p = 0 then -1 else nI (lmin (fun p => gsd σ P p (nD σ)) p))), (2, .int (if p = 0 then 0 else nI (gsd σ P (lmin (fun p => gsd σ P p (nD σ)) p) (nD σ)))), (3, .int (nI p)), (4, .int (nI (gsd σ P p k))), (5, .int (nI k))] [] h (Qi F) X := by
        intro m
        induction m with
        | zero =>
          intro k ek
          have : k = nD σ := by omega
          subst this
          have gp := gsd_le (P := P) V hp (Nat.le_refl _)
          refine sgX12_guessOf_20 _ _ _ _ _ (Nat.le_of_ble_eq_true rfl) hS ⟨fun _ => ?_, fun z => absurd (by rw [e6]; exact Int32.le_refl _) z⟩
          rw [nI_1]
          cases p with
          | zero =>
            rw [lmin_1] at nx
            exact ⟨fun _ => nx, fun z => absurd rfl z⟩
          | succ p =>
            have lm := lmin_lt (fun p => gsd σ P p (nD σ)) p
            have gl := gsd_le (P := P) V (p := lmin (fun p => gsd σ P p (nD σ)) (p + 1)) (by omega) (Nat.le_refl _)
            rw [if_neg (by omega), if_neg (by omega), nI_ltI (by omega) (by omega)]
            rw [lmin] at nx
            refine ⟨fun z => absurd z (nI_neg (by omega)), fun _ => ⟨fun z => ?_, fun z => ?_⟩⟩
            · rw [if_pos z] at nx; exact nx
            · rw [if_neg z] at nx; exact nx
        | succ m ih2 =>
          intro k ek
          have hk : k < nD σ := by omega
          have nx2 := ih2 (k + 1) (by omega)
          rw [gsd_s] at nx2
          have dk := (V.de hk).1
          refine sgX12_guessOf_20 _ _ _ _ _ (Nat.le_of_ble_eq_true rfl) hS ⟨fun z => absurd z (by rw [e6]; exact nI_ge hk (by omega)), fun _ => ⟨vin (by omega), ?_⟩⟩
          rw [nI_clamp (by omega), C k hk, nI_1, mc.i 98, dk.1]
          refine ⟨fun z => ?_, fun z => ⟨vin (by omega), ok_distanceM (by omega) hS mc (by omega) (by omega) ?_⟩⟩
          · rw [bI_0.mp z, if_neg (show ¬ false = true by decide), Nat.add_zero] at nx2
            rw [Int32.add_zero]; exact nx2
          · rw [(dst_n V hp dk.2).1, nI_add]
            rw [bI_n0.mp z, if_pos rfl] at nx2; exact nx2
      refine sgX12_guessOf_6 _ _ _ (Nat.le_of_ble_eq_true rfl) hS ⟨fun z => absurd z (by rw [e2]; exact nI_ge hp (by omega)), fun _ => inner _ 0 (Nat.zero_add _)⟩
  exact OKi.up hd (oki_of 3 (by decide +kernel) (Nat.le_of_ble_eq_true rfl) (sgX12_guessOf_0 (Nat.le_of_ble_eq_true rfl) hS (go _ 0 (Nat.zero_add _))))
theorem ok_guessC {F : Int32 → Hp → Prop} (hd : 8 ≤ d) (hS : Std h.2.2) (V : VS σ) (c : CS σ h) (h0 : GS σ x 1 60 → F (nI (gsv σ (hb x))) h) (h1 : ¬ GS σ x 1 60 → X iae h) : OKi d mX11_guess [.ref 0, .long x] h F X :=
  enX11_guess _ hd hS (ok_needSet (l := 1) (m := 60) (by omega) hS V c.1 (by decide) (by decide) (fun g => ok_middle (by omega) hS V c (fun _ => rfl) (h0 g)) h1)
theorem GS_pos (V : VS σ) {l m : Nat} (hl : 1 ≤ l) (g : GS σ x l m) : 0 < nP σ ∧ 0 < nD σ := by
  have hc : 0 < cntb x := by have := g.2.1; omega
  obtain ⟨k, _, hk⟩ := fb_ct_pos.mp hc
  have := (stn_al (g.1 k hk)).2
  have := (V.de this).1.2
  omega
theorem ok_guessM {F : Int32 → Hp → Prop} (hd : 6 ≤ d) (hS : Std h.2.2) (V : VS σ) (mc : MC σ h) (h0 : GS σ x 1 60 → ∀ q, Kp scm h q → q.1 91 0 = 0 → F (nI (gsv σ (hb x))) q) (h1 : ¬ GS σ x 1 60 → ∀ q r, Kp scm h q → q.1 91 0 = 1 → F r q) :
    OKi d mX12_guess [.ref 91, .long x] h F X := by
  have hD := V.d.2
  have s92 : ∀ q, Kp scm h q → ¬ GS σ x 1 60 → q.1 91 0 = 1 → E mX12_guess 5 0 0 92 [(0, .ref 91)] [] q (Qi F) X := fun q k no e => by
    refine sgX12_guess_92 (Nat.le_of_ble_eq_true rfl) k.1 ⟨fun z => absurd z (by rw [e]; decide), fun _ => h1 no q _ k e⟩
  have s28 : ∀ q i, Kp scm h q → ¬ GS σ x 1 60 → q.1 91 0 = 1 → E mX12_guess 5 0 0 28 [(0, .ref 91), (1, .long x), (3, .int i)] [] q (Qi F) X := fun q i k no e =>
    sgX12_guess_28 _ _ (Nat.le_of_ble_eq_true rfl) k.1 ⟨fun _ => s92 q k no e, fun _ => ⟨fun z => absurd z (by rw [e]; decide), fun _ => s92 q k no e⟩⟩
  have f18 : ¬ GS σ x 1 60 → E mX12_guess 5 0 0 18 [(0, .ref 91), (1, .long x)] [.ref 91] h (Qi F) X := fun no =>
    sgX12_guess_18 _ (Nat.le_of_ble_eq_true rfl) hS (sgX12_guess_23 _ _ (Nat.le_of_ble_eq_true rfl) hS (s28 _ _ (k0 (Kp.rf hS)) no hI_k))
  have no : (∃ k, nD σ ≤ k ∧ hb x k = true) → ¬ GS σ x 1 60 := fun ⟨k, hk, hbk⟩ g => by
    have := (stn_al (g.1 k hbk)).2
    omega
  refine OKi.up hd (oki_of 5 (by decide +kernel) (Nat.le_of_ble_eq_true rfl) (sgX12_guess_0 _ (Nat.le_of_ble_eq_true rfl) hS ⟨fun z => f18 fun g => ?_, fun z => ?_⟩))
  · by_cases z2 : x < 0
    · exact no ⟨63, by omega, hb_neg.mp z2⟩ g
    · have z3 : x = 0 := by
        rw [fa_lt64] at z2
        rw [fa_le64] at z
        rw [fa_eq64]
        omega
      have hc : 0 < cntb x := by have := g.2.1; omega
      obtain ⟨k, _, hk⟩ := fb_ct_pos.mp hc
      rw [z3, hb_0] at hk; cases hk
  · have zn : ¬ x < 0 := fun y => by
      rw [fa_lt64] at y
      rw [fa_le64] at z
      omega
    have zp : 0 < cntb x := by
      refine Classical.byContradiction fun y => z ?_
      have z0 : cntb x = 0 := by omega
      have : x = 0 := hb_ext fun k hk => by rw [hb_0]; exact fb_ct_zero.mp z0 k hk
      rw [this]; exact Int64.le_refl _
    rw [mc.i 91 6, V.d.1]
    refine ⟨fun z2 => ?_, fun z2 => f18 (no ?_)⟩
    · have hx := (hb_none (by omega) zn).mp z2
      have ec := cntb_to (σ := σ) hD hx
      have go : ∀ (n i : Nat) (q : Hp), i + n = nD σ → Kp scm h q → q.1 91 0 = 0 → (∀ k, k < i → q.1 133 k = bI (hb x k) ∧ (hb x k = true → stn σ k = true)) → E mX12_guess 5 0 0 28 [(0, .ref 91), (1, .long x), (3, .int (nI i))] [] q (Qi F) X := by
        intro n
        induction n with
        | zero =>
          intro i q e k e0 I
          have : i = nD σ := by omega
          subst this
          have mq := mc.km k
          have g1 : ∀ j, hb x j = true → stn σ j = true := fun j hj => by
            by_cases y : j < nD σ
            · exact (I j y).2 hj
            · rw [hx j (by omega)] at hj; cases hj
          have g : GS σ x 1 60 := ⟨g1, zp, by rw [ec]; exact Nat.le_trans (fb_ct_le _ _) hD⟩
          refine sgX12_guess_28 _ _ (Nat.le_of_ble_eq_true rfl) k.1 ⟨fun _ => sgX12_guess_92 (Nat.le_of_ble_eq_true rfl) k.1 ⟨fun _ => ok_guessOf (P := hb x) (by omega) k.1 V mq (fun j hj => (I j hj).1) (GS_pos V (Nat.le_refl _) g).1 (h0 g q k e0), fun y => absurd (by rw [e0]; exact Int32.le_refl _) y⟩, fun y => absurd (by rw [mq.i 91 6, V.d.1]; exact Int32.le_refl _) y⟩
        | succ n ih =>
          intro i q e k e0 I
          have hi : i < nD σ := by omega
          have mq := mc.km k
          have e1 : nI i + (1 : Int32) = nI (i + 1) := nI_1 i
          have s63 : E mX12_guess 5 0 0 63 [(0, .ref 91), (1, .long x), (3, .int (nI i))] [.int (bI (hb x i)), .int (nI i), .ref 133] q (Qi F) X := by
            refine sgX12_guess_63 _ _ _ _ (Nat.le_of_ble_eq_true rfl) k.1 ?_
            rw [nI_clamp (by omega), hI_k]
            have f2 : Fr [133] [] q (hI q 133 i (bI (hb x i))) := Fr.pI
            have k2 := k.tr (f2.km k.1)
            have I2 : (hb x i = true → stn σ i = true) → ∀ j, j < i + 1 → (hI q 133 i (bI (hb x i))).1 133 j = bI (hb x j) ∧ (hb x j = true → stn σ j = true) := fun st j hj => by
              rw [hI_if]
              by_cases y : j = i
              · rw [if_pos y, y]; exact ⟨rfl, st⟩
              · rw [if_neg y]; exact I j (by omega)
            have e02 : (hI q 133 i (bI (hb x i))).1 91 0 = 0 := by rw [hI_c (by decide)]; exact e0
            refine ⟨vin (by omega), bI_01 _, vin (by omega), fun y => sgX12_guess_86 _ _ (Nat.le_of_ble_eq_true rfl) k2.1 ?_, fun y => ok_standsM (by omega) k2.1 V (mc.km k2) hi ⟨fun y2 => ?_, fun y2 => sgX12_guess_86 _ _ (Nat.le_of_ble_eq_true rfl) k2.1 ?_⟩⟩
            · rw [e1]
              exact ih (i + 1) _ (by omega) k2 e02 (I2 fun w => by rw [bI_0.mp y] at w; cases w)
            · have k3 := k0 (v := 1) k2
              refine sgX12_guess_86 _ _ (Nat.le_of_ble_eq_true rfl) k3.1 (s28 _ _ k3 (fun g => ?_) hI_k)
              have := g.1 i (bI_n0.mp y)
              rw [bI_0.mp y2] at this; cases this
            · rw [e1]
              exact ih (i + 1) _ (by omega) k2 e02 (I2 fun _ => bI_n0.mp y2)
          refine sgX12_guess_28 _ _ (Nat.le_of_ble_eq_true rfl) k.1 ⟨fun y => absurd y (by rw [mq.i 91 6, V.d.1]; exact nI_ge hi (by omega)), fun _ => ⟨fun _ => ?_, fun y => absurd e0 y⟩⟩
          rw [hb_bit (by omega)]
          cases eb : hb x i
          · rw [eb] at s63
            exact ⟨fun y => absurd y (by decide), fun _ => s63⟩
          · rw [eb] at s63
            exact ⟨fun _ => s63, fun y => absurd rfl y⟩
      exact sgX12_guess_23 _ _ (Nat.le_of_ble_eq_true rfl) hS (go _ 0 _ (Nat.zero_add _) (k0 (Kp.rf hS)) hI_k fun k hk => absurd hk (Nat.not_lt_zero _))
    · refine Classical.byContradiction fun q => z2 ((hb_none (by omega) zn).mpr fun k hk => ?_)
      cases e : hb x k
      · rfl
      · exact absurd ⟨k, hk, e⟩ q
/-- of hands with a home and two deeds or more -/
def hmP (σ : Hp) (w : Int32) (is : Bool) (j : Nat) : Bool := (!decide (σ.1 95 j = -1) && decide (2 ≤ nh σ j)) && decide (decide (dst σ (gsv σ (Qh σ j)) (σ.1 95 j).toNatClampNeg ≤ w) = is)
def vHomes (σ : Hp) (w : Int32) (is : Bool) : Int32 := nI (fb_ct (hmP σ w is) (nH σ))
def cdHomes (w : Int32) : Nat := if isW w 0 198 = true then 0 else 1
theorem ofH (V : VS σ) (c : CD σ h) {j : Nat} (hj : j < 20) {r : Int64} (hr : ∀ k, hb r k = stn σ k) (k : Nat) : hb ((h.2.1 17 j) &&& r) k = Qh σ j k := by
  rw [hb_and, hr, c.of (by omega) k, Qh]
  cases es : stn σ k
  · rw [Bool.and_false]; rfl
  · have hk := (stn_al es).2
    rw [(stn_al es).1, Bool.true_and, Bool.and_true, Bool.true_and]
    cases ei : isof σ k (nI j)
    · rw [Bool.and_false]
    · have : sol σ k = true := by
        obtain ⟨z1, z2⟩ | ⟨a, b, ha, hb', z1, z2⟩ := (V.de hk).2.2.1
        · have n1 : ¬ (-1 : Int32) = nI j := fun z => nI_neg (show j < 2 ^ 31 by omega) z.symm
          rw [isof, z1, z2, decide_eq_false n1] at ei
          cases ei
        · have := V.h.2
          rw [sol, z1, decide_eq_false (nI_neg (by omega))]; rfl
      rw [this]; rfl
theorem VS.hm (V : VS σ) {j : Nat} (hj : j < nH σ) : σ.1 95 j = -1 ∨ ∃ p, p < nP σ ∧ σ.1 95 j = nI p := V.2.2.2.2.2.2.2.2.2.2.2.1 j hj
theorem ok_homesC {F : Int32 → Hp → Prop} {w : Int32} {is : Bool} (hd : 8 ≤ d) (hS : Std h.2.2) (V : VS σ) (c : CS σ h) (hq : CR h (cdHomes w) (vHomes σ w is) (t1 iae) F X) : OKi d mX11_homes [.ref 0, .int w, .int (bI is)] h F X := by
  have hD := V.d.2
  have hP := V.p.2
  have hH := V.h.2
  refine OKi.up hd (oki_of 7 (by decide +kernel) (Nat.le_of_ble_eq_true rfl) (sgX11_homes_0 _ _ (Nat.le_of_ble_eq_true rfl) hS (ok_isW (a := 0) (b := 198) rfl rfl (by omega) hS ⟨fun z => ?_, fun z => ok_standing (by omega) hS V c.1 fun r hr => ?_⟩)))
  · have e : cdHomes w = 1 := by rw [cdHomes, bI_0.mp z]; rfl
    rw [e] at hq
    exact hq.2 (by decide) h (Kp.rf hS)
  · have e : cdHomes w = 0 := if_pos (bI_n0.mp z)
    rw [e] at hq
    have fin := hq.1 rfl h (Kp.rf hS)
    have h6 : h.1 1 6 = nI (nH σ) := by rw [c.2.2.1.2.2.1, V.h.1]
    have go : ∀ n j : Nat, j + n = nH σ → E mX11_homes 7 0 0 37 [(0, .ref 0), (1, .int w), (2, .int (bI is)), (3, .long r), (5, .int (nI (fb_ct (hmP σ w is) j))), (6, .int (nI j))] [] h (Qi F) X := by
      intro n
      induction n with
      | zero =>
        intro j e
        have : j = nH σ := by omega
        subst this
        exact sgX11_homes_37 _ _ _ _ _ (Nat.le_of_ble_eq_true rfl) hS ⟨fun _ => fin, fun y => absurd (by rw [h6]; exact Int32.le_refl _) y⟩
      | succ n ih =>
        intro j e
        have hj : j < nH σ := by omega
        have nx := ih (j + 1) (by omega)
        have skip : hmP σ w is j = false → E mX11_homes 7 0 0 37 [(0, .ref 0), (1, .int w), (2, .int (bI is)), (3, .long r), (5, .int (nI (fb_ct (hmP σ w is) j))), (6, .int (nI (j + 1)))] [] h (Qi F) X := fun hz => by
          rw [fb_ct_succ, hz, if_neg (by decide), Nat.add_zero] at nx
          exact nx
        have take : hmP σ w is j = true → E mX11_homes 7 0 0 37 [(0, .ref 0), (1, .int w), (2, .int (bI is)), (3, .long r), (5, .int (nI (fb_ct (hmP σ w is) j) + 1)), (6, .int (nI (j + 1)))] [] h (Qi F) X := fun hz => by
          rw [fb_ct_succ, hz, if_pos rfl, ← nI_1] at nx
          exact nx
        refine sgX11_homes_37 _ _ _ _ _ (Nat.le_of_ble_eq_true rfl) hS ⟨fun y => absurd y (by rw [h6]; exact nI_ge hj (by omega)), fun _ => ?_⟩
        rw [nI_clamp (by omega), nI_1 j, c.2.2.1.2.2.2.2.1 j hj]
        refine ⟨vin (by omega), vin (by omega), fun y => skip ?_, fun y => ok_bitCount (by omega) hS ?_⟩
        · rw [hmP, decide_eq_true y]; rfl
        have ec : cntb ((h.2.1 17 j) &&& r) = nh σ j := by
          have e1 : (fun k => hb ((h.2.1 17 j) &&& r) k) = Qh σ j := funext fun k => ofH V c.1 (by omega) hr k
          rw [cntb_to (σ := σ) hD fun k hk => by
            rw [ofH V c.1 (by omega) hr k]
            cases eq : Qh σ j k
            · rfl
            · have := (Qh_lt V eq).1
              omega]
          exact congrArg (fun f => fb_ct f (nD σ)) e1
        have nl : nh σ j ≤ nD σ := fb_ct_le _ _
        rw [ec]
        obtain y1 | ⟨p, hp, y1⟩ := V.hm hj
        · exact absurd y1 y
        have h0 : 0 < nP σ := by omega
        refine ⟨fun y2 => skip ?_, fun y2 => ok_middle (P := Qh σ j) (by omega) hS V c (fun k => ofH V c.1 (by omega) hr k) ?_⟩
        · have : ¬ 2 ≤ nh σ j := by
            have := (nI_ltI (b := 2) (by omega) (by omega)).mp y2
            omega
          rw [hmP, decide_eq_false this]; simp
        have ge2 : 2 ≤ nh σ j := by
          refine Classical.byContradiction fun w => y2 (nI_lt (b := 2) (by omega) (by omega))
        rw [y1]
        refine ok_distanceC (by omega) hS c.2.1 (gsv_lt V h0) hp hP ?_
        have em : hmP σ w is j = decide (decide (dst σ (gsv σ (Qh σ j)) p ≤ w) = is) := by
          rw [hmP, y1, decide_eq_false (nI_neg (n := p) (by omega)), decide_eq_true ge2, nI_clamp (by omega)]; rfl
        refine ⟨fun y3 => ?_, fun y3 => ?_⟩
        · rw [decide_eq_false (Int32.not_le.mpr y3)] at em
          cases is
          · exact ⟨fun _ => take em, fun y4 => absurd rfl y4⟩
          · exact ⟨fun y4 => absurd y4 (by decide), fun _ => skip em⟩
        · rw [decide_eq_true (Int32.not_lt.mp y3)] at em
          cases is
          · exact ⟨fun y4 => absurd y4 (by decide), fun _ => skip em⟩
          · exact ⟨fun _ => take em, fun y4 => absurd rfl y4⟩
    exact go _ 0 (Nat.zero_add _)
theorem ok_homesM {F : Int32 → Hp → Prop} {w : Int32} {is : Bool} (hd : 6 ≤ d) (hS : Std h.2.2) (V : VS σ) (mc : MC σ h) (hq : MR h (cdHomes w) (vHomes σ w is) F) : OKi d mX12_homes [.ref 91, .int w, .int (bI is)] h F X := by
  have hD := V.d.2
  have hP := V.p.2
  have hH := V.h.2
  have kk : Kp scm h (hI h 91 0 0) := k0 (Kp.rf hS)
  refine OKi.up hd (oki_of 5 (by decide +kernel) (Nat.le_of_ble_eq_true rfl) (sgX12_homes_0 _ _ (Nat.le_of_ble_eq_true rfl) hS (ok_isWM (a := 0) (b := 198) rfl rfl (by omega) kk.1 ⟨fun z => ok_failsM (n := 1) (by omega) kk (by rw [cdHomes, bI_0.mp z]; rfl) (by decide) hq, fun z => ?_⟩)))
  have e : cdHomes w = 0 := if_pos (bI_n0.mp z)
  rw [e] at hq
  have go : ∀ (n j : Nat) (q : Hp), j + n = nH σ → Kp scm h q → q.1 91 0 = 0 → E mX12_homes 5 0 0 28 [(0, .ref 91), (1, .int w), (2, .int (bI is)), (3, .int (nI (fb_ct (hmP σ w is) j))), (4, .int (nI j))] [] q (Qi F) X := by
    intro n
    induction n with
    | zero =>
      intro j q e k e0
      have : j = nH σ := by omega
      subst this
      exact sgX12_homes_28 _ _ _ _ (Nat.le_of_ble_eq_true rfl) k.1 ⟨fun _ => hq q _ k e0 fun _ => rfl, fun y => absurd (by rw [(mc.km k).i 91 4, V.h.1]; exact Int32.le_refl _) y⟩
    | succ n ih =>
      intro j q e k e0
      have hj : j < nH σ := by omega
      have e1 : nI j + (1 : Int32) = nI (j + 1) := nI_1 j
      have s166 : ∀ q2, Kp scm h q2 → q2.1 91 0 = 0 → E mX12_homes 5 0 0 166 [(0, .ref 91), (1, .int w), (2, .int (bI is)), (3, .int (nI (fb_ct (hmP σ w is) (j + 1)))), (4, .int (nI j))] [] q2 (Qi F) X := fun q2 k2 e2 => by
        refine sgX12_homes_166 _ _ _ _ (Nat.le_of_ble_eq_true rfl) k2.1 ?_
        rw [e1]
        exact ih (j + 1) q2 (by omega) k2 e2
      have skip : hmP σ w is j = false → ∀ q2, Kp scm h q2 → q2.1 91 0 = 0 → E mX12_homes 5 0 0 166 [(0, .ref 91), (1, .int w), (2, .int (bI is)), (3, .int (nI (fb_ct (hmP σ w is) j))), (4, .int (nI j))] [] q2 (Qi F) X := fun hz q2 k2 e2 => by
        have := s166 q2 k2 e2
        rw [fb_ct_succ, hz, if_neg (by decide), Nat.add_zero] at this
        exact this
      have inner : ∀ (m i : Nat) (q2 : Hp), i + m = nD σ → Fr [133] [] q q2 → (∀ x, x < i → q2.1 133 x = bI (Qh σ j x)) → E mX12_homes 5 0 0 43 [(0, .ref 91), (1, .int w), (2, .int (bI is)), (3, .int (nI (fb_ct (hmP σ w is) j))), (4, .int (nI j)), (5, .int (nI (fb_ct (Qh σ j) i))), (6, .int (nI i))] [] q2 (Qi F) X := by
        intro m
        induction m with
        | zero =>
          intro i q2 ei f I
          have : i = nD σ := by omega
          subst this
          have k2 := k.tr (f.km k.1)
          have m2 := mc.km k2
          have e02 : q2.1 91 0 = 0 := by rw [f.i 91 0]; exact e0
          refine sgX12_homes_43 _ _ _ _ _ _ (Nat.le_of_ble_eq_true rfl) k2.1 ⟨fun _ => ?_, fun y => absurd (by rw [m2.i 91 6, V.d.1]; exact Int32.le_refl _) y⟩
          rw [nI_clamp (by omega), m2.i 95]
          have nl : nh σ j ≤ nD σ := fb_ct_le _ _
          refine ⟨vin (by omega), fun y => skip (by rw [hmP, decide_eq_true y]; rfl) q2 k2 e02, fun y => ?_⟩
          obtain y1 | ⟨p, hp, y1⟩ := V.hm hj
          · exact absurd y1 y
          have h0 : 0 < nP σ := by omega
          have ez : fb_ct (Qh σ j) (nD σ) = nh σ j := rfl
          rw [ez]
          refine ⟨fun y2 => ok_guessOf (P := Qh σ j) (by omega) k2.1 V m2 I h0 ⟨vin (by omega), ?_⟩, fun y2 => skip ?_ q2 k2 e02⟩
          · have ge2 : 2 ≤ nh σ j := (nI_leI (a := 2) (by omega) (by omega)).mp y2
            have gl := gsv_lt (P := Qh σ j) V h0
            rw [m2.i 95, y1]
            refine ok_distanceM (by omega) k2.1 m2 (by omega) (by omega) ?_
            have em : hmP σ w is j = decide (decide (dst σ (gsv σ (Qh σ j)) p ≤ w) = is) := by
              rw [hmP, y1, decide_eq_false (nI_neg (n := p) (by omega)), decide_eq_true ge2, nI_clamp (by omega)]; rfl
            have s155 : ∀ v : Bool, v = decide (dst σ (gsv σ (Qh σ j)) p ≤ w) → E mX12_homes 5 0 0 155 [(0, .ref 91), (1, .int w), (2, .int (bI is)), (4, .int (nI j))] [.int (bI v), .int (nI (fb_ct (hmP σ w is) j))] q2 (Qi F) X := fun v hv => by
              rw [← hv] at em
              have := s166 q2 k2 e02
              rw [fb_ct_succ] at this
              refine sgX12_homes_155 _ _ _ _ _ (Nat.le_of_ble_eq_true rfl) k2.1 ⟨fun y3 => sgX12_homes_164 _ _ _ _ _ (Nat.le_of_ble_eq_true rfl) k2.1 ?_, fun y3 => sgX12_homes_164 _ _ _ _ _ (Nat.le_of_ble_eq_true rfl) k2.1 ?_⟩
              · rw [em, decide_eq_true (bI_inj.mp y3), if_pos rfl, ← nI_1] at this
                exact this
              · rw [em, decide_eq_false (fun y4 => y3 (bI_inj.mpr y4)), if_neg (by decide), Nat.add_zero] at this
                rw [Int32.add_zero]
                exact this
            refine ⟨fun y3 => s155 false (decide_eq_false (Int32.not_le.mpr y3)).symm, fun y3 => s155 true (decide_eq_true (Int32.not_lt.mp y3)).symm⟩
          · have : ¬ 2 ≤ nh σ j := fun y3 => y2 (nI_le (a := 2) y3 (by omega))
            rw [hmP, decide_eq_false this]; simp
        | succ m ih2 =>
          intro i q2 ei f I
          have hi : i < nD σ := by omega
          have k2 := k.tr (f.km k.1)
          have m2 := mc.km k2
          have s83 : ∀ v : Bool, v = Qh σ j i → E mX12_homes 5 0 0 83 [(0, .ref 91), (1, .int w), (2, .int (bI is)), (3, .int (nI (fb_ct (hmP σ w is) j))), (4, .int (nI j)), (5, .int (nI (fb_ct (Qh σ j) i))), (6, .int (nI i))] [.int (bI v), .int (nI i), .ref 133] q2 (Qi F) X := fun v hv => by
            have f3 : Fr [133] [] q (hI q2 133 i (bI v)) := Fr.tr f Fr.pI
            have k3 := k.tr (f3.km k.1)
            have nx := ih2 (i + 1) (hI q2 133 i (bI v)) (by omega) f3 fun x hx => by
              rw [hI_if]
              by_cases y : x = i
              · rw [if_pos y, hv, y]
              · rw [if_neg y]; exact I x (by omega)
            rw [fb_ct_succ, ← hv, ← nI_1 i] at nx
            refine sgX12_homes_83 _ _ _ _ _ _ _ _ (Nat.le_of_ble_eq_true rfl) k2.1 ?_
            rw [nI_clamp (by omega), hI_k]
            refine ⟨vin (by omega), bI_01 _, vin (by omega), fun y => sgX12_homes_101 _ _ _ _ _ _ _ (Nat.le_of_ble_eq_true rfl) k3.1 ?_, fun y => sgX12_homes_101 _ _ _ _ _ _ _ (Nat.le_of_ble_eq_true rfl) k3.1 ?_⟩
            · rw [bI_0.mp y] at nx ⊢
              rw [if_neg (by decide), Nat.add_zero] at nx
              rw [Int32.add_zero]; exact nx
            · rw [bI_n0.mp y] at nx ⊢
              rw [if_pos rfl, ← nI_1] at nx
              exact nx
          refine sgX12_homes_43 _ _ _ _ _ _ (Nat.le_of_ble_eq_true rfl) k2.1 ⟨fun y => absurd y (by rw [m2.i 91 6, V.d.1]; exact nI_ge hi (by omega)), fun _ => ok_standsM (by omega) k2.1 V m2 hi ⟨fun y => sgX12_homes_82 _ _ _ _ _ _ _ (Nat.le_of_ble_eq_true rfl) k2.1 (s83 false ?_), fun y => ok_isOfM (by omega) k2.1 m2 (by omega) ⟨fun y2 => sgX12_homes_82 _ _ _ _ _ _ _ (Nat.le_of_ble_eq_true rfl) k2.1 (s83 false ?_), fun y2 => s83 true ?_⟩⟩⟩
          · rw [Qh, bI_0.mp y]; rfl
          · rw [Qh, bI_0.mp y2, Bool.and_false]
          · rw [Qh, bI_n0.mp y, bI_n0.mp y2]; rfl
      refine sgX12_homes_28 _ _ _ _ (Nat.le_of_ble_eq_true rfl) k.1 ⟨fun y => absurd y (by rw [(mc.km k).i 91 4, V.h.1]; exact nI_ge hj (by omega)), fun _ => inner _ 0 q (Nat.zero_add _) Fr.rf fun x hx => absurd hx (Nat.not_lt_zero _)⟩
  exact go _ 0 _ (Nat.zero_add _) kk hI_k
end GUESS
