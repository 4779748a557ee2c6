/-! groups loaded, and all joined, by the class -/
section JOIND
variable {σ h : Hp} {d S U : Nat} {X : String → Hp → Prop} {s : JG} {w u : Nat → Nat → Int32} {late : Bool}
theorem ok_barredAny {F : Int64 → Hp → Prop} {a : Nat} (hd : 3 ≤ d) (hS : Std h.2.2) (V : VS σ) (c : CD σ h) (ha : a < nD σ) (hq : ∀ r, F r h) : OKl d mX0_barredFrom [.ref 8, .int (nI a)] h F X := by
  have hD := V.d.2
  exact enX0_barredFrom (nI a) hd hS ⟨vin (by omega), vin (by omega), ok_has (Nat.le_of_ble_eq_true rfl) hS (by omega) ⟨fun _ => ok_oneWith (Nat.le_refl _) hS V c ha fun _ _ => ok_only (Nat.le_of_ble_eq_true rfl) hS (hq _), fun _ => ok_oneWith (Nat.le_refl _) hS V c ha fun _ _ => ok_only (Nat.le_of_ble_eq_true rfl) hS (hq _)⟩⟩
/-- groups loaded up to deed i, with deed j -/
def GI (σ : Hp) (w u : Nat → Nat → Int32) (S : Nat) (h q : Hp) (i : Nat) (P : Nat → Nat → Prop) : Prop :=
  Fr [42, 43, 44, 54, 55, 56] [(53, 0), (53, 1)] h q ∧ LK σ w S q ∧ q.1 53 0 = nI (nD σ) ∧ (∀ k, hb (q.2.1 53 1) k = stn σ k) ∧
  (∀ a, a < i → stn σ a = true → ∀ k, hb (q.2.1 54 a) k = decide (k = a) ∧ hb (q.2.1 55 a) k = (al σ k && brd σ a k && !decide (k = a))) ∧
  ∀ a b, a < b → b < nD σ → stn σ a = true → stn σ b = true → P a b → q.1 56 (60 * a + b) = pwv σ w u a b ∧ q.1 56 (60 * b + a) = pwv σ w u a b
theorem lp_gload75 {F : Hp → Prop} {i : Nat} (sh : ShOK S) (shU : ShOK U) (hd : 5 ≤ d) (hS : Std h.2.2) (V : VS σ) (c : CS σ h) (su : Shw u U h) (hu : ∀ k j, S03 (u k j)) (hi : i < nD σ)
    (nx : ∀ q, GI σ w u S h q (i + 1) (fun a _ => a < i + 1) → E mX1_load d 0 0 19 [(0, .ref 53), (1, .ref 8), (2, .ref 34), (3, .ref U), (4, .int (nI (i + 1)))] [] q (Qv F) X) :
    ∀ (n j : Nat) (q : Hp), j + n = nD σ → i < j → GI σ w u S h q (i + 1) (fun a b => a < i ∨ (a = i ∧ b < j)) → E mX1_load d 0 0 75 [(0, .ref 53), (1, .ref 8), (2, .ref 34), (3, .ref U), (4, .int (nI i)), (5, .int (nI j))] [] q (Qv F) X := by
  have hD := V.d.2
  intro n
  induction n with
  | zero =>
    intro j q e hij I
    have : j = nD σ := by omega
    subst this
    refine sgX1_load_75 shU _ _ hd (I.1.sd hS) ⟨fun _ => ?_, fun z => absurd (by rw [I.2.2.1]; exact Int32.le_refl _) z⟩
    rw [nI_1]
    exact nx q ⟨I.1, I.2.1, I.2.2.1, I.2.2.2.1, I.2.2.2.2.1, fun a b h1 h2 h3 h4 h5 => I.2.2.2.2.2 a b h1 h2 h3 h4 (by omega)⟩
  | succ n ih =>
    intro j q e hij I
    have hj : j < nD σ := by omega
    have hS' := I.1.sd hS
    have keep : (stn σ i = false ∨ stn σ j = false) → E mX1_load d 0 0 75 [(0, .ref 53), (1, .ref 8), (2, .ref 34), (3, .ref U), (4, .int (nI i)), (5, .int (nI (j + 1)))] [] q (Qv F) X := fun hz => ih (j + 1) q (by omega) (by omega) ⟨I.1, I.2.1, I.2.2.1, I.2.2.2.1, I.2.2.2.2.1, fun a b h1 h2 h3 h4 h5 => I.2.2.2.2.2 a b h1 h2 h3 h4 (by
      obtain z | z := hz
      · have : a ≠ i := fun y => by rw [y, z] at h3; cases h3
        omega
      · have : b ≠ j := fun y => by rw [y, z] at h4; cases h4
        omega)⟩
    refine sgX1_load_75 shU _ _ hd hS' ⟨fun z => absurd z (by rw [I.2.2.1]; exact nI_ge hj (by omega)), fun _ => ok_has (by omega) hS' (by omega) ?_⟩
    rw [I.2.2.2.1 i, nI_1]
    refine ⟨fun z => keep (Or.inl (bI_0.mp z)), fun z => ok_has (by omega) hS' (by omega) ?_⟩
    rw [I.2.2.2.1 j]
    refine ⟨fun z2 => keep (Or.inr (bI_0.mp z2)), fun z2 => ?_⟩
    refine ok_pairWorth (u := u) sh shU hd hS' V (by rw [I.1.i 8 1]; exact c.n) (by rw [I.1.i 1 5]; exact c.mk V) I.2.1 (su.fw shU I.1) hu (by omega) (by omega) fun q2 f2 L2 => ?_
    have e1 : nI i * (60 : Int32) + nI j = nI (60 * i + j) := by rw [lit_nI 60, pk_mul, nI_add, Nat.mul_comm]
    have e2 : nI j * (60 : Int32) + nI i = nI (60 * j + i) := by rw [lit_nI 60, pk_mul, nI_add, Nat.mul_comm]
    rw [e1, e2, nI_clamp (by omega), nI_clamp (by omega)]
    have f3 : Fr [56] [] q2 (hI (hI q2 56 (60 * i + j) (pwv σ w u i j)) 56 (60 * j + i) (pwv σ w u i j)) := Fr.tr Fr.pI Fr.pI
    refine ⟨vin (by omega), vin (by omega), ih (j + 1) _ (by omega) (by omega) ⟨Fr.tr I.1 (Fr.tr (Fr.mono f2) (Fr.mono f3)), L2.fr sh f3, by rw [f3.i 53 0, f2.i 53 0]; exact I.2.2.1, fun k => by rw [f3.l 53 1, f2.l 53 1]; exact I.2.2.2.1 k, fun a ha st k => by rw [f3.l 54 a, f3.l 55 a, f2.l 54 a, f2.l 55 a]; exact I.2.2.2.2.1 a ha st k, fun a b h1 h2 h3 h4 h5 => ?_⟩⟩
    rw [hI_if, hI_if, hI_if, hI_if, f2.i 56, f2.i 56]
    by_cases q1 : a = i ∧ b = j
    · rw [if_neg (by omega), if_pos (by omega), if_pos (by omega), q1.1, q1.2]; exact ⟨rfl, rfl⟩
    · rw [if_neg (by omega), if_neg (by omega), if_neg (by omega), if_neg (by omega)]
      exact I.2.2.2.2.2 a b h1 h2 h3 h4 (by omega)
theorem GI.gc (V : VS σ) {q : Hp} (I : GI σ w w S h q (nD σ) (fun a _ => a < nD σ)) : GC σ (jg0 σ w) q := by
  have hh : ∀ k, hdJ σ (jg0 σ w) k = stn σ k := fun k => by
    show (stn σ k && decide (k = k)) = _
    rw [decide_eq_true rfl, Bool.and_true]
  refine ⟨I.2.2.1, fun k => by rw [hh]; exact I.2.2.2.1 k, fun a ha k => ?_, fun a ha k => ?_, fun a b ha hb' hab => ?_⟩
  · rw [hh] at ha
    rw [(I.2.2.2.2.1 a (stn_al ha).2 ha k).1]
    show _ = (stn σ k && decide (k = a))
    by_cases e : k = a
    · rw [e, ha]; simp
    · rw [decide_eq_false e, Bool.and_false]
  · rw [hh] at ha
    rw [(I.2.2.2.2.1 a (stn_al ha).2 ha k).2]
    simp only [Bool.and_eq_true, Bool.not_eq_true', decide_eq_false_iff_not]
    refine ⟨fun z => ⟨a, ha, rfl, z.1.1, z.1.2, z.2⟩, fun ⟨i, p1, p2, p3, p4, p5⟩ => ?_⟩
    have : i = a := p2
    subst this
    exact ⟨⟨p3, p4⟩, p5⟩
  · rw [hh] at ha hb'
    have h1 := (stn_al ha).2
    have h2 := (stn_al hb').2
    show _ = pwv σ w w a b
    by_cases e : a < b
    · exact (I.2.2.2.2.2 a b e h2 ha hb' h1).1
    · rw [(I.2.2.2.2.2 b a (by omega) h1 hb' ha h2).2, pwv_sym]
theorem ok_gload {F : Hp → Prop} (sh : ShOK S) (shU : ShOK U) (hd : 6 ≤ d) (hS : Std h.2.2) (V : VS σ) (c : CS σ h) (L : LK σ w S h) (su : Shw w U h) (hu : ∀ k j, S03 (w k j))
    (hq : ∀ q, Fr [42, 43, 44, 54, 55, 56] [(53, 0), (53, 1)] h q → LK σ w S q → GC σ (jg0 σ w) q → F q) : OKv d mX1_load [.ref 53, .ref 8, .ref 34, .ref U] h F X := by
  have hD := V.d.2
  have f0 : Fr [] [(53, 0)] h (hI h 53 0 (h.1 8 1)) := Fr.pI
  have go : ∀ (n i : Nat) (q : Hp), i + n = nD σ → GI σ w w S h q i (fun a _ => a < i) → E mX1_load 5 0 0 19 [(0, .ref 53), (1, .ref 8), (2, .ref 34), (3, .ref U), (4, .int (nI i))] [] q (Qv F) X := by
    intro n
    induction n with
    | zero =>
      intro i q e I
      have : i = nD σ := by omega
      subst this
      exact sgX1_load_19 shU _ (Nat.le_refl _) (I.1.sd hS) ⟨fun _ => hq q I.1 I.2.1 (I.gc V), fun z => absurd (by rw [I.2.2.1]; exact Int32.le_refl _) z⟩
    | succ n ih =>
      intro i q e I
      have hi : i < nD σ := by omega
      have hS' := I.1.sd hS
      have step : ∀ (q2 : Hp), Fr [54, 55] [] q q2 → (∀ k, k ≠ i → q2.2.1 54 k = q.2.1 54 k ∧ q2.2.1 55 k = q.2.1 55 k) → (stn σ i = true → ∀ k, hb (q2.2.1 54 i) k = decide (k = i) ∧ hb (q2.2.1 55 i) k = (al σ k && brd σ i k && !decide (k = i))) →
          E mX1_load 5 0 0 75 [(0, .ref 53), (1, .ref 8), (2, .ref 34), (3, .ref U), (4, .int (nI i)), (5, .int (nI (i + 1)))] [] q2 (Qv F) X := fun q2 f2 k2 r2 => by
        refine lp_gload75 (w := w) (u := w) sh shU (Nat.le_refl _) hS V c su hu hi (fun q3 I3 => ih (i + 1) q3 (by omega) I3) (nD σ - (i + 1)) (i + 1) q2 (by omega) (by omega) ⟨Fr.tr I.1 (Fr.mono f2), I.2.1.fr sh f2, by rw [f2.i 53 0]; exact I.2.2.1, fun k => by rw [f2.l 53 1]; exact I.2.2.2.1 k, fun a ha st k => ?_, fun a b h1 h2 h3 h4 h5 => by rw [f2.i 56, f2.i 56]; exact I.2.2.2.2.2 a b h1 h2 h3 h4 (by omega)⟩
        by_cases e2 : a = i
        · subst e2; exact r2 st k
        · rw [(k2 a e2).1, (k2 a e2).2]; exact I.2.2.2.2.1 a (by omega) st k
      refine sgX1_load_19 shU _ (Nat.le_refl _) hS' ⟨fun z => absurd z (by rw [I.2.2.1]; exact nI_ge hi (by omega)), fun _ => ok_has (by omega) hS' (by omega) ?_⟩
      rw [I.2.2.2.1 i, nI_1, nI_clamp (by omega)]
      have c1 : ∀ v : Int64, CD σ (hL q 54 i v) := fun v => c.1.fr (Fr.tr I.1 (Fr.pL (v := v)))
      have sd1 : ∀ v : Int64, Std (hL q 54 i v).2.2 := fun v => (Fr.pL (L := [54]) (fs := []) (v := v)).sd hS'
      have fl : ∀ v r : Int64, Fr [54, 55] [] q (hL (hL q 54 i v) 55 i r) := fun v r => Fr.tr Fr.pL Fr.pL
      have kl : ∀ (v r : Int64) (k : Nat), k ≠ i → (hL (hL q 54 i v) 55 i r).2.1 54 k = q.2.1 54 k ∧ (hL (hL q 54 i v) 55 i r).2.1 55 k = q.2.1 55 k := fun v r k hk => ⟨by rw [hL_c (by decide), hL_j hk], by rw [hL_j hk, hL_c (by decide)]⟩
      refine ⟨fun z => ⟨vin (by omega), ok_barredAny (by omega) (sd1 _) V (c1 _) hi fun r => ⟨vin (by omega), step _ (fl _ _) (kl _ _) fun st => ?_⟩⟩, fun z => ok_only (by omega) hS' ⟨vin (by omega), ok_barredFrom (by omega) (sd1 _) V (c1 _) (stn_al (bI_n0.mp z)).1 fun r hr => ⟨vin (by omega), step _ (fl _ _) (kl _ _) fun st k => ⟨?_, ?_⟩⟩⟩⟩
      · rw [bI_0.mp z] at st; cases st
      · rw [hL_c (by decide), hL_k, hb_only (by omega)]
      · rw [hL_k]; exact hr k
  refine enX1_load shU hd hS (ok_standing (by omega) (f0.sd hS) V (c.1.fr f0) fun r hr => ?_)
  have f1 : Fr [] [(53, 0), (53, 1)] h (hL (hI h 53 0 (h.1 8 1)) 53 1 r) := Fr.tr (Fr.mono f0) Fr.pL
  exact go (nD σ) 0 _ (by omega) ⟨Fr.mono f1, L.fr sh f1, by rw [hL_i, hI_k]; exact c.n, fun k => by rw [hL_k]; exact hr k, fun a ha => absurd ha (Nat.not_lt_zero _), fun a b _ _ _ _ z => absurd z (Nat.not_lt_zero _)⟩
theorem ok_join {F : Hp → Prop} (hd : 7 ≤ d) (hS : Std h.2.2) (V : VS σ) (c : CS σ h) (hq : ∀ q, Kp scr h q → GC σ (grpS σ (wS σ late)) q → F q) : OKv d mX11_join [.ref 0, .int (bI late)] h F X := by
  have sh := SR_ok late
  refine enX11_join _ hd hS (ok_sheet (by omega) hS ⟨sh, ok_layC (w := wS σ late) sh (by omega) hS V c.1 (c.mk V) (c.sr late) fun q1 f1 L1 => ?_⟩)
  have k1 : Kp scr h q1 := kc_R sh hS f1
  have c1 := c.kc k1
  refine ok_gload (w := wS σ late) sh sh (by omega) k1.1 V c1 L1 (c1.sr late) (wS_03 V late) fun q2 f2 L2 G2 => ?_
  have k2 := k1.tr (f2.kc k1.1)
  exact ok_joinAll (by omega) k2.1 V (jg0_J V) G2 fun q3 f3 G3 => hq q3 (k2.tr (f3.kc k2.1)) G3
theorem ok_headOf {F : Int32 → Hp → Prop} {a : Nat} (hd : 2 ≤ d) (hS : Std h.2.2) (V : VS σ) (J : JJ σ s) (G : GC σ s h) (ha : stn σ a = true) (hq : F (nI (s.1 a)) h) : OKi d mX1_headOf [.ref 53, .int (nI a)] h F X := by
  have hD := V.d.2
  have h1 := J.1 a ha
  have lt := (stn_al ha).2
  have hh : hdJ σ s (s.1 a) = true := by rw [hdJ, h1.1, h1.2.1]; simp
  have go : ∀ n i : Nat, i + n = nD σ → i ≤ s.1 a → E mX1_headOf 1 0 0 2 [(0, .ref 53), (1, .int (nI a)), (2, .int (nI i))] [] h (Qi F) X := by
    intro n
    induction n with
    | zero => intro i e hi; omega
    | succ n ih =>
      intro i e hi
      refine sgX1_headOf_2 _ _ (Nat.le_refl _) hS ⟨fun z => absurd z (by rw [G.1]; exact nI_ge (by omega) (by omega)), fun _ => ok_has (by omega) hS (by omega) ?_⟩
      rw [G.2.1 i, nI_1, nI_clamp (by omega)]
      have ne : (hdJ σ s i = true → s.1 a ≠ i) → i ≠ s.1 a := fun z y => by
        rw [← y] at hh
        exact z hh y.symm
      refine ⟨fun z => ih (i + 1) (by omega) ?_, fun z => ⟨vin (by omega), ok_has (by omega) hS (by omega) ?_⟩⟩
      · have := ne fun y => by rw [bI_0.mp z] at y; cases y
        omega
      · have hi2 := bI_n0.mp z
        rw [G.2.2.1 i hi2 a, ha, Bool.true_and]
        refine ⟨fun z2 => ih (i + 1) (by omega) ?_, fun z2 => ?_⟩
        · have := of_decide_eq_false (bI_0.mp z2)
          omega
        · have := of_decide_eq_true (bI_n0.mp z2)
          rw [← this]; exact hq
  exact enX1_headOf _ hd hS (go (nD σ) 0 (by omega) (Nat.zero_le _))
end JOIND
