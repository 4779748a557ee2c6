/-! lots by the reference -/
section LOTSM
variable {σ h : Hp} {d : Nat} {X : String → Hp → Prop} {late : Bool} {a wv sd ti : Int32}
theorem lN_div {a b : Nat} (ha : a < 2 ^ 31) (h0 : 0 < b) (hb' : b < 2 ^ 31) : lN a / lN b = lN (a / b) := by
  have le : a / b ≤ a := Nat.div_le_self a b
  apply Int64.toInt_inj.mp
  have key : (a : Int).tdiv (b : Int) = ((a / b : Nat) : Int) := by rw [Int.tdiv_eq_ediv_of_nonneg (by omega), ← Int.natCast_ediv]
  rw [Int64.toInt_div, lN_toInt ha, lN_toInt hb', key]
  clear key
  generalize a / b = k at le ⊢
  rw [fb_bmodL (by omega) (by omega), lN_toInt (by omega)]
theorem lN_rem {a b : Nat} (ha : a < 2 ^ 31) (h0 : 0 < b) (hb' : b < 2 ^ 31) : lN a - lN a / lN b * lN b = lN (a % b) := by
  have le : a / b ≤ a := Nat.div_le_self a b
  have le2 : a / b * b ≤ a := Nat.div_mul_le_self a b
  have lt : a % b < b := Nat.mod_lt _ h0
  rw [lN_div ha h0 hb']
  apply Int64.toInt_inj.mp
  have e1 : lN (a / b) * lN b = lN (a / b * b) := (Int64.ofNat_mul (a / b) b).symm
  rw [e1, fb_subL (by rw [lN_toInt ha, lN_toInt (by omega)]; omega) (by rw [lN_toInt ha, lN_toInt (by omega)]; omega), lN_toInt ha, lN_toInt (by omega), lN_toInt (by omega)]
  have := Nat.div_add_mod' a b
  omega
theorem lN_i32 {n : Nat} (h : n < 2 ^ 31) : (lN n).toInt32 = nI n := by rw [← nI_64 h, Int32.toInt32_toInt64]
/-- the dealt states -/
def DR (σ : Hp) (i : Nat) (u : Nat → Nat → Int32) (q : Hp) : Prop := ∀ k m, k < lnum σ i → m < nM σ → q.1 134 (16 * lrow σ i k + m) = u (lrow σ i k) m
theorem lrow_inj (V : VS σ) {i k k' : Nat} (h : k < lnum σ i) (h' : k' < lnum σ i) (e : lrow σ i k = lrow σ i k') : k = k' := by
  have hD := V.d.2
  have h64 : ∀ j, LtP σ i j = true → j < 64 := fun j hj => by have := (LtP_in V hj).2.2; omega
  have e1 := (mbP_in h64 h).2.2
  have e2 := (mbP_in h64 h').2.2
  have e : mbP (LtP σ i) k = mbP (LtP σ i) k' := e
  rw [e] at e1
  omega
theorem lp_lots219 {F : Int32 → Hp → Prop} {i m k T : Nat} {of : Int32} (hS : Std h.2.2) (V : VS σ) (m3 : h.1 91 3 = nI (nM σ)) (hm : m < nM σ) (hr : ∀ k, k < lnum σ i → h.1 135 k = nI (lrow σ i k))
    {x0 : Int64} {u0 : Nat → Nat → Int32} (fin : ∀ (q : Hp), Fr [134] [] h q → DR σ i (dlR (lrow σ i) m (lnum σ i - 1) x0 u0).2 q → E mX12_lots 7 0 0 204 [(0, .ref 91), (1, .int a), (2, .int wv), (4, .int (nI T)), (6, .int (nI (lnum σ i))), (7, .long (dlR (lrow σ i) m (lnum σ i - 1) x0 u0).1), (9, .int of), (10, .int (nI k)), (11, .int (nI (m + 1)))] [] q (Qi F) X) :
    ∀ (j : Nat) (x : Int64) (u : Nat → Nat → Int32) (q : Hp), (j < lnum σ i ∨ j = 0) → dlR (lrow σ i) m j x u = dlR (lrow σ i) m (lnum σ i - 1) x0 u0 → Fr [134] [] h q → DR σ i u q →
    E mX12_lots 7 0 0 219 [(0, .ref 91), (1, .int a), (2, .int wv), (4, .int (nI T)), (6, .int (nI (lnum σ i))), (7, .long x), (9, .int of), (10, .int (nI k)), (11, .int (nI m)), (12, .int (nI j))] [] q (Qi F) X := by
  have hD := V.d.2
  have hM := V.m.2
  have n60 : lnum σ i ≤ 60 := Nat.le_trans (fb_ct_le _ _) hD
  intro j
  induction j with
  | zero =>
    intro x u q _ e fr R
    refine sgX12_lots_219 _ _ _ _ _ _ _ _ _ (Nat.le_refl _) (fr.sd hS) ⟨fun _ => ?_, fun z => absurd (Int32.le_refl _) z⟩
    rw [nI_1]
    have e0 : dlR (lrow σ i) m 0 x u = (x, u) := rfl
    rw [e0] at e
    have := fin q fr
    rw [← e] at this
    exact this R
  | succ j ih =>
    intro x u q hj e fr R
    have hj : j + 1 < lnum σ i := by omega
    have hS' := fr.sd hS
    obtain ⟨en, ln⟩ := nxt_n x
    have jl := rj_lt x (j + 1)
    have ri := lrow_in V hj
    have rjj := lrow_in V (i := i) (k := rj x (j + 1)) (by omega)
    have e1 : (x * 1103515245 + 12345 &&& 2147483647 : Int64) = nxtL x := rfl
    have e3 : (nI (j + 1) + (1 : Int32)).toInt64 = lN (j + 1 + 1) := by rw [nI_1, nI_64 (by omega)]
    have e4 : (nxtL x / (65536 : Int64) - nxtL x / (65536 : Int64) / lN (j + 1 + 1) * lN (j + 1 + 1)).toInt32 = nI (rj x (j + 1)) := by
      have e5 : nxtL x / (65536 : Int64) = lN (nxtN x / 65536) := by
        rw [en]
        exact lN_div (b := 65536) ln (by decide) (by decide)
      rw [e5, lN_rem (Nat.lt_of_le_of_lt (Nat.div_le_self _ _) ln) (by omega) (by omega), lN_i32 (by have : nxtN x / 65536 % (j + 1 + 1) < j + 1 + 1 := Nat.mod_lt _ (by omega); omega)]
      rfl
    have ei : ∀ c : Nat, (16 : Int32) * nI c + nI m = nI (16 * c + m) := fun c => by rw [lit_nI 16, pk_mul, nI_add]
    refine sgX12_lots_219 _ _ _ _ _ _ _ _ _ (Nat.le_refl _) hS' ⟨fun z => absurd z (nI_ge (a := 0) (by omega) (by omega)), fun _ => ?_⟩
    rw [e1, e3, e4, nI_clamp (by omega), nI_clamp (by omega), fr.i 135, fr.i 135, hr (j + 1) hj, hr (rj x (j + 1)) (by omega), ei, ei, nI_clamp (by omega), nI_clamp (by omega), R (j + 1) m hj hm, R (rj x (j + 1)) m (by omega) hm, pk_m1]
    refine ⟨vin (by omega), fun z => ?_, vin (by omega), vin (by omega), vin (by omega), vin (by omega), vin (by omega), ih (nxtL x) (swp u (lrow σ i (j + 1)) (lrow σ i (rj x (j + 1))) m) _ (by omega) e (Fr.tr fr (Fr.tr Fr.pI Fr.pI)) fun k' m' hk' hm' => ?_⟩
    · have t := congrArg Int64.toInt z
      rw [lN_toInt (by omega)] at t
      have : (0 : Int64).toInt = 0 := rfl
      rw [this] at t
      omega
    · show _ = (if lrow σ i k' = lrow σ i (rj x (j + 1)) ∧ m' = m then u (lrow σ i (j + 1)) m else (if lrow σ i k' = lrow σ i (j + 1) ∧ m' = m then u (lrow σ i (rj x (j + 1))) m else u (lrow σ i k') m'))
      rw [hI_if, hI_if]
      by_cases q1 : lrow σ i k' = lrow σ i (rj x (j + 1)) ∧ m' = m
      · rw [if_pos (by rw [q1.1, q1.2]), if_pos q1]
      · rw [if_neg (by omega), if_neg q1]
        by_cases q2 : lrow σ i k' = lrow σ i (j + 1) ∧ m' = m
        · rw [if_pos (by rw [q2.1, q2.2]), if_pos q2]
        · rw [if_neg (by omega), if_neg q2]
          exact R k' m' hk' hm'
theorem ok_lotsM {F : Int32 → Hp → Prop} (hd : 8 ≤ d) (hS : Std h.2.2) (V : VS σ) (mc : MC σ h) (ak : h.1 91 36 = -1) (hq : MR h (cdLots σ a sd ti) (vLots σ late a wv sd ti) F) : OKi d mX12_lots [.ref 91, .int a, .int wv, .int sd, .int ti, .int (bI late)] h F X := by
  have hD := V.d.2
  have hM := V.m.2
  have kk : Kp scm h (hI h 91 0 0) := k0 (Kp.rf hS)
  refine enX12_lots _ _ _ _ _ hd hS (ok_isDeedM (by omega) kk.1 V (mc.km kk) ⟨fun z => ok_failsM (n := 1) (by omega) kk (by rw [cdLots, if_neg (by rw [bI_0.mp z]; decide)]) (by decide) hq, fun z => ⟨fun z2 => ok_failsM (n := 2) (by omega) kk (by rw [cdLots, if_pos (bI_n0.mp z), if_pos (Or.inl z2)]) (by decide) hq, fun z2 => ok_isWM (a := 1) (b := 20) rfl rfl (by omega) kk.1 ⟨fun z3 => ok_failsM (n := 2) (by omega) kk (by rw [cdLots, if_pos (bI_n0.mp z), if_pos (Or.inr (bI_0.mp z3))]) (by decide) hq, fun z3 => ?_⟩⟩⟩)
  have h1 := bI_n0.mp z
  have hw := bI_n0.mp z3
  have nn : ¬ (sd < 0 ∨ isW ti 1 20 = false) := by
    rintro (y | y)
    · exact z2 y
    · rw [hw] at y; cases y
  obtain ⟨i, ali, em, hi⟩ := isD_t V h1
  obtain ⟨T, t1', t2', et⟩ := isW_1 hw
  subst em et
  rw [nI_clamp (by omega), hI_c (by decide), mc.i 104 i]
  refine ⟨vin (by omega), fun z4 => ?_, fun z4 => ok_failsM (n := 3) (by omega) kk ?_ (by decide) hq⟩
  · have h2 : dbt σ i = false := by rw [dbt, decide_eq_true z4]; rfl
    have e : cdLots σ (nI i) sd (nI T) = 0 := by rw [cdLots, if_pos h1, if_neg nn, nI_clamp (by omega), h2]; rfl
    rw [e] at hq
    refine ok_layK (late := late) (by omega) kk.1 V (mc.km kk) (by rw [hI_j (by decide)]; exact ak) fun q1 k1 e0 R1 => ?_
    have kq1 := kk.tr k1
    have n60 : lnum σ i ≤ 60 := Nat.le_trans (fb_ct_le _ _) hD
    have h64 : ∀ j, LtP σ i j = true → j < 64 := fun j hj => by have := (LtP_in V hj).2.2; omega
    have times : ∀ (q2 : Hp), Fr [135] [] q1 q2 → (∀ k, k < lnum σ i → q2.1 135 k = nI (lrow σ i k)) → ∀ (n k : Nat) (q : Hp), k + n = T → Fr [134] [] q2 q → E mX12_lots 7 0 0 124 [(0, .ref 91), (1, .int (nI i)), (2, .int wv), (4, .int (nI T)), (6, .int (nI (lnum σ i))), (7, .long (ltS σ late i wv sd.toInt64 k).1), (9, .int (nI (ltS σ late i wv sd.toInt64 k).2)), (10, .int (nI k))] [] q (Qi F) X := by
      intro q2 f2 r2 n
      have kq2 := kq1.tr (f2.km k1.1)
      have m2 := mc.km kq2
      induction n with
      | zero =>
        intro k q ek fq
        have : k = T := by omega
        subst this
        refine sgX12_lots_124 _ _ _ _ _ _ _ (Nat.le_refl _) (fq.sd kq2.1) ⟨fun _ => hq q _ (kq2.tr (fq.km kq2.1)) (by rw [fq.i 91 0, f2.i 91 0, e0, hI_k]; rfl) fun _ => ?_, fun y => absurd (Int32.le_refl _) y⟩
        rw [vLots, nI_clamp (by omega), nI_clamp (by omega)]
      | succ n ih =>
        intro k q ek fq
        have hSq := fq.sd kq2.1
        have q3 : q.1 91 3 = nI (nM σ) := by rw [fq.i 91 3, m2.i 91 3, V.m.1]
        refine sgX12_lots_124 _ _ _ _ _ _ _ (Nat.le_refl _) hSq ⟨fun y => absurd y (nI_ge (by omega) (by omega)), fun _ => ?_⟩
        have check : ∀ (g : Hp), Fr [134] [] q2 g → DR σ i (dlt σ late i (ltS σ late i wv sd.toInt64 k).1).2 g → E mX12_lots 7 0 0 331 [(0, .ref 91), (1, .int (nI i)), (2, .int wv), (4, .int (nI T)), (6, .int (nI (lnum σ i))), (7, .long (dlt σ late i (ltS σ late i wv sd.toInt64 k).1).1), (9, .int (nI (ltS σ late i wv sd.toInt64 k).2)), (10, .int (nI k)), (11, .int 0), (12, .int 0)] [] g (Qi F) X := by
          intro g fg Dg
          have hSg := fg.sd kq2.1
          have u0 : ∀ m, (dlt σ late i (ltS σ late i wv sd.toInt64 k).1).2 i m = wS σ late i m := fun m => dlA_off (fun j hj => (lrow_in V hj).2.1) (nM σ) m
          have es : (ltS σ late i wv sd.toInt64 (k + 1)).2 = (ltS σ late i wv sd.toInt64 k).2 + if anyW σ late i wv (dlt σ late i (ltS σ late i wv sd.toInt64 k).1).2 (lnum σ i) then 1 else 0 := rfl
          have nxt := ih (k + 1) g (by omega) fg
          rw [es] at nxt
          have out0 : anyW σ late i wv (dlt σ late i (ltS σ late i wv sd.toInt64 k).1).2 (lnum σ i) = false → E mX12_lots 7 0 0 124 [(0, .ref 91), (1, .int (nI i)), (2, .int wv), (4, .int (nI T)), (6, .int (nI (lnum σ i))), (7, .long (dlt σ late i (ltS σ late i wv sd.toInt64 k).1).1), (9, .int (nI (ltS σ late i wv sd.toInt64 k).2 + 0)), (10, .int (nI (k + 1)))] [] g (Qi F) X := fun y => by
            rw [y, if_neg (by decide), Nat.add_zero] at nxt
            rw [Int32.add_zero]; exact nxt
          have out1 : anyW σ late i wv (dlt σ late i (ltS σ late i wv sd.toInt64 k).1).2 (lnum σ i) = true → E mX12_lots 7 0 0 124 [(0, .ref 91), (1, .int (nI i)), (2, .int wv), (4, .int (nI T)), (6, .int (nI (lnum σ i))), (7, .long (dlt σ late i (ltS σ late i wv sd.toInt64 k).1).1), (9, .int (nI (ltS σ late i wv sd.toInt64 k).2 + 1)), (10, .int (nI (k + 1)))] [] g (Qi F) X := fun y => by
            rw [y, if_pos rfl, ← nI_1] at nxt
            exact nxt
          have fg1 : Fr [134, 135] [] q1 g := Fr.tr (Fr.mono f2) (Fr.mono fg)
          have Rg : RLaid σ (wS σ late) g := R1.fr fg1
          have go : ∀ n j : Nat, j + n = lnum σ i → anyW σ late i wv (dlt σ late i (ltS σ late i wv sd.toInt64 k).1).2 j = false → E mX12_lots 7 0 0 331 [(0, .ref 91), (1, .int (nI i)), (2, .int wv), (4, .int (nI T)), (6, .int (nI (lnum σ i))), (7, .long (dlt σ late i (ltS σ late i wv sd.toInt64 k).1).1), (9, .int (nI (ltS σ late i wv sd.toInt64 k).2)), (10, .int (nI k)), (11, .int 0), (12, .int (nI j))] [] g (Qi F) X := by
            intro n
            induction n with
            | zero =>
              intro j ej no
              have : j = lnum σ i := by omega
              subst this
              refine sgX12_lots_331 _ _ _ _ _ _ _ _ _ (Nat.le_refl _) hSg ⟨fun _ => ⟨fun _ => ?_, fun y => absurd rfl y⟩, fun y => absurd (Int32.le_refl _) y⟩
              rw [nI_1 k]
              exact out0 no
            | succ n ih3 =>
              intro j ej no
              have hj : j < lnum σ i := by omega
              have rj := lrow_in V hj
              refine sgX12_lots_331 _ _ _ _ _ _ _ _ _ (Nat.le_refl _) hSg ⟨fun y => absurd y (nI_ge hj (by omega)), fun _ => ⟨fun _ => ⟨vin (by omega), ?_⟩, fun y => absurd rfl y⟩⟩
              rw [nI_clamp (by omega), fg.i 135 j, r2 j hj]
              refine ok_worthOfX (w := wS σ late) (u := (dlt σ late i (ltS σ late i wv sd.toInt64 k).1).2) ⟨sa_112, by decide⟩ ⟨sa_134, by decide⟩ (by omega) hSg V (by rw [fg.i 91 3, m2.i 91 3, V.m.1]) Rg.2.2.1 Rg.2.2.2.2 (fun m hm => by rw [u0]; exact Rg.1 i m hi (by omega)) (fun m hm => Dg j m hj hm) (by omega) (by omega) ⟨fun y => ?_, fun y => ?_⟩
              · rw [nI_1 j]
                exact ih3 (j + 1) (by omega) (by rw [anyW_s, no, decide_eq_false (Int32.not_le.mpr y)]; rfl)
              · have yes : anyW σ late i wv (dlt σ late i (ltS σ late i wv sd.toInt64 k).1).2 (lnum σ i) = true := anyW_up (m := j + 1) (by omega) (by rw [anyW_s, decide_eq_true (Int32.not_lt.mp y), Bool.or_true])
                rw [nI_1 j]
                refine sgX12_lots_331 _ _ _ _ _ _ _ _ _ (Nat.le_refl _) hSg ⟨fun _ => ⟨fun y2 => absurd y2 (by decide), fun _ => ?_⟩, fun _ => ⟨fun y2 => absurd y2 (by decide), fun _ => ⟨fun y2 => absurd y2 (by decide), fun _ => ?_⟩⟩⟩
                · rw [nI_1 k]; exact out1 yes
                · rw [nI_1 k]; exact out1 yes
          exact go (lnum σ i) 0 (by omega) rfl
        have deal : ∀ (m j : Nat) (g : Hp), j + m = nM σ → Fr [134] [] q2 g → DR σ i (dlA (lrow σ i) (lnum σ i) (wS σ late) (ltS σ late i wv sd.toInt64 k).1 j).2 g →
            E mX12_lots 7 0 0 204 [(0, .ref 91), (1, .int (nI i)), (2, .int wv), (4, .int (nI T)), (6, .int (nI (lnum σ i))), (7, .long (dlA (lrow σ i) (lnum σ i) (wS σ late) (ltS σ late i wv sd.toInt64 k).1 j).1), (9, .int (nI (ltS σ late i wv sd.toInt64 k).2)), (10, .int (nI k)), (11, .int (nI j))] [] g (Qi F) X := by
          intro m
          induction m with
          | zero =>
            intro j g ej fg Dg
            have : j = nM σ := by omega
            subst this
            exact sgX12_lots_204 _ _ _ _ _ _ _ _ (Nat.le_refl _) (fg.sd kq2.1) ⟨fun _ => check g fg Dg, fun y => absurd (by rw [fg.i 91 3, m2.i 91 3, V.m.1]; exact Int32.le_refl _) y⟩
          | succ m ih2 =>
            intro j g ej fg Dg
            have hj : j < nM σ := by omega
            have g3 : g.1 91 3 = nI (nM σ) := by rw [fg.i 91 3, m2.i 91 3, V.m.1]
            refine sgX12_lots_204 _ _ _ _ _ _ _ _ (Nat.le_refl _) (fg.sd kq2.1) ⟨fun y => absurd y (by rw [g3]; exact nI_ge hj (by omega)), fun _ => ?_⟩
            have step := lp_lots219 (a := nI i) (wv := wv) (k := k) (T := T) (of := nI (ltS σ late i wv sd.toInt64 k).2) (h := g) (F := F) (X := X) (fg.sd kq2.1) V g3 hj (fun k' hk' => by rw [fg.i 135 k']; exact r2 k' hk') (x0 := (dlA (lrow σ i) (lnum σ i) (wS σ late) (ltS σ late i wv sd.toInt64 k).1 j).1) (u0 := (dlA (lrow σ i) (lnum σ i) (wS σ late) (ltS σ late i wv sd.toInt64 k).1 j).2) (fun g2 fr2 D2 => ih2 (j + 1) g2 (by omega) (Fr.tr fg fr2) D2)
            by_cases h0 : lnum σ i = 0
            · have e9 : nI (lnum σ i) - (1 : Int32) = -1 := by rw [h0]; decide
              rw [e9]
              refine sgX12_lots_219 _ _ _ _ _ _ _ _ _ (Nat.le_refl _) (fg.sd kq2.1) ⟨fun _ => ?_, fun y => absurd (show (-1 : Int32) ≤ 0 by decide) y⟩
              rw [nI_1]
              refine ih2 (j + 1) g (by omega) fg (fun k' m' hk' => by omega) |> fun z => ?_
              have ee : dlA (lrow σ i) (lnum σ i) (wS σ late) (ltS σ late i wv sd.toInt64 k).1 (j + 1) = dlA (lrow σ i) (lnum σ i) (wS σ late) (ltS σ late i wv sd.toInt64 k).1 j := by
                rw [dlA, h0]; rfl
              rw [ee] at z
              exact z
            · obtain ⟨c, hc⟩ : ∃ c, lnum σ i = c + 1 := ⟨lnum σ i - 1, by omega⟩
              have e9 : nI (lnum σ i) - (1 : Int32) = nI (lnum σ i - 1) := by rw [hc, nI_m1]; rfl
              rw [e9]
              exact step (lnum σ i - 1) _ _ g (by omega) rfl Fr.rf Dg
        have copy : ∀ (m j : Nat) (g : Hp), j + m = lnum σ i → Fr [134] [] q2 g → (∀ k' m', k' < j → m' < nM σ → g.1 134 (16 * lrow σ i k' + m') = wS σ late (lrow σ i k') m') →
            E mX12_lots 7 0 0 134 [(0, .ref 91), (1, .int (nI i)), (2, .int wv), (4, .int (nI T)), (6, .int (nI (lnum σ i))), (7, .long (ltS σ late i wv sd.toInt64 k).1), (9, .int (nI (ltS σ late i wv sd.toInt64 k).2)), (10, .int (nI k)), (11, .int (nI j))] [] g (Qi F) X := by
          intro m
          induction m with
          | zero =>
            intro j g ej fg Cg
            have : j = lnum σ i := by omega
            subst this
            exact sgX12_lots_134 _ _ _ _ _ _ _ _ (Nat.le_refl _) (fg.sd kq2.1) ⟨fun _ => deal (nM σ) 0 g (by omega) fg fun k' m' hk' hm' => Cg k' m' hk' hm', fun y => absurd (Int32.le_refl _) y⟩
          | succ m ih2 =>
            intro j g ej fg Cg
            have hj : j < lnum σ i := by omega
            have rj := lrow_in V hj
            refine sgX12_lots_134 _ _ _ _ _ _ _ _ (Nat.le_refl _) (fg.sd kq2.1) ⟨fun y => absurd y (nI_ge hj (by omega)), fun _ => ?_⟩
            have inner : ∀ (n b : Nat) (g2 : Hp), b + n = nM σ → Fr [134] [] q2 g2 → (∀ k' m', (k' < j ∨ (k' = j ∧ m' < b)) → m' < nM σ → g2.1 134 (16 * lrow σ i k' + m') = wS σ late (lrow σ i k') m') →
                E mX12_lots 7 0 0 144 [(0, .ref 91), (1, .int (nI i)), (2, .int wv), (4, .int (nI T)), (6, .int (nI (lnum σ i))), (7, .long (ltS σ late i wv sd.toInt64 k).1), (9, .int (nI (ltS σ late i wv sd.toInt64 k).2)), (10, .int (nI k)), (11, .int (nI j)), (12, .int (nI b))] [] g2 (Qi F) X := by
              intro n
              induction n with
              | zero =>
                intro b g2 eb f4 C2
                have : b = nM σ := by omega
                subst this
                refine sgX12_lots_144 _ _ _ _ _ _ _ _ _ (Nat.le_refl _) (f4.sd kq2.1) ⟨fun _ => ?_, fun y => absurd (by rw [f4.i 91 3, m2.i 91 3, V.m.1]; exact Int32.le_refl _) y⟩
                rw [nI_1 j]
                exact ih2 (j + 1) g2 (by omega) f4 fun k' m' hk' hm' => C2 k' m' (by omega) hm'
              | succ n ih3 =>
                intro b g2 eb f4 C2
                have hb' : b < nM σ := by omega
                have ei : (16 : Int32) * nI (lrow σ i j) + nI b = nI (16 * lrow σ i j + b) := by rw [lit_nI 16, pk_mul, nI_add]
                refine sgX12_lots_144 _ _ _ _ _ _ _ _ _ (Nat.le_refl _) (f4.sd kq2.1) ⟨fun y => absurd y (by rw [f4.i 91 3, m2.i 91 3, V.m.1]; exact nI_ge hb' (by omega)), fun _ => ?_⟩
                rw [nI_clamp (by omega), f4.i 135 j, r2 j hj, ei, nI_clamp (by omega), nI_1 b]
                refine ⟨vin (by omega), vin (by omega), vin (by omega), vin (by omega), ih3 (b + 1) _ (by omega) (Fr.tr f4 Fr.pI) fun k' m' hk' hm' => ?_⟩
                rw [hI_if]
                by_cases q9 : 16 * lrow σ i k' + m' = 16 * lrow σ i j + b
                · have e5 : lrow σ i k' = lrow σ i j := by omega
                  have e6 : m' = b := by omega
                  rw [if_pos q9, e5, e6, f4.i 112, f2.i 112]
                  exact R1.1 _ b rj.2.2 (by omega)
                · rw [if_neg q9]
                  refine C2 k' m' ?_ hm'
                  have : ¬ (k' = j ∧ m' = b) := fun y => q9 (by rw [y.1, y.2])
                  omega
            exact inner (nM σ) 0 g (by omega) fg fun k' m' hk' hm' => Cg k' m' (by omega) hm'
        exact copy (lnum σ i) 0 q (by omega) fq fun k' m' hk' => absurd hk' (Nat.not_lt_zero _)
    have row : ∀ (n j : Nat) (q : Hp), j + n = nD σ → Fr [135] [] q1 q → (∀ k, k < fb_ct (LtP σ i) j → q.1 135 k = nI (lrow σ i k)) → E mX12_lots 7 0 0 69 [(0, .ref 91), (1, .int (nI i)), (2, .int wv), (3, .int sd), (4, .int (nI T)), (6, .int (nI (fb_ct (LtP σ i) j))), (7, .int (nI j))] [] q (Qi F) X := by
      intro n
      induction n with
      | zero =>
        intro j q ej fq I
        have : j = nD σ := by omega
        subst this
        have m2 := mc.km (kq1.tr (fq.km k1.1))
        exact sgX12_lots_69 _ _ _ _ _ _ (Nat.le_refl _) (fq.sd k1.1) ⟨fun _ => times q fq I T 0 q (by omega) Fr.rf, fun y => absurd (by rw [m2.i 91 6, V.d.1]; exact Int32.le_refl _) y⟩
      | succ n ih =>
        intro j q ej fq I
        have hj : j < nD σ := by omega
        have mono := fb_ct_le (LtP σ i) j
        have m2 := mc.km (kq1.tr (fq.km k1.1))
        have skip : LtP σ i j = false → E mX12_lots 7 0 0 69 [(0, .ref 91), (1, .int (nI i)), (2, .int wv), (3, .int sd), (4, .int (nI T)), (6, .int (nI (fb_ct (LtP σ i) j))), (7, .int (nI (j + 1)))] [] q (Qi F) X := fun y => by
          have es : fb_ct (LtP σ i) (j + 1) = fb_ct (LtP σ i) j := by rw [fb_ct_succ, y, if_neg (by decide), Nat.add_zero]
          have := ih (j + 1) q (by omega) fq (fun k hk => I k (by rw [← es]; exact hk))
          rw [es] at this
          exact this
        refine sgX12_lots_69 _ _ _ _ _ _ (Nat.le_refl _) (fq.sd k1.1) ⟨fun y => absurd y (by rw [m2.i 91 6, V.d.1]; exact nI_ge hj (by omega)), fun _ => ?_⟩
        rw [nI_1 j, nI_eq (by omega) (by omega)]
        refine ⟨fun y => skip (by rw [LtP, decide_eq_true y]; simp), fun ne => ok_standsM (by omega) (fq.sd k1.1) V m2 hj ⟨fun y => skip (by rw [LtP, bI_0.mp y]; rfl), fun y => ⟨vin (by omega), ?_⟩⟩⟩
        have yes : LtP σ i j = true := by rw [LtP, bI_n0.mp y, decide_eq_false ne]; rfl
        have es : fb_ct (LtP σ i) (j + 1) = fb_ct (LtP σ i) j + 1 := by rw [fb_ct_succ, yes, if_pos rfl]
        rw [nI_1, ← es, nI_clamp (by omega)]
        refine ih (j + 1) _ (by omega) (Fr.tr fq Fr.pI) fun k hk => ?_
        rw [hI_if]
        by_cases e2 : k = fb_ct (LtP σ i) j
        · rw [if_pos e2, e2, lrow, mbP_at h64 yes]
        · rw [if_neg e2]; exact I k (by omega)
    exact row (nD σ) 0 q1 (by omega) Fr.rf fun k hk => absurd hk (Nat.not_lt_zero _)
  · have h2 : dbt σ i = true := by rw [dbt, decide_eq_false z4]; rfl
    rw [cdLots, if_pos h1, if_neg nn, nI_clamp (by omega), h2]; rfl
end LOTSM
