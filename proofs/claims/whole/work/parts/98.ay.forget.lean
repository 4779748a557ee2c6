/-! right, forget, window -/
section OPSP
variable {σ h : Hp} {d : Nat} {X : String → Hp → Prop} {F : Int32 → Hp → Prop} {G : Hp → Prop} {x y a o : Int32} {is : Bool}
theorem VS.lk (V : VS σ) {k : Nat} (hk : k < nL σ) : ∃ a b, σ.1 110 k = nI a ∧ σ.1 111 k = nI b ∧ al σ a = true ∧ al σ b = true ∧ a ≠ b := V.2.2.2.2.2.2.2.2.2.2.2.2.1 k hk
def jdg (σ : Hp) (right : Bool) (i j : Nat) : Bool := if right then one σ i j else !one σ i j && (sol σ i && sol σ j)
def rtP (σ : Hp) (o : Int32) (right : Bool) (k : Nat) : Bool := decide (σ.1 109 k = o) && jdg σ right (σ.1 110 k).toNatClampNeg (σ.1 111 k).toNatClampNeg
def cdOff (σ : Hp) (o : Int32) : Nat := if isN o (nO σ) = true then 0 else 1
def vRight (σ : Hp) (o : Int32) (right : Bool) : Int32 := nI (fb_ct (rtP σ o right) (nL σ))
theorem ok_isJudged {i j : Nat} (hd : 3 ≤ d) (hS : Std h.2.2) (V : VS σ) (c : CD σ h) (ai : al σ i = true) (aj : al σ j = true) (ne : i ≠ j) (hq : F (bI (jdg σ is i j)) h) : OKi d mX11_isJudged [.ref 0, .int (nI i), .int (nI j), .int (bI is)] h F X := by
  have hD := V.d.2
  have hi := al_lt ai
  have hj := al_lt aj
  refine enX11_isJudged _ _ _ hd hS (ok_oneWith (by omega) hS V c hi fun r hr => ok_has (by omega) hS (by omega) ?_)
  rw [hr, ai, aj, decide_eq_false (Ne.symm ne), Bool.not_false, Bool.and_true, Bool.true_and, Bool.true_and]
  rw [jdg] at hq
  cases is
  · refine ⟨fun _ => ⟨fun z => ok_has (by omega) hS (by omega) ?_, fun z => ?_⟩, fun z => absurd rfl z⟩
    · rw [bI_0.mp z] at hq
      rw [c.sol, ai, Bool.true_and]
      refine ⟨fun z2 => ?_, fun z2 => ok_has (by omega) hS (by omega) ?_⟩
      · rw [bI_0.mp z2] at hq; exact hq
      · rw [c.sol, aj, Bool.true_and]
        rw [bI_n0.mp z2] at hq
        refine ⟨fun z3 => ?_, fun z3 => ?_⟩
        · rw [bI_0.mp z3] at hq; exact hq
        · rw [bI_n0.mp z3] at hq; exact hq
    · rw [bI_n0.mp z] at hq; exact hq
  · exact ⟨fun z => absurd z (by decide), fun _ => ⟨bI_01 _, hq⟩⟩
theorem ok_rightC (hd : 8 ≤ d) (hS : Std h.2.2) (V : VS σ) (c : CS σ h) (hq : CR h (cdOff σ o) (vRight σ o is) (t1 nse) F X) : OKi d mX11_right [.ref 0, .int o, .int (bI is)] h F X := by
  have hD := V.d.2
  have hL := V.l.2
  have ck := c.2.2.2.1
  refine enX11_right _ _ hd hS (ok_needOfficer (by omega) hS V c.2.2.1 (fun h0 => ?_) fun h0 => ?_)
  · have e : cdOff σ o = 0 := if_pos h0
    rw [e] at hq
    have fin := hq.1 rfl h (Kp.rf hS)
    have go : ∀ n k : Nat, k + n = nL σ → E mX11_right 7 1 6 10 [(0, .ref 0), (1, .int o), (2, .int (bI is)), (3, .int (nI (fb_ct (rtP σ o is) k))), (4, .int (nI k))] [] h (Qi F) X := by
      intro n
      induction n with
      | zero =>
        intro k e
        have : k = nL σ := by omega
        subst this
        exact sgX11_right_10k _ _ _ _ (Nat.le_refl _) hS ⟨fun _ => fin, fun w => absurd (by rw [ck.1]; exact Int32.le_refl _) w⟩
      | succ n ih =>
        intro k e
        have hk : k < nL σ := by omega
        have nx := ih (k + 1) (by omega)
        rw [fb_ct_succ] at nx
        obtain ⟨e1, e2, e3⟩ := ck.2 k hk
        obtain ⟨i, j, ei, ej, ai, aj, ne⟩ := V.lk hk
        have hi := al_lt ai
        have hj := al_lt aj
        have er : rtP σ o is k = (decide (σ.1 109 k = o) && jdg σ is i j) := by rw [rtP, ei, ej, nI_clamp (by omega), nI_clamp (by omega)]
        refine sgX11_right_10k _ _ _ _ (Nat.le_refl _) hS ⟨fun w => absurd w (by rw [ck.1]; exact nI_ge hk (by omega)), fun _ => ?_⟩
        rw [nI_clamp (by omega), e1, e2, e3, ei, ej, nI_1 k]
        refine ⟨vin (by omega), fun w => ⟨vin (by omega), vin (by omega), ok_isJudged (by omega) hS V c.1 ai aj ne ⟨fun w2 => ?_, fun w2 => ?_⟩⟩, fun w => ?_⟩
        · rw [er, bI_0.mp w2, Bool.and_false, if_neg (by decide), Nat.add_zero] at nx; exact nx
        · rw [er, bI_n0.mp w2, decide_eq_true w, if_pos (show (true && true) = true from rfl), ← nI_1] at nx; exact nx
        · rw [er, decide_eq_false w, Bool.false_and, if_neg (by decide), Nat.add_zero] at nx; exact nx
    exact go _ 0 (Nat.zero_add _)
  · have e : cdOff σ o = 1 := by rw [cdOff, h0]; rfl
    rw [e] at hq
    exact hq.2 (by decide) h (Kp.rf hS)
theorem jdg_m (i j : Nat) : ((sol σ i && sol σ j) && decide (one σ i j = is)) = jdg σ is i j := by
  rw [jdg, one]
  cases sol σ i <;> cases sol σ j <;> cases is <;> cases (isof σ j (σ.1 102 i) || isof σ j (σ.1 103 i)) <;> rfl
theorem ok_rightM (hd : 4 ≤ d) (hS : Std h.2.2) (V : VS σ) (mc : MC σ h) (hq : MR h (cdOff σ o) (vRight σ o is) F) : OKi d mX12_right [.ref 91, .int o, .int (bI is)] h F X := by
  have hD := V.d.2
  have hL := V.l.2
  have kk : Kp scm h (hI h 91 0 0) := k0 (Kp.rf hS)
  have mk := mc.km kk
  refine OKi.up hd (oki_of 3 (by decide +kernel) (Nat.le_of_ble_eq_true rfl) (sgX12_right_0 _ _ (Nat.le_of_ble_eq_true rfl) hS (ok_isOfficerM (by omega) kk.1 V mk ⟨fun z => ok_failsM (n := 1) (by omega) kk (by rw [cdOff, bI_0.mp z]; rfl) (by decide) hq, fun z => ?_⟩)))
  have e : cdOff σ o = 0 := if_pos (bI_n0.mp z)
  rw [e] at hq
  have fin := hq _ (vRight σ o is) kk hI_k fun _ => rfl
  have e7 : (hI h 91 0 0).1 91 7 = nI (nL σ) := by rw [mk.i 91 7]; exact V.l.1
  have go : ∀ n k : Nat, k + n = nL σ → E mX12_right 3 0 0 24 [(0, .ref 91), (1, .int o), (2, .int (bI is)), (3, .int (nI (fb_ct (rtP σ o is) k))), (4, .int (nI k))] [] (hI h 91 0 0) (Qi F) X := by
    intro n
    induction n with
    | zero =>
      intro k e
      have : k = nL σ := by omega
      subst this
      exact sgX12_right_24 _ _ _ _ (Nat.le_of_ble_eq_true rfl) kk.1 ⟨fun _ => fin, fun w => absurd (by rw [e7]; exact Int32.le_refl _) w⟩
    | succ n ih =>
      intro k e
      have hk : k < nL σ := by omega
      have nx := ih (k + 1) (by omega)
      rw [fb_ct_succ] at nx
      obtain ⟨i, j, ei, ej, ai, aj, ne⟩ := V.lk hk
      have hi := al_lt ai
      have hj := al_lt aj
      have er : rtP σ o is k = (decide (σ.1 109 k = o) && ((sol σ i && sol σ j) && decide (one σ i j = is))) := by rw [jdg_m, rtP, ei, ej, nI_clamp (by omega), nI_clamp (by omega)]
      have skip : rtP σ o is k = false → E mX12_right 3 0 0 24 [(0, .ref 91), (1, .int o), (2, .int (bI is)), (3, .int (nI (fb_ct (rtP σ o is) k))), (4, .int (nI (k + 1)))] [] (hI h 91 0 0) (Qi F) X := fun hz => by
        rw [hz, if_neg (by decide), Nat.add_zero] at nx; exact nx
      refine sgX12_right_24 _ _ _ _ (Nat.le_of_ble_eq_true rfl) kk.1 ⟨fun w => absurd w (by rw [e7]; exact nI_ge hk (by omega)), fun _ => ?_⟩
      rw [nI_clamp (by omega), mk.i 109, mk.i 110, ei, nI_1 k]
      refine ⟨vin (by omega), fun w => ⟨vin (by omega), ok_isSolvedM (by omega) kk.1 V mk (by omega) ⟨fun w2 => skip ?_, fun w2 => ⟨vin (by omega), ?_⟩⟩⟩, fun w => skip ?_⟩
      · rw [er, bI_0.mp w2, Bool.false_and, Bool.false_and, Bool.and_false]
      · rw [mk.i 111, ej]
        refine ok_isSolvedM (by omega) kk.1 V mk (by omega) ⟨fun w3 => skip ?_, fun w3 => ⟨vin (by omega), vin (by omega), ?_⟩⟩
        · rw [er, bI_0.mp w3, Bool.and_false, Bool.false_and, Bool.and_false]
        · rw [mk.i 110, mk.i 111, ei, ej]
          refine ok_areOneM (by omega) kk.1 V mk (by omega) (by omega) ⟨fun w4 => ?_, fun w4 => ?_⟩
          · rw [er, decide_eq_true w, bI_n0.mp w2, bI_n0.mp w3, decide_eq_true (bI_inj.mp w4), if_pos (show (true && (true && true && true)) = true from rfl), ← nI_1] at nx; exact nx
          · rw [er, decide_eq_false (fun v => w4 (bI_inj.mpr v)), Bool.and_false, Bool.and_false, if_neg (by decide), Nat.add_zero] at nx
            rw [Int32.add_zero]; exact nx
      · rw [er, decide_eq_false w, Bool.false_and]
  exact go _ 0 (Nat.zero_add _)
/-! forget -/
theorem hI_comm {g : Hp} {c k c' k' : Nat} {v v' : Int32} (hc : c ≠ c') : hI (hI g c k v) c' k' v' = hI (hI g c' k' v') c k v := by
  have e : ∀ d j, (hI (hI g c k v) c' k' v').1 d j = (hI (hI g c' k' v') c k v).1 d j := fun d j => by
    by_cases h1 : d = c'
    · rw [h1, hI_if, hI_c (Ne.symm hc), hI_c (Ne.symm hc), hI_if]
    · rw [hI_c h1]
      by_cases h2 : d = c
      · rw [h2, hI_if, hI_if, hI_c hc]
      · rw [hI_c h2, hI_c h2, hI_c h1]
  exact Prod.ext (funext fun d => funext fun j => e d j) rfl
theorem dlS_gone (a : Nat) (x : Int32) : ∀ k, dlS (stGone σ a) x k = (hI (dlS σ x k).1 105 a 1, (dlS σ x k).2)
  | 0 => rfl
  | k + 1 => by
    have ih := dlS_gone a x k
    rw [dlS, dlS, ih]
    by_cases q : (dlS σ x k).1.1 110 k = x ∨ (dlS σ x k).1.1 111 k = x
    · rw [if_pos q, if_pos (by rw [hI_c (by decide), hI_c (by decide)]; exact q)]
    · rw [if_neg q, if_neg (by rw [hI_c (by decide), hI_c (by decide)]; exact q)]
      refine Prod.ext ?_ rfl
      show hI (hI (hI (hI (dlS σ x k).1 105 a 1) 109 _ _) 110 _ _) 111 _ _ = hI (hI (hI (hI (dlS σ x k).1 109 _ _) 110 _ _) 111 _ _) 105 a 1
      rw [hI_c (show (109 : Nat) ≠ 105 by decide), hI_c (show (110 : Nat) ≠ 105 by decide), hI_c (show (111 : Nat) ≠ 105 by decide), hI_comm (c := 105) (c' := 109) (by decide), hI_comm (c := 105) (c' := 110) (by decide), hI_comm (c := 105) (c' := 111) (by decide)]
theorem CK_forget {a : Nat} (V : VS σ) (c : CK (stLeft σ (nI a)) h) : CK (stForget σ a) h := by
  have e := dlS_gone (σ := σ) a (nI a) (nL σ)
  have en : nL (stGone σ a) = nL σ := rfl
  refine c.cg ?_ fun k => ?_
  · rw [stForget, stLeft, stLeft, hI_k, hI_k, en, e]
  · rw [stForget, stLeft, stLeft, en, e, hI_c (by decide), hI_c (by decide), hI_c (by decide), hI_c (by decide), hI_c (by decide), hI_c (by decide)]
    rw [hI_c (by decide), hI_c (by decide), hI_c (by decide)]
    exact ⟨rfl, rfl, rfl⟩
theorem ok_dropC {a : Nat} (hd : 4 ≤ d) (hS : Std h.2.2) (V : VS σ) (c : CS σ h) (ha : al σ a = true) (hq : ∀ q, Fr [13, 14, 17, 19, 20, 21] [(8, 11), (8, 13), (18, 0)] h q → CS (stForget σ a) q → G q) : OKv d mX11_drop [.ref 0, .int (nI a)] h G X :=
  enX11_drop _ hd hS (ok_drop (by omega) hS V c.1 ha fun q1 f1 cd => ok_dropWith (by omega) (f1.sd hS) V (c.2.2.2.1.fr f1) fun q2 f2 ck => hq q2 (f1.mono.tr f2.mono) (CS_forget c (f1.mono.tr f2.mono) (cd.fr f2) (CK_forget V ck)))
def nxForget (σ : Hp) (a : Int32) : Hp := if isD σ a = true then stForget σ a.toNatClampNeg else σ
theorem VS_nxForget (V : VS σ) : VS (nxForget σ a) := by
  have hD := V.d.2
  rw [nxForget]
  by_cases q : isD σ a = true
  · rw [if_pos q]
    obtain ⟨i, ali, em, hi⟩ := isD_t V q
    rw [em, nI_clamp (by omega)]
    exact VS_forget V ali
  · rw [if_neg q]; exact V
theorem ok_forgetC (hd : 8 ≤ d) (hS : Std h.2.2) (V : VS σ) (c : CS σ h) (hq : CWv h (nxForget σ a) (cdD σ a) (t1 nse) G X) : OKv d mX11_forget [.ref 0, .int a] h G X := by
  have hD := V.d.2
  refine enX11_forget _ hd hS (ok_needDeed (by omega) hS V c.1 (fun h1 => ?_) fun h1 => ?_)
  · have e : cdD σ a = 0 := by rw [cdD, h1]; rfl
    have fin := hq.1 e
    rw [nxForget, if_pos h1] at fin
    obtain ⟨i, ali, em, hi⟩ := isD_t V h1
    subst em
    rw [nI_clamp (by omega)] at fin
    exact ok_dropC (by omega) hS V c ali fun q f cs => fin q (f.kl hS) cs
  · have e : cdD σ a = 1 := by rw [cdD, h1]; rfl
    have := hq.2 (by omega)
    rw [e] at this; exact this
theorem ok_forgets {a : Nat} (hd : 2 ≤ d) (hS : Std h.2.2) (V : VS σ) (ma : MA σ h) (ha : a < nD σ) (hq : ∀ q, Fr [105, 109, 110, 111] [(91, 7)] h q → MA (stForget σ a) q → G q) : OKv d mX12_forgets [.ref 91, .int (nI a)] h G X := by
  have hD := V.d.2
  have hL := V.l.2
  have m1 : MA (stGone σ a) (hI h 105 a 1) := ma.hI _ _ _
  have f1 : Fr [105, 109, 110, 111] [(91, 7)] h (hI h 105 a 1) := Fr.pI
  have go : ∀ (n k : Nat) (q : Hp), k + n = nL σ → Fr [105, 109, 110, 111] [(91, 7)] h q → MA (dlS (stGone σ a) (nI a) k).1 q → E mX12_forgets 1 0 0 11 [(0, .ref 91), (1, .int (nI a)), (2, .int (nI (dlS (stGone σ a) (nI a) k).2)), (3, .int (nI k))] [] q (Qv G) X := by
    intro n
    induction n with
    | zero =>
      intro k q e f m
      have : k = nL σ := by omega
      subst this
      have f2 : Fr [109, 110, 111] [] (stGone σ a) (dlS (stGone σ a) (nI a) (nL σ)).1 := dlS_fr _
      have e7 : q.1 91 7 = nI (nL σ) := by rw [m.i 91 7, f2.i 91 7]; exact V.l.1
      exact sgX12_forgets_11 _ _ _ (Nat.le_of_ble_eq_true rfl) (f.sd hS) ⟨fun _ => hq _ (f.tr Fr.pI) (m.hI _ _ _), fun w => absurd (by rw [e7]; exact Int32.le_refl _) w⟩
    | succ n ih =>
      intro k q e f m
      have hk : k < nL σ := by omega
      have f2 : Fr [109, 110, 111] [] (stGone σ a) (dlS (stGone σ a) (nI a) k).1 := dlS_fr _
      have e7 : q.1 91 7 = nI (nL σ) := by rw [m.i 91 7, f2.i 91 7]; exact V.l.1
      have le := dlS_le (σ := stGone σ a) (a := nI a) k
      refine sgX12_forgets_11 _ _ _ (Nat.le_of_ble_eq_true rfl) (f.sd hS) ⟨fun w => absurd w (by rw [e7]; exact nI_ge hk (by omega)), fun _ => ?_⟩
      have pos : ((dlS (stGone σ a) (nI a) k).1.1 110 k = nI a ∨ (dlS (stGone σ a) (nI a) k).1.1 111 k = nI a) → E mX12_forgets 1 0 0 11 [(0, .ref 91), (1, .int (nI a)), (2, .int (nI (dlS (stGone σ a) (nI a) k).2)), (3, .int (nI (k + 1)))] [] q (Qv G) X := fun w => by
        have es : dlS (stGone σ a) (nI a) (k + 1) = dlS (stGone σ a) (nI a) k := by rw [dlS, if_pos w]
        have := ih (k + 1) q (by omega) f (by rw [es]; exact m)
        rw [es] at this; exact this
      rw [nI_clamp (by omega), nI_clamp (by omega), m.i 109, m.i 110, m.i 111, nI_1 k, nI_1]
      refine ⟨vin (by omega), fun w => pos (Or.inl w), fun w => ⟨vin (by omega), fun w2 => pos (Or.inr w2), fun w2 => ⟨vin (by omega), vin (by omega), vin (by omega), vin (by omega), vin (by omega), vin (by omega), ?_⟩⟩⟩
      have es : dlS (stGone σ a) (nI a) (k + 1) = (hI (hI (hI (dlS (stGone σ a) (nI a) k).1 109 (dlS (stGone σ a) (nI a) k).2 ((dlS (stGone σ a) (nI a) k).1.1 109 k)) 110 (dlS (stGone σ a) (nI a) k).2 ((dlS (stGone σ a) (nI a) k).1.1 110 k)) 111 (dlS (stGone σ a) (nI a) k).2 ((dlS (stGone σ a) (nI a) k).1.1 111 k), (dlS (stGone σ a) (nI a) k).2 + 1) := by
        rw [dlS, if_neg (fun v => v.elim w w2)]
      have := ih (k + 1) (hI (hI (hI q 109 (dlS (stGone σ a) (nI a) k).2 ((dlS (stGone σ a) (nI a) k).1.1 109 k)) 110 (dlS (stGone σ a) (nI a) k).2 ((dlS (stGone σ a) (nI a) k).1.1 110 k)) 111 (dlS (stGone σ a) (nI a) k).2 ((dlS (stGone σ a) (nI a) k).1.1 111 k)) (by omega) (f.tr (Fr.tr (Fr.tr Fr.pI Fr.pI) Fr.pI)) (by rw [es]; exact ((m.hI _ _ _).hI _ _ _).hI _ _ _)
      have e2 : (dlS (stGone σ a) (nI a) (k + 1)).2 = (dlS (stGone σ a) (nI a) k).2 + 1 := by rw [es]
      rw [e2] at this
      exact this
  refine OKv.up hd (okv_of 1 (by decide +kernel) (Nat.le_of_ble_eq_true rfl) (sgX12_forgets_0 _ (Nat.le_of_ble_eq_true rfl) hS ?_))
  rw [nI_clamp (by omega)]
  exact ⟨vin (by omega), go _ 0 _ (Nat.zero_add _) f1 m1⟩
theorem ok_forgetM (hd : 4 ≤ d) (hS : Std h.2.2) (V : VS σ) (ma : MA σ h) (hq : MWv h (nxForget σ a) (cdD σ a) G) : OKv d mX12_forget [.ref 91, .int a] h G X := by
  have hD := V.d.2
  refine OKv.up hd (okv_of 3 (by decide +kernel) (Nat.le_of_ble_eq_true rfl) (sgX12_forget_0 _ (Nat.le_of_ble_eq_true rfl) hS (ok_isDeedM (by omega) hS V ma.mc ⟨fun z => ⟨fun w => absurd w (by decide), fun _ => ?_⟩, fun z => ⟨fun _ => ?_, fun w => absurd rfl w⟩⟩)))
  · have h1 := bI_0.mp z
    have e : cdD σ a = 1 := by rw [cdD, h1]; rfl
    have fin := hq
    rw [nxForget, h1, if_neg (by decide), e] at fin
    have k1 := k0 (v := 1) (Kp.rf hS)
    exact fin _ k1.m (ma.km k1) hI_k
  · have h1 := bI_n0.mp z
    have e : cdD σ a = 0 := by rw [cdD, h1]; rfl
    have fin := hq
    rw [nxForget, if_pos h1, e] at fin
    obtain ⟨i, ali, em, hi⟩ := isD_t V h1
    subst em
    rw [nI_clamp (by omega)] at fin
    have k1 := k0 (v := 0) (Kp.rf hS)
    refine ok_forgets (by omega) k1.1 V (ma.km k1) hi fun q f mq => fin q (k1.m.tr (f.m k1.1)) mq ?_
    rw [f.i 91 0, hI_k]; rfl
/-! window -/
def cdWin (x y : Int32) : Nat := if 0 ≤ x ∧ x ≤ y ∧ y ≤ 99999 then 0 else 1
def nxWin (σ : Hp) (x y : Int32) : Hp := if cdWin x y = 0 then stWin σ x y else σ
theorem VS_nxWin (V : VS σ) : VS (nxWin σ x y) := by
  rw [nxWin]; split
  · exact VS_win V
  · exact V
theorem ok_windowC (hd : 7 ≤ d) (hS : Std h.2.2) (c : CS σ h) (hq : CWv h (nxWin σ x y) (cdWin x y) (t1 iae) G X) : OKv d mX11_window [.ref 0, .int x, .int y] h G X := by
  have no : ¬ (0 ≤ x ∧ x ≤ y ∧ y ≤ 99999) → X iae h := fun z => by
    have e : cdWin x y = 1 := if_neg z
    have := hq.2 (by omega)
    rw [e] at this; exact this
  refine enX11_window _ _ hd hS ⟨fun z => no fun w => absurd z (Int32.not_lt.mpr w.1), fun z => ⟨fun z2 => no fun w => absurd z2 (Int32.not_lt.mpr w.2.1), fun z2 => ⟨fun z3 => ?_, fun z3 => no fun w => z3 w.2.2⟩⟩⟩
  have e : cdWin x y = 0 := if_pos ⟨Int32.not_lt.mp z, Int32.not_lt.mp z2, z3⟩
  have fin := hq.1 e
  rw [nxWin, if_pos e] at fin
  exact fin _ (Fr.kl (L := []) (fs := [(8, 14), (8, 15)]) (Fr.tr Fr.pI Fr.pI) hS) (CS_win c)
theorem ok_windowM (hd : 4 ≤ d) (hS : Std h.2.2) (ma : MA σ h) (hq : MWv h (nxWin σ x y) (cdWin x y) G) : OKv d mX12_window [.ref 91, .int x, .int y] h G X := by
  have s24 : ¬ (0 ≤ x ∧ x ≤ y ∧ y ≤ 99999) → E mX12_window 3 0 0 24 [(0, .ref 91), (1, .int x), (2, .int y)] [.ref 91] h (Qv G) X := fun z => by
    have e : cdWin x y = 1 := if_neg z
    have fin := hq
    rw [nxWin, if_neg (by omega), e] at fin
    have k1 := k0 (v := 1) (Kp.rf hS)
    exact sgX12_window_24 _ _ (Nat.le_of_ble_eq_true rfl) hS (sgX12_window_25 _ _ _ (Nat.le_of_ble_eq_true rfl) hS ⟨fun w => absurd w (by decide), fun _ => fin _ k1.m (ma.km k1) hI_k⟩)
  refine OKv.up hd (okv_of 3 (by decide +kernel) (Nat.le_of_ble_eq_true rfl) (sgX12_window_0 _ _ (Nat.le_of_ble_eq_true rfl) hS (ok_isHour (by omega) hS ⟨fun z => s24 fun w => ?_, fun z => ok_isHour (by omega) hS ⟨fun z2 => s24 fun w => ?_, fun z2 => ⟨fun z3 => s24 fun w => absurd z3 (Int32.not_lt.mpr w.2.1), fun z3 => ?_⟩⟩⟩)))
  · have := bI_0.mp z
    rw [isW, decide_eq_true w.1, decide_eq_true (show x ≤ 99999 by have := w.2.1; have := w.2.2; rw [fa_le] at *; omega)] at this
    cases this
  · have := bI_0.mp z2
    rw [isW, decide_eq_true w.2.2, decide_eq_true (show 0 ≤ y by have := w.1; have := w.2.1; rw [fa_le] at *; omega)] at this
    cases this
  · have a1 := bI_n0.mp z
    have a2 := bI_n0.mp z2
    simp only [isW, Bool.and_eq_true, decide_eq_true_eq] at a1 a2
    have e : cdWin x y = 0 := if_pos ⟨a1.1, Int32.not_lt.mp z3, a2.2⟩
    have fin := hq
    rw [nxWin, if_pos e, e] at fin
    have k1 := k0 (v := 0) (Kp.rf hS)
    refine sgX12_window_25 _ _ _ (Nat.le_of_ble_eq_true rfl) hS ⟨fun _ => fin _ (k1.m.tr (Fr.m (L := []) (fs := [(91, 29), (91, 30)]) (Fr.tr Fr.pI Fr.pI) k1.1)) (((ma.km k1).hI _ _ _).hI _ _ _) ?_, fun w => absurd (Int32.le_refl _) w⟩
    rw [hI_j (by decide), hI_j (by decide), hI_k]; rfl
end OPSP
