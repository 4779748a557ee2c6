/-! number -/
section NUMB
variable {σ h : Hp} {d : Nat} {X : String → Hp → Prop} {F : Int32 → Hp → Prop} {x : Int32}
/-- the tape, and what is told of the last text -/
def CTp (σ h : Hp) : Prop := h.1 0 14 = σ.1 91 67 ∧ (∀ i, i < 300 → h.1 89 i = σ.1 136 i) ∧ h.1 73 1 = σ.1 91 75 ∧ h.1 73 2 = σ.1 91 76
def nT (σ : Hp) : Nat := (σ.1 91 67).toNatClampNeg
def VTp (σ : Hp) : Prop := σ.1 91 67 = nI (nT σ) ∧ nT σ ≤ 300
def vNumber (σ : Hp) (x : Int32) : Int32 :=
  if x = 0 then σ.1 91 1 else if x = 1 then σ.1 91 2 else if x = 2 then σ.1 91 3 else if x = 3 then σ.1 91 4 else if x = 4 then σ.1 91 5 else if x = 5 then σ.1 91 6 else
  if x = 6 then nI (fb_ct (stn σ) (nD σ)) else if x = 7 then σ.1 91 7 else if x = 8 then σ.1 91 8 else if x = 9 then σ.1 91 79 else if x = 10 then σ.1 91 67 else
  if x = 11 then nI (prs σ (relOf σ true) (nD σ)) else if x = 12 then nI (prs σ (relOf σ false) (nD σ)) else -1
theorem ok_numberC (hd : 6 ≤ d) (hS : Std h.2.2) (V : VS σ) (c : CS σ h) (cm : CMp σ h) (ct : CTp σ h) (hl : h.1 65 0 = σ.1 91 79) (hq : F (vNumber σ x) h) : OKi d mX11_number [.ref 0, .int x] h F X := by
  have hD := V.d.2
  refine OKi.up hd (oki_of 5 (by decide +kernel) (Nat.le_of_ble_eq_true rfl) (sgX11_number_0 _ (Nat.le_of_ble_eq_true rfl) hS ?_))
  rw [c.2.2.1.1, c.2.1.1, ← V.p.1, c.2.2.1.2.1, c.2.2.1.2.2.1, c.2.2.1.2.2.2.1, c.1.n, ← V.d.1, c.2.2.2.1.1, ← V.l.1, cm.1, ← V.k.1, hl, ct.1]
  refine ⟨fun z => ?_, fun z => ?_, fun z => ?_, fun z => ?_, fun z => ?_, fun z => ?_, fun z => ok_standing (by omega) hS V c.1 fun r hr => ok_bitCount (by omega) hS ?_, fun z => ?_, fun z => ?_, fun z => ?_, fun z => ?_, fun z => ok_pairs (w := true) (by omega) hS V c.1 ?_, fun z => ok_pairs (w := false) (by omega) hS V c.1 ?_, fun z0 z1 z2 z3 z4 z5 z6 z7 z8 z9 z10 z11 z12 => ?_⟩
  · subst z; exact hq
  · subst z; exact hq
  · subst z; exact hq
  · subst z; exact hq
  · subst z; exact hq
  · subst z; exact hq
  · subst z
    have e : cntb r = fb_ct (stn σ) (nD σ) := by
      rw [cntb_to (σ := σ) hD fun k hk => by
        rw [hr]
        cases e : stn σ k
        · rfl
        · have := (stn_al e).2; omega]
      exact fb_ct_cong fun k _ => hr k
    rw [e]; exact hq
  · subst z; exact hq
  · subst z; exact hq
  · subst z; exact hq
  · subst z; exact hq
  · subst z; exact hq
  · subst z; exact hq
  · rw [vNumber, if_neg z0, if_neg z1, if_neg z2, if_neg z3, if_neg z4, if_neg z5, if_neg z6, if_neg z7, if_neg z8, if_neg z9, if_neg z10, if_neg z11, if_neg z12] at hq
    exact hq
def prR (σ : Hp) (q : Bool) (a : Nat) (k : Nat) : Nat := fb_ct (fun b => decide (a < b) && ctd σ b && relOf σ q a b) k
theorem ok_numberM (hd : 6 ≤ d) (hS : Std h.2.2) (V : VS σ) (ma : MA σ h) (hq : ∀ q, Kp scm h q → F (vNumber σ x) q) : OKi d mX12_number [.ref 91, .int x] h F X := by
  have hD := V.d.2
  have kk : Kp scm h (hI h 91 0 0) := k0 (Kp.rf hS)
  have mk := ma.km kk
  have mc := mk.mc
  have fin := hq _ kk
  have e6 : (hI h 91 0 0).1 91 6 = nI (nD σ) := by rw [mc.i 91 6]; exact V.d.1
  have l6 : ∀ n k : Nat, k + n = nD σ → F (nI (fb_ct (stn σ) (nD σ))) (hI h 91 0 0) → E mX12_number 5 0 0 108 [(0, .ref 91), (2, .int (nI (fb_ct (stn σ) k))), (3, .int (nI k))] [] (hI h 91 0 0) (Qi F) X := by
    intro n
    induction n with
    | zero =>
      intro k e hf
      have : k = nD σ := by omega
      subst this
      exact sgX12_number_108 _ _ (Nat.le_of_ble_eq_true rfl) kk.1 ⟨fun _ => hf, fun w => absurd (by rw [e6]; exact Int32.le_refl _) w⟩
    | succ n ih =>
      intro k e hf
      have hk : k < nD σ := by omega
      have nx := ih (k + 1) (by omega) hf
      rw [fb_ct_succ] at nx
      refine sgX12_number_108 _ _ (Nat.le_of_ble_eq_true rfl) kk.1 ⟨fun w => absurd w (by rw [e6]; exact nI_ge hk (by omega)), fun _ => ok_standsM (by omega) kk.1 V mc hk ?_⟩
      rw [nI_1 k]
      refine ⟨fun w => ?_, fun w => ?_⟩
      · rw [bI_0.mp w, if_neg (by decide), Nat.add_zero] at nx
        rw [Int32.add_zero]; exact nx
      · rw [bI_n0.mp w, if_pos rfl, ← nI_1] at nx; exact nx
  have l1 : ∀ (q : Bool), x = (if q then 11 else 12) → F (nI (prs σ (relOf σ q) (nD σ))) (hI h 91 0 0) → ∀ n a : Nat, a + n = nD σ → E mX12_number 5 0 0 162 [(0, .ref 91), (1, .int x), (2, .int (nI (prs σ (relOf σ q) a))), (3, .int (nI a))] [] (hI h 91 0 0) (Qi F) X := by
    intro q hx hf n
    induction n with
    | zero =>
      intro a e
      have : a = nD σ := by omega
      subst this
      exact sgX12_number_162 _ _ _ (Nat.le_of_ble_eq_true rfl) kk.1 ⟨fun _ => hf, fun w => absurd (by rw [e6]; exact Int32.le_refl _) w⟩
    | succ n ih =>
      intro a e
      have ha : a < nD σ := by omega
      have nx := ih (a + 1) (by omega)
      have inner : ∀ m b : Nat, b + m = nD σ → a < b → E mX12_number 5 0 0 175 [(0, .ref 91), (1, .int x), (2, .int (nI (prs σ (relOf σ q) a + if ctd σ a = true then prR σ q a b else 0))), (3, .int (nI a)), (4, .int (nI b))] [] (hI h 91 0 0) (Qi F) X := by
        intro m
        induction m with
        | zero =>
          intro b eb hab
          have : b = nD σ := by omega
          subst this
          refine sgX12_number_175 _ _ _ _ (Nat.le_of_ble_eq_true rfl) kk.1 ⟨fun _ => ?_, fun w => absurd (by rw [e6]; exact Int32.le_refl _) w⟩
          rw [nI_1]
          exact nx
        | succ m ih2 =>
          intro b eb hab
          have hb' : b < nD σ := by omega
          have nx2 := ih2 (b + 1) (by omega) (by omega)
          have es : prR σ q a (b + 1) = prR σ q a b + if (ctd σ b && relOf σ q a b) = true then 1 else 0 := by
            rw [prR, fb_ct_succ, decide_eq_true hab, Bool.true_and]; rfl
          rw [es] at nx2
          refine sgX12_number_175 _ _ _ _ (Nat.le_of_ble_eq_true rfl) kk.1 ⟨fun w => absurd w (by rw [e6]; exact nI_ge hb' (by omega)), fun _ => ok_countsM (by omega) kk.1 V mc ha ?_⟩
          rw [nI_1 b]
          refine ⟨fun w => ?_, fun w => ok_countsM (by omega) kk.1 V mc hb' ⟨fun w2 => ?_, fun w2 => ?_⟩⟩
          · rw [bI_0.mp w, if_neg (show ¬ false = true by decide)] at nx2 ⊢
            exact nx2
          · rw [bI_0.mp w2, Bool.false_and, if_neg (show ¬ false = true by decide), Nat.add_zero] at nx2
            exact nx2
          · rw [bI_n0.mp w, bI_n0.mp w2, Bool.true_and, if_pos rfl, ← Nat.add_assoc] at nx2
            rw [bI_n0.mp w, if_pos rfl]
            cases q
            · have hx : x = 12 := hx
              refine ⟨fun w3 => absurd (hx.symm.trans w3) (by decide), fun _ => ok_areBarredM (by omega) kk.1 V mc ha hb' ⟨fun w3 => ?_, fun w3 => ?_⟩⟩
              · rw [relOf, if_neg (show ¬ false = true by decide), bI_0.mp w3, if_neg (show ¬ false = true by decide), Nat.add_zero] at nx2
                rw [Int32.add_zero]; exact nx2
              · rw [relOf, if_neg (show ¬ false = true by decide), bI_n0.mp w3, if_pos rfl, ← nI_1] at nx2; exact nx2
            · have hx : x = 11 := hx
              refine ⟨fun _ => ok_areOneM (by omega) kk.1 V mc (by omega) (by omega) ⟨fun w3 => ?_, fun w3 => ?_⟩, fun w3 => absurd hx w3⟩
              · rw [relOf, if_pos rfl, bI_0.mp w3, if_neg (show ¬ false = true by decide), Nat.add_zero] at nx2
                rw [Int32.add_zero]; exact nx2
              · rw [relOf, if_pos rfl, bI_n0.mp w3, if_pos rfl, ← nI_1] at nx2; exact nx2
      refine sgX12_number_162 _ _ _ (Nat.le_of_ble_eq_true rfl) kk.1 ⟨fun w => absurd w (by rw [e6]; exact nI_ge ha (by omega)), fun _ => ?_⟩
      have e0 : (if ctd σ a = true then prR σ q a (a + 1) else 0) = 0 := by
        split
        · exact fb_ct_zero.mpr fun k hk => by rw [decide_eq_false (by omega)]; rfl
        · rfl
      have := inner (nD σ - (a + 1)) (a + 1) (by omega) (by omega)
      rw [e0, Nat.add_zero] at this
      rw [nI_1]
      exact this
  refine OKi.up hd (oki_of 5 (by decide +kernel) (Nat.le_of_ble_eq_true rfl) (sgX12_number_0 _ (Nat.le_of_ble_eq_true rfl) hS ?_))
  rw [ma.i 91 1, ma.i 91 2, ma.i 91 3, ma.i 91 4, ma.i 91 5, ma.i 91 6, ma.i 91 7, ma.i 91 8, ma.i 91 79, ma.i 91 67]
  refine ⟨fun z => ?_, fun z => ?_, fun z => ?_, fun z => ?_, fun z => ?_, fun z => ?_, fun z => ?_, fun z => ?_, fun z => ?_, fun z => ?_, fun z => ?_, fun z => ?_, fun z => ?_, fun z0 z1 z2 z3 z4 z5 z6 z7 z8 z9 z10 z11 z12 => ?_⟩
  · subst z; exact fin
  · subst z; exact fin
  · subst z; exact fin
  · subst z; exact fin
  · subst z; exact fin
  · subst z; exact fin
  · subst z; exact l6 (nD σ) 0 (Nat.zero_add _) fin
  · subst z; exact fin
  · subst z; exact fin
  · subst z; exact fin
  · subst z; exact fin
  · have f2 : F (nI (prs σ (relOf σ true) (nD σ))) (hI h 91 0 0) := by rw [z] at fin; exact fin
    exact l1 true z f2 (nD σ) 0 (Nat.zero_add _)
  · have f2 : F (nI (prs σ (relOf σ false) (nD σ))) (hI h 91 0 0) := by rw [z] at fin; exact fin
    exact l1 false z f2 (nD σ) 0 (Nat.zero_add _)
  · rw [vNumber, if_neg z0, if_neg z1, if_neg z2, if_neg z3, if_neg z4, if_neg z5, if_neg z6, if_neg z7, if_neg z8, if_neg z9, if_neg z10, if_neg z11, if_neg z12] at fin
    exact fin
/-! fault -/
def vFault (σ : Hp) (x : Int32) : Int32 := if x = 0 then σ.1 91 75 else if x = 1 then σ.1 91 76 else -1
theorem ok_faultC (hd : 2 ≤ d) (hS : Std h.2.2) (ct : CTp σ h) (hq : F (vFault σ x) h) : OKi d mX11_fault [.ref 0, .int x] h F X := by
  rw [vFault] at hq
  refine OKi.up hd (oki_of 1 (by decide +kernel) (Nat.le_of_ble_eq_true rfl) (sgX11_fault_0 _ (Nat.le_of_ble_eq_true rfl) hS ?_))
  rw [ct.2.2.1, ct.2.2.2]
  exact ⟨fun z => by rw [if_pos z] at hq; exact hq, fun z => ⟨fun z2 => by rw [if_neg z, if_pos z2] at hq; exact hq, fun z2 => by rw [if_neg z, if_neg z2] at hq; exact hq⟩⟩
theorem ok_faultM (hd : 2 ≤ d) (hS : Std h.2.2) (ma : MA σ h) (hq : ∀ q, Kp scm h q → F (vFault σ x) q) : OKi d mX12_fault [.ref 91, .int x] h F X := by
  have kk : Kp scm h (hI h 91 0 0) := k0 (Kp.rf hS)
  have hq := hq _ kk
  rw [vFault] at hq
  refine OKi.up hd (oki_of 1 (by decide +kernel) (Nat.le_of_ble_eq_true rfl) (sgX12_fault_0 _ (Nat.le_of_ble_eq_true rfl) hS ?_))
  rw [ma.i 91 75, ma.i 91 76]
  exact ⟨fun z => by rw [if_pos z] at hq; exact hq, fun z => ⟨fun z2 => by rw [if_neg z, if_pos z2] at hq; exact hq, fun z2 => by rw [if_neg z, if_neg z2] at hq; exact hq⟩⟩
end NUMB
/-! feed -/
section FEED
variable {σ h : Hp} {d : Nat} {X : String → Hp → Prop} {F : Int32 → Hp → Prop} {a b c e f : Int32}
/-- the byte of a word at its shift -/
def byt (w : Int32) (s : Nat) : Int32 := (w.toUInt32 >>> ((nI s).toUInt32 &&& Int32.toUInt32 31)).toInt32 &&& 255
def wof (a b c e f : Int32) (k : Nat) : Int32 := if k < 4 then a else if k < 8 then b else if k < 12 then c else if k < 16 then e else f
def bof (a b c e f : Int32) (k : Nat) : Int32 := byt (wof a b c e f k) (24 - 8 * (k % 4))
def stFeed (σ : Hp) (a b c e f : Int32) : Nat → Hp
  | 0 => σ
  | k + 1 => hI (hI (stFeed σ a b c e f k) 136 (nT σ + k) (bof a b c e f k)) 91 67 (nI (nT σ + k + 1))
def nxFeed (σ : Hp) (a b c e f : Int32) : Hp := if nT σ + 20 ≤ 300 then stFeed σ a b c e f 20 else σ
def vFeed (σ : Hp) : Int32 := if nT σ + 20 ≤ 300 then nI (nT σ + 20) else -1
theorem stFeed_fr : ∀ k, Fr [136] [(91, 67)] σ (stFeed σ a b c e f k)
  | 0 => Fr.rf
  | k + 1 => (stFeed_fr k).tr (Fr.tr Fr.pI Fr.pI)
theorem stFeed_1 (j : Nat) : ∀ k, (stFeed σ a b c e f k).1 136 j = if nT σ ≤ j ∧ j < nT σ + k then bof a b c e f (j - nT σ) else σ.1 136 j
  | 0 => by rw [if_neg (by omega)]; rfl
  | k + 1 => by
    rw [stFeed, hI_c (by decide), hI_if, stFeed_1 j k]
    by_cases z : j = nT σ + k
    · rw [if_pos z, if_pos (by omega), z, show nT σ + k - nT σ = k by omega]
    · rw [if_neg z]
      by_cases z2 : nT σ ≤ j ∧ j < nT σ + k
      · rw [if_pos z2, if_pos (by omega)]
      · rw [if_neg z2, if_neg (by omega)]
theorem stFeed_2 (T : VTp σ) : ∀ k, (stFeed σ a b c e f k).1 91 67 = nI (nT σ + k)
  | 0 => T.1
  | k + 1 => hI_k
theorem VTp_feed (T : VTp σ) : VTp (nxFeed σ a b c e f) := by
  rw [nxFeed]
  by_cases q : nT σ + 20 ≤ 300
  · rw [if_pos q]
    have := stFeed_2 (a := a) (b := b) (c := c) (e := e) (f := f) T 20
    have en : nT (stFeed σ a b c e f 20) = nT σ + 20 := by rw [nT, this, nI_clamp (by omega)]
    exact ⟨by rw [en]; exact this, by omega⟩
  · rw [if_neg q]; exact T
theorem ok_feedOne {G : Hp → Prop} {w : Int32} {n : Nat} (hd : 1 ≤ d) (hS : Std h.2.2) (hn : h.1 0 14 = nI n) (h4 : n + 4 ≤ 300)
    (hq : ∀ q, Fr [89] [(0, 14)] h q → q.1 0 14 = nI (n + 4) → (∀ j, q.1 89 j = if n ≤ j ∧ j < n + 4 then byt w (24 - 8 * (j - n)) else h.1 89 j) → G q) : OKv d mX11_feedOne [.ref 0, .int w] h G X := by
  have go : ∀ (m k : Nat) (q : Hp), k + m = 4 → Fr [89] [(0, 14)] h q → q.1 0 14 = nI (n + k) → (∀ j, q.1 89 j = if n ≤ j ∧ j < n + k then byt w (24 - 8 * (j - n)) else h.1 89 j) → E mX11_feedOne 0 0 0 3 [(0, .ref 0), (1, .int w), (2, .int (nI (32 - 8 * k) - 8))] [] q (Qv G) X := by
    intro m
    induction m with
    | zero =>
      intro k q e fr en I
      have : k = 4 := by omega
      subst this
      exact sgX11_feedOne_3 _ _ (Nat.le_refl _) (fr.sd hS) ⟨fun _ => hq q fr en I, fun z => absurd (by decide) z⟩
    | succ m ih =>
      intro k q e fr en I
      have hk : k < 4 := by omega
      have es : nI (32 - 8 * k) - (8 : Int32) = nI (24 - 8 * k) := by
        rw [lit_nI 8, pk_sub (by omega)]
        congr 1; omega
      have es2 : nI (24 - 8 * k) + (-8 : Int32) = nI (32 - 8 * (k + 1)) - (8 : Int32) := by
        have c : k = 0 ∨ k = 1 ∨ k = 2 ∨ k = 3 := by omega
        obtain rfl | rfl | rfl | rfl := c <;> decide
      rw [es]
      refine sgX11_feedOne_3 _ _ (Nat.le_refl _) (fr.sd hS) ⟨fun z => absurd z (nI_pos (by omega)), fun _ => ?_⟩
      rw [en, es2, nI_clamp (by omega), nI_1]
      refine ⟨fun z => absurd z (nI_ge (a := n + k) (b := 300) (by omega) (by omega)), fun _ => ⟨vin (by omega), ih (k + 1) _ (by omega) (fr.tr (Fr.tr Fr.pI Fr.pI)) hI_k fun j => ?_⟩⟩
      rw [hI_c (by decide), hI_if, I]
      by_cases z : j = n + k
      · rw [if_pos z, if_pos (by omega), z, show n + k - n = k by omega]; rfl
      · rw [if_neg z]
        by_cases z2 : n ≤ j ∧ j < n + k
        · rw [if_pos z2, if_pos (by omega)]
        · rw [if_neg z2, if_neg (by omega)]
  refine OKv.up hd (okv_of 0 (by decide +kernel) (Nat.le_of_ble_eq_true rfl) (sgX11_feedOne_0 _ (Nat.le_of_ble_eq_true rfl) hS ?_))
  have := go 4 0 h rfl Fr.rf hn fun j => by rw [if_neg (by omega)]
  have e0 : nI (32 - 8 * 0) - (8 : Int32) = 24 := by decide
  rw [e0] at this
  exact this
theorem ok_feedC (hd : 3 ≤ d) (hS : Std h.2.2) (T : VTp σ) (ct : CTp σ h) (hq : ∀ q, Fr [89] [(0, 14)] h q → CTp (nxFeed σ a b c e f) q → F (vFeed σ) q) : OKi d mX11_feed [.ref 0, .int a, .int b, .int c, .int e, .int f] h F X := by
  have hT := T.2
  rw [nxFeed, vFeed] at hq
  refine OKi.up hd (oki_of 2 (by decide +kernel) (Nat.le_of_ble_eq_true rfl) (sgX11_feed_0 _ _ _ _ _ (Nat.le_of_ble_eq_true rfl) hS ?_))
  rw [ct.1, T.1, lit_nI 20, nI_add, lit_nI 300, nI_leI (by omega) (by omega)]
  refine ⟨fun z => ?_, fun z => ?_⟩
  · rw [if_pos z, if_pos z] at hq
    refine ok_feedOne (by omega) hS (ct.1.trans T.1) (by omega) fun q1 f1 n1 I1 => ok_feedOne (by omega) (f1.sd hS) n1 (by omega) fun q2 f2 n2 I2 => ok_feedOne (by omega) (f2.sd (f1.sd hS)) n2 (by omega) fun q3 f3 n3 I3 => ok_feedOne (by omega) (f3.sd (f2.sd (f1.sd hS))) n3 (by omega) fun q4 f4 n4 I4 => ok_feedOne (by omega) (f4.sd (f3.sd (f2.sd (f1.sd hS)))) n4 (by omega) fun q5 f5 n5 I5 => ?_
    have f := (((f1.tr f2).tr f3).tr f4).tr f5
    rw [n5]
    refine hq q5 f ⟨?_, fun i hi => ?_, ?_, ?_⟩
    · rw [n5, stFeed_2 T]
    · rw [I5, I4, I3, I2, I1, stFeed_1, ct.2.1 i hi]
      by_cases z1 : nT σ ≤ i ∧ i < nT σ + 20
      · rw [if_pos z1]
        obtain ⟨k, hk⟩ : ∃ k, i = nT σ + k := ⟨i - nT σ, by omega⟩
        subst hk
        rw [show nT σ + k - nT σ = k by omega, bof, wof]
        by_cases c1 : k < 4
        · rw [if_neg (by omega), if_neg (by omega), if_neg (by omega), if_neg (by omega), if_pos (by omega), if_pos c1, show k % 4 = k by omega]
        · rw [if_neg c1]
          by_cases c2 : k < 8
          · rw [if_neg (by omega), if_neg (by omega), if_neg (by omega), if_pos (by omega), if_pos c2, show nT σ + k - (nT σ + 4) = k % 4 by omega]
          · rw [if_neg c2]
            by_cases c3 : k < 12
            · rw [if_neg (by omega), if_neg (by omega), if_pos (by omega), if_pos c3, show nT σ + k - (nT σ + 4 + 4) = k % 4 by omega]
            · rw [if_neg c3]
              by_cases c4 : k < 16
              · rw [if_neg (by omega), if_pos (by omega), if_pos c4, show nT σ + k - (nT σ + 4 + 4 + 4) = k % 4 by omega]
              · rw [if_neg c4, if_pos (by omega), show nT σ + k - (nT σ + 4 + 4 + 4 + 4) = k % 4 by omega]
      · rw [if_neg z1, if_neg (by omega), if_neg (by omega), if_neg (by omega), if_neg (by omega), if_neg (by omega)]
    · rw [f.i 73 1, (stFeed_fr 20).i 91 75]; exact ct.2.2.1
    · rw [f.i 73 2, (stFeed_fr 20).i 91 76]; exact ct.2.2.2
  · rw [if_neg z, if_neg z] at hq
    exact hq h Fr.rf ct
theorem ok_feedM (hd : 2 ≤ d) (hS : Std h.2.2) (T : VTp σ) (ma : MA σ h) (hq : ∀ q, KM h q → MA (nxFeed σ a b c e f) q → F (vFeed σ) q) : OKi d mX12_feed [.ref 91, .int a, .int b, .int c, .int e, .int f] h F X := by
  have hT := T.2
  have kk : Kp scm h (hI h 91 0 0) := k0 (Kp.rf hS)
  have mk := ma.km kk
  rw [nxFeed, vFeed] at hq
  refine OKi.up hd (oki_of 1 (by decide +kernel) (Nat.le_of_ble_eq_true rfl) (sgX12_feed_0 _ _ _ _ _ (Nat.le_of_ble_eq_true rfl) hS ?_))
  rw [ma.i 91 67, T.1, lit_nI 20, nI_add, lit_nI 300, nI_leI (by omega) (by omega)]
  refine ⟨fun z => ?_, fun z => ?_⟩
  · rw [if_pos z, if_pos z] at hq
    have go : ∀ (m k : Nat) (q : Hp), k + m = 20 → Fr [136] [(91, 67)] (hI h 91 0 0) q → MA (stFeed σ a b c e f k) q → E mX12_feed 1 0 0 23 [(0, .ref 91), (1, .int a), (2, .int b), (3, .int c), (4, .int e), (5, .int f), (6, .int (nI k))] [] q (Qi F) X := by
      intro m
      induction m with
      | zero =>
        intro k q ek fr mq
        have : k = 20 := by omega
        subst this
        refine sgX12_feed_23 _ _ _ _ _ _ (Nat.le_of_ble_eq_true rfl) (fr.sd kk.1) ⟨fun _ => ?_, fun w => absurd (Int32.le_refl _) w⟩
        rw [mq.i 91 67, stFeed_2 T]
        exact hq q (kk.m.tr (fr.m kk.1)) mq
      | succ m ih =>
        intro k q ek fr mq
        have hk : k < 20 := by omega
        have s76 : ∀ w, w = wof a b c e f k → E mX12_feed 1 0 0 76 [(0, .ref 91), (1, .int a), (2, .int b), (3, .int c), (4, .int e), (5, .int f), (6, .int (nI k))] [.int w] q (Qi F) X := fun w hw => by
          refine sgX12_feed_76 _ _ _ _ _ _ _ (Nat.le_of_ble_eq_true rfl) (fr.sd kk.1) ?_
          have es : (24 : Int32) - (8 : Int32) * (nI k &&& (3 : Int32)) = nI (24 - 8 * (k % 4)) := by
            have : ∀ k, k < 20 → (24 : Int32) - (8 : Int32) * (nI k &&& (3 : Int32)) = nI (24 - 8 * (k % 4)) := by decide +kernel
            exact this k hk
          rw [mq.i 91 67, stFeed_2 T, es, nI_clamp (by omega), nI_1, nI_1, hw]
          exact ⟨vin (by omega), ih (k + 1) _ (by omega) (fr.tr (Fr.tr Fr.pI Fr.pI)) ((mq.hI _ _ _).hI _ _ _)⟩
        have lt : ∀ j : Nat, j < 20 → (nI j ≤ nI k ↔ j ≤ k) := fun j hj => nI_leI (by omega) (by omega)
        refine sgX12_feed_23 _ _ _ _ _ _ (Nat.le_of_ble_eq_true rfl) (fr.sd kk.1) ⟨fun w => absurd w (nI_ge (a := k) (b := 20) hk (by omega)), fun _ => ?_⟩
        rw [lit_nI 4, lit_nI 8, lit_nI 12, lit_nI 16, lt 4 (by omega), lt 8 (by omega), lt 12 (by omega), lt 16 (by omega)]
        refine ⟨fun w1 => ⟨fun w2 => ⟨fun w3 => ⟨fun w4 => s76 _ ?_, fun w4 => s76 _ ?_⟩, fun w3 => s76 _ ?_⟩, fun w2 => s76 _ ?_⟩, fun w1 => s76 _ ?_⟩
        · rw [wof, if_neg (by omega), if_neg (by omega), if_neg (by omega), if_neg (by omega)]
        · rw [wof, if_neg (by omega), if_neg (by omega), if_neg (by omega), if_pos (by omega)]
        · rw [wof, if_neg (by omega), if_neg (by omega), if_pos (by omega)]
        · rw [wof, if_neg (by omega), if_pos (by omega)]
        · rw [wof, if_pos (by omega)]
    exact go 20 0 _ rfl Fr.rf mk
  · rw [if_neg z, if_neg z] at hq
    exact hq _ kk.m mk
end FEED
