/-! look: the answers -/
section LOOKM
variable {σ h : Hp} {d : Nat} {X : String → Hp → Prop} {x : Int64} {late : Bool} {t wh : Int32} {w : Nat → Nat → Int32}
def okL (σ : Hp) (x : Int64) (t wh : Int32) : Prop := GS σ x 2 5 ∧ isT t = true ∧ isW wh 0 2 = true
def vLook (σ : Hp) (late : Bool) (x : Int64) (t wh : Int32) : Int32 := if wh = 0 then l6 (loA σ (wS σ late) x t (nD σ)) else if wh = 1 then l7 (loA σ (wS σ late) x t (nD σ)) else l8 (loA σ (wS σ late) x t (nD σ))
theorem GS.up {l m n : Nat} (g : GS σ x l m) (hm : m ≤ n) : GS σ x l n := ⟨g.1, g.2.1, Nat.le_trans g.2.2 hm⟩
theorem ok_lookC {F : Int32 → Hp → Prop} (hd : 17 ≤ d) (hS : Std h.2.2) (V : VS σ) (c : CS σ h)
    (h0 : okL σ x t wh → (bstL σ late x).1 = true → ∀ q, Kp scr h q → F (vLook σ late x t wh) q) (h1 : ¬ okL σ x t wh → X iae h) (h2 : okL σ x t wh → (bstL σ late x).1 = false → ∀ q, Kp scr h q → X ise q) :
    OKi d mX11_look [.ref 0, .long x, .int (bI late), .int t, .int wh] h F X := by
  have hD := V.d.2
  refine OKi.up (show (d - 1) + 1 ≤ d by omega) (oki_of (d - 1) (by decide +kernel) (Nat.le_of_ble_eq_true rfl) (sgX11_look_0 x (bI late) t wh (by omega) hS ?_))
  refine ok_needSet (l := 2) (m := 5) (by omega) hS V c.1 (by decide) (by decide) (fun g5 => ok_needBelow (by omega) hS (fun ht => ok_isW (a := 0) (b := 2) rfl rfl (by omega) hS ⟨fun z => h1 fun o => absurd o.2.2 (by rw [bI_0.mp z]; decide), fun z => ?_⟩) fun ht => h1 fun o => absurd o.2.1 (by rw [ht]; decide)) fun g5 => h1 fun o => g5 o.1
  have ok : okL σ x t wh := ⟨g5, ht, bI_n0.mp z⟩
  have G := g5.up (show 5 ≤ 9 by decide)
  refine ok_partSet (by omega) hS V c G (fun f q k L P => ?_) fun f q k => h2 ok f q k
  have ck := c.kc k
  refine ok_sheet (by omega) k.1 ⟨SR_ok late, ok_copyFrom (w := wS σ late) shok_30 (SR_ok late) (by cases late <;> decide) (by omega) k.1 (ck.sr late) fun q1 f1 s1 => ?_⟩
  have go : ∀ (n i : Nat) (q : Hp), i + n = nD σ → Kp scr h q → Shw (wS σ late) 30 q → E mX11_look (d - 1) 3 18 67 [(0, .ref 0), (1, .long x), (4, .int t), (5, .int wh), (6, .int (l6 (loA σ (wS σ late) x t i))), (7, .int (l7 (loA σ (wS σ late) x t i))), (8, .int (l8 (loA σ (wS σ late) x t i))), (9, .int (nI i))] [] q (Qi F) X := by
    intro n
    induction n with
    | zero =>
      intro i q e kq s
      have : i = nD σ := by omega
      subst this
      have := h0 ok f q kq
      rw [vLook] at this
      refine sgX11_look_67k _ _ _ _ _ _ _ (by omega) kq.1 ⟨fun _ => ⟨fun y => ?_, fun y => ⟨fun y2 => ?_, fun y2 => ?_⟩⟩, fun z => absurd (by rw [(c.kc kq).n]; exact Int32.le_refl _) z⟩
      · rw [if_pos y] at this; exact this
      · rw [if_neg y, if_pos y2] at this; exact this
      · rw [if_neg y, if_neg y2] at this; exact this
    | succ n ih =>
      intro i q e kq s
      have hi : i < nD σ := by omega
      refine sgX11_look_67k _ _ _ _ _ _ _ (by omega) kq.1 ⟨fun z => absurd z (by rw [(c.kc kq).n]; exact nI_ge hi (by omega)), fun _ => ?_⟩
      exact lp_look82 (w := wS σ late) (by omega) V c (wS_03 V late) G f hi (loA_b G V i (by omega)) (fun q2 k2 s2 => ih (i + 1) q2 (by omega) k2 s2) (nM σ) 0 q (by omega) kq s
  exact go (nD σ) 0 q1 (by omega) (k.tr (f1.kc k.1)) s1
/-! the reference -/
theorem kp_ask {h1 h3 h5 h7 q : Hp} {a b e f : Int32} (ak : h.1 91 36 = -1) (e1 : h1 = hI (hI (hI h 91 36 a) 91 37 b) 91 38 e) (k1 : Kp scm h1 h3) (e5 : h5 = hI h3 91 38 f) (k2 : Kp scm h5 h7) (eq : q = hI h7 91 36 (-1)) : Kp scm h q := by
  subst e1 e5 eq
  refine ⟨(Fr.pI : Fr [] [(91, 36)] h7 (hI h7 91 36 (-1))).sd k2.1, fun c k z => ?_⟩
  have n37 : ¬ (c = 91 ∧ k = 37) := fun y => by rw [y.1, y.2] at z; cases z
  have n38 : ¬ (c = 91 ∧ k = 38) := fun y => by rw [y.1, y.2] at z; cases z
  have w38 : ∀ (g : Hp) (v : Int32), (hI g 91 38 v).1 c k = g.1 c k := fun g v => by
    by_cases hc : c = 91
    · subst hc; rw [hI_j (by omega)]
    · rw [hI_c hc]
  have w37 : ∀ (g : Hp) (v : Int32), (hI g 91 37 v).1 c k = g.1 c k := fun g v => by
    by_cases hc : c = 91
    · subst hc; rw [hI_j (by omega)]
    · rw [hI_c hc]
  refine ⟨?_, ?_⟩
  · by_cases h36 : c = 91 ∧ k = 36
    · obtain ⟨rfl, rfl⟩ := h36
      rw [hI_k, ak]
    · have w36 : ∀ (g : Hp) (v : Int32), (hI g 91 36 v).1 c k = g.1 c k := fun g v => by
        by_cases hc : c = 91
        · subst hc; rw [hI_j (by omega)]
        · rw [hI_c hc]
      rw [w36, (k2.2 c k z).1, w38, (k1.2 c k z).1, w38, w37, w36]
  · show h7.2.1 c k = h.2.1 c k
    rw [(k2.2 c k z).2]
    show h3.2.1 c k = _
    rw [(k1.2 c k z).2]
    rfl
theorem ct_cut {P : Nat → Bool} {i n : Nat} (hi : i ≤ n) (h : ∀ k, i ≤ k → k < n → P k = false) : fb_ct P i = fb_ct P n := by
  have e : n = i + (n - i) := by omega
  rw [e, fb_ct_split]
  have : fb_ct (fun k => P (i + k)) (n - i) = 0 := fb_ct_zero.mpr fun k hk => h _ (by omega) (by omega)
  omega
theorem ok_open {F : Int32 → Hp → Prop} {k j : Nat} {a : Int32} (hd : 9 ≤ d) (hS : Std h.2.2) (V : VS σ) (mc : MC σ h) (hk : k < 60) (hj : j < 16) (e36 : h.1 91 36 = nI k) (e37 : h.1 91 37 = nI j) (e38 : h.1 91 38 = a) (G : GS σ x 2 5) (hf : (bstL σ late x).1 = true)
    (hq : ∀ q, Kp scm h q → q.1 91 37 = nI j → q.1 91 0 = h.1 91 0 → F (nI (couV σ (wS σ late) x t k j a)) q) : OKi d mX12_open [.ref 91, .long x, .int (bI late), .int t] h F X := by
  have c9 : cntb x ≤ 9 := Nat.le_trans G.2.2 (by decide)
  refine enX12_open _ _ _ hd hS (ok_parts (w := upw (wS σ late) k j a) (m := 5) (by omega) hS V mc (Or.inr ⟨k, j, a, hk, hj, e36, e37, e38, rfl⟩) (by decide) (fun g q k1 e37' R P => ?_) fun g => absurd G g)
  refine ok_seekNear (n := cntb x) (t := t) c9 (by have := G.2.1; omega) (by omega) k1.1 P.1 P.2.1 fun q2 f2 r2 => ?_
  have hf' : (bstS σ (upw (wS σ late) k j a) (upw (wS σ late) k j a) x).1 = true := by rw [← hf]; exact best_fnd
  rw [(P.2.2.2 hf').1] at r2
  change RNM (cntb x) (nerS σ (upw (wS σ late) k j a) (upw (wS σ late) k j a) x t) q2 at r2
  have k2 := k1.tr (f2.km k1.1)
  have M2 := P.1.fr f2
  have fin : F (nI (couV σ (wS σ late) x t k j a)) q2 := hq q2 k2 (by rw [f2.i 91 37, e37'.1, e37]) (by rw [f2.i 91 0, e37'.2])
  rw [couV] at fin
  have sb : SNo (nerS σ (upw (wS σ late) k j a) (upw (wS σ late) k j a) x t) (9 ^ 9) := near0_le c9
  revert r2 fin sb
  generalize nerS σ (upw (wS σ late) k j a) (upw (wS σ late) k j a) x t = s
  intro r2 fin sb
  have go : ∀ n i : Nat, i + n = cntb x → E mX12_open 8 0 0 21 [(0, .ref 91), (6, .int (nI (fb_sm (fun i => fb_ct (fun k => decide (k < i) && decide (sur s i k = 0)) (cntb x)) i))), (7, .int (nI i))] [] q2 (Qi F) X := by
    intro n
    induction n with
    | zero =>
      intro i e
      have : i = cntb x := by omega
      subst this
      exact sgX12_open_21 _ _ (Nat.le_refl _) k2.1 ⟨fun _ => fin, fun z => absurd (by rw [M2.1]; exact Int32.le_refl _) z⟩
    | succ n ih =>
      intro i e
      have hi : i < cntb x := by omega
      refine sgX12_open_21 _ _ (Nat.le_refl _) k2.1 ⟨fun z => absurd z (by rw [M2.1]; exact nI_ge hi (by omega)), fun _ => ?_⟩
      have inner : ∀ m b : Nat, b + m = i → E mX12_open 8 0 0 33 [(0, .ref 91), (6, .int (nI (fb_sm (fun i => fb_ct (fun k => decide (k < i) && decide (sur s i k = 0)) (cntb x)) i + fb_ct (fun k => decide (k < i) && decide (sur s i k = 0)) b))), (7, .int (nI i)), (8, .int (nI b))] [] q2 (Qi F) X := by
        intro m
        induction m with
        | zero =>
          intro b eb
          have : b = i := by omega
          subst this
          refine sgX12_open_33 _ _ _ (Nat.le_refl _) k2.1 ⟨fun _ => ?_, fun z => absurd (Int32.le_refl _) z⟩
          have := ih (b + 1) (by omega)
          rw [fb_sm_succ, ← ct_cut (i := b) (by omega) fun k h1 _ => by rw [decide_eq_false (by omega), Bool.false_and]] at this
          rw [nI_1]
          exact this
        | succ m ih2 =>
          intro b eb
          have nx := ih2 (b + 1) (by omega)
          have hb' : b < i := by omega
          have em : max i b = i := by omega
          have en : min i b = b := by omega
          refine sgX12_open_33 _ _ _ (Nat.le_refl _) k2.1 ⟨fun z => absurd z (nI_ge hb' (by omega)), fun _ => ok_sureOf c9 (by omega) k2.1 r2 sb hi (by omega) (by omega) ?_⟩
          rw [em, en, nI_1 b]
          rw [fb_ct_succ, decide_eq_true hb', Bool.true_and, ← Nat.add_assoc] at nx
          refine ⟨fun z => ?_, fun z => ?_⟩
          · rw [decide_eq_true z, if_pos rfl, ← nI_1] at nx; exact nx
          · rw [decide_eq_false z, if_neg (by decide), Nat.add_zero] at nx
            rw [Int32.add_zero]; exact nx
      exact inner i 0 (by omega)
  exact go (cntb x) 0 (by omega)
def lm6 (o : LKo) : Int32 := match o with | none => -1 | some s => nI (16 * s.1 + s.2.1)
def lm7 (o : LKo) : Int32 := match o with | none => 0 | some s => nI s.2.2
theorem ok_lookM {F : Int32 → Hp → Prop} (hd : 10 ≤ d) (hS : Std h.2.2) (V : VS σ) (mc : MC σ h) (ak : h.1 91 36 = -1)
    (h0 : okL σ x t wh → (bstL σ late x).1 = true → ∀ q, Kp scm h q → q.1 91 0 = 0 → F (vLook σ late x t wh) q) (h1 : ¬ okL σ x t wh → ∀ q r, Kp scm h q → q.1 91 0 = 1 → F r q) (h2 : okL σ x t wh → (bstL σ late x).1 = false → ∀ q r, Kp scm h q → q.1 91 0 = 2 → F r q) :
    OKi d mX12_look [.ref 91, .long x, .int (bI late), .int t, .int wh] h F X := by
  have hD := V.d.2
  have hM := V.m.2
  have s33 : ∀ (n : Nat) (q : Hp), n ≠ 0 → n < 3 → Kp scm h q → (∀ q r, Kp scm h q → q.1 91 0 = nI n → F r q) → E mX12_look 9 0 0 33 [(0, .ref 91), (1, .long x), (3, .int (bI late)), (4, .int t), (5, .int wh)] [.int (nI n), .ref 91] q (Qi F) X := fun n q hn hn3 k hh =>
    sgX12_look_33 _ _ _ _ _ (Nat.le_refl _) k.1 ⟨fun z => absurd z (nI_ge (a := 0) (by omega) (by omega)), fun _ => hh _ _ (k0 k) hI_k⟩
  have s32 : ∀ (q : Hp), Kp scm h q → ¬ okL σ x t wh → E mX12_look 9 0 0 32 [(0, .ref 91), (1, .long x), (3, .int (bI late)), (4, .int t), (5, .int wh)] [.ref 91] q (Qi F) X := fun q k no => sgX12_look_32 _ _ _ _ (Nat.le_refl _) k.1 (s33 1 q (by decide) (by decide) k (h1 no))
  refine enX12_look _ _ _ _ hd hS (ok_isWM (a := 0) (b := 2) rfl rfl (by omega) hS ⟨fun z => s32 h (Kp.rf hS) fun o => absurd o.2.2 (by rw [bI_0.mp z]; decide), fun z => ok_isNear (by omega) hS ⟨fun z2 => s32 h (Kp.rf hS) fun o => absurd o.2.1 (by rw [bI_0.mp z2]; decide), fun z2 => ?_⟩⟩)
  refine ok_parts (w := wS σ late) (m := 5) (by omega) hS V mc (asked_no ak) (by decide) (fun g q k _ R P => ?_) fun g q k => s33 1 q (by decide) (by decide) k (h1 fun o => g o.1)
  have ok : okL σ x t wh := ⟨g, bI_n0.mp z2, bI_n0.mp z⟩
  have G := g.up (show 5 ≤ 9 by decide)
  cases e : (bstS σ (wS σ late) (wS σ late) x).1
  · rw [if_neg (by decide)]
    exact s33 2 q (by decide) (by decide) k (h2 ok e)
  rw [if_pos rfl]
  refine sgX12_look_33 _ _ _ _ _ (Nat.le_refl _) k.1 ⟨fun _ => ?_, fun y => absurd (Int32.le_refl _) y⟩
  have hx : ∀ i, nD σ ≤ i → hb x i = false := fun i hi => by
    cases eb : hb x i
    · rfl
    · have := (stn_al (G.1 i eb)).2; omega
  have fin : ∀ q, Kp scm h q → q.1 91 0 = 0 → E mX12_look 9 0 0 54 [(0, .ref 91), (1, .long x), (3, .int (bI late)), (4, .int t), (5, .int wh), (6, .int (lm6 (loA σ (wS σ late) x t (nD σ)))), (7, .int (lm7 (loA σ (wS σ late) x t (nD σ)))), (8, .int (nI (nD σ)))] [] q (Qi F) X := fun q kq e0 => by
    have := h0 ok e q kq e0
    have ob := loA_b (w := wS σ late) (t := t) G V (nD σ) hD
    rw [vLook] at this
    revert this ob
    generalize loA σ (wS σ late) x t (nD σ) = o
    intro this ob
    have mq := mc.km kq
    refine sgX12_look_54 _ _ _ _ _ _ _ (Nat.le_refl _) kq.1 ⟨fun _ => ?_, fun y => absurd (by rw [mq.i 91 6, V.d.1]; exact Int32.le_refl _) y⟩
    cases o with
    | none =>
      refine ⟨fun _ => ?_, fun y => absurd rfl y⟩
      have e1 : (if wh = 0 then l6 none else if wh = 1 then l7 none else l8 none) = -1 := by
        split
        · rfl
        · split <;> rfl
      rw [e1] at this
      exact this
    | some s =>
      have sb := ob s rfl
      have d1 : (16 * s.1 + s.2.1) / 16 = s.1 := by omega
      have d2 : (16 * s.1 + s.2.1) % 16 = s.2.1 := by omega
      have e6 : lm6 (some s) = nI (16 * s.1 + s.2.1) := rfl
      rw [e6, lit_nI 16, pk_rem (by omega) (by decide) (by decide), pk_div (by omega) (by decide) (by decide), d1, d2]
      refine ⟨fun y => absurd y (nI_neg (by omega)), fun _ => ⟨fun y => ?_, fun y => ⟨fun y2 => ?_, fun y2 => ?_⟩⟩⟩
      · rw [if_pos y] at this; exact this
      · rw [if_neg y, if_pos y2] at this; exact this
      · rw [if_neg y, if_neg y2] at this; exact this
  have row : ∀ (i : Nat), i < nD σ → hb x i = true → (∀ q, Kp scm h q → q.1 91 0 = 0 → E mX12_look 9 0 0 54 [(0, .ref 91), (1, .long x), (3, .int (bI late)), (4, .int t), (5, .int wh), (6, .int (lm6 (loR σ (wS σ late) x t (loA σ (wS σ late) x t i) i (nM σ)))), (7, .int (lm7 (loR σ (wS σ late) x t (loA σ (wS σ late) x t i) i (nM σ)))), (8, .int (nI (i + 1)))] [] q (Qi F) X) →
      ∀ (n j : Nat) (q : Hp), j + n = nM σ → Kp scm h q → q.1 91 0 = 0 → E mX12_look 9 0 0 80 [(0, .ref 91), (1, .long x), (3, .int (bI late)), (4, .int t), (5, .int wh), (6, .int (lm6 (loR σ (wS σ late) x t (loA σ (wS σ late) x t i) i j))), (7, .int (lm7 (loR σ (wS σ late) x t (loA σ (wS σ late) x t i) i j))), (8, .int (nI i)), (9, .int (nI j))] [] q (Qi F) X := by
    intro i hi hbi nx n
    induction n with
    | zero =>
      intro j q ej kq e0
      have : j = nM σ := by omega
      subst this
      have mq := mc.km kq
      refine sgX12_look_80 _ _ _ _ _ _ _ _ (Nat.le_refl _) kq.1 ⟨fun _ => sgX12_look_207 _ _ _ _ _ _ _ (Nat.le_refl _) kq.1 ?_, fun y => absurd (by rw [mq.i 91 3, V.m.1]; exact Int32.le_refl _) y⟩
      rw [nI_1]; exact nx q kq e0
    | succ n ih =>
      intro j q ej kq e0
      have hj : j < nM σ := by omega
      have mq := mc.km kq
      have akq : q.1 91 36 = -1 := by rw [kq.i 91 36, ak]
      have rb := loR_b (w := wS σ late) (t := t) G (o := loA σ (wS σ late) x t i) (k := i) (by omega) (loA_b G V i (by omega)) j (by omega)
      have nx2 := fun q2 k2 z2 => ih (j + 1) q2 (by omega) k2 z2
      have lr : loR σ (wS σ late) x t (loA σ (wS σ late) x t i) i (j + 1) = lo1 σ (wS σ late) x t (loR σ (wS σ late) x t (loA σ (wS σ late) x t i) i j) i j := rfl
      rw [lr] at nx2
      revert nx2 rb
      generalize loR σ (wS σ late) x t (loA σ (wS σ late) x t i) i j = st
      intro rb nx2
      have skip : ¬ wS σ late i j = 0 → E mX12_look 9 0 0 201 [(0, .ref 91), (1, .long x), (3, .int (bI late)), (4, .int t), (5, .int wh), (6, .int (lm6 st)), (7, .int (lm7 st)), (8, .int (nI i)), (9, .int (nI j))] [] q (Qi F) X := fun hz => by
        refine sgX12_look_201 _ _ _ _ _ _ _ _ (Nat.le_refl _) kq.1 ?_
        rw [nI_1]
        have := nx2 q kq e0
        rw [lo1, if_neg (fun y => hz y.2)] at this
        exact this
      have ei : (16 : Int32) * nI i + nI j = nI (16 * i + j) := by rw [lit_nI 16, pk_mul, nI_add]
      have l := lok_lt (w := wS σ late) (t := t) G (k := i) (j := j)
      have b1 : couV σ (wS σ late) x t i j 1 ≤ 81 := Nat.le_trans (cou_le _ _) (Nat.mul_le_mul G.2.2 G.2.2)
      have b2 : couV σ (wS σ late) x t i j 2 ≤ 81 := Nat.le_trans (cou_le _ _) (Nat.mul_le_mul G.2.2 G.2.2)
      have ask : wS σ late i j = 0 → OKi 9 mX12_open [.ref 91, .long x, .int (bI late), .int t] (hI (hI (hI q 91 36 (nI i)) 91 37 (nI j)) 91 38 1) (fun (r2 : Int32) (h3 : Hp) => OKi 9 mX12_open [.ref 91, .long x, .int (bI late), .int t] (hI h3 91 38 2) (fun (r6 : Int32) (h7 : Hp) => ((lm6 st = (-1) → E mX12_look 9 0 0 187 [(0, .ref 91), (1, .long x), (3, .int (bI late)), (4, .int t), (5, .int wh), (8, .int (nI i)), (9, .int (nI j)), (10, .int (if r2 < r6 then r6 else r2))] [] (hI h7 91 36 (-1)) (Qi F) X) ∧ (¬ lm6 st = (-1) → (((if r2 < r6 then r6 else r2) < lm7 st → E mX12_look 9 0 0 187 [(0, .ref 91), (1, .long x), (3, .int (bI late)), (4, .int t), (5, .int wh), (8, .int (nI i)), (9, .int (nI j)), (10, .int (if r2 < r6 then r6 else r2))] [] (hI h7 91 36 (-1)) (Qi F) X) ∧ (¬ (if r2 < r6 then r6 else r2) < lm7 st → E mX12_look 9 0 0 201 [(0, .ref 91), (1, .long x), (3, .int (bI late)), (4, .int t), (5, .int wh), (6, .int (lm6 st)), (7, .int (lm7 st)), (8, .int (nI i)), (9, .int (nI j))] [] (hI h7 91 36 (-1)) (Qi F) X))))) X) X := fun hz => by
        have f1 : Fr [] [(91, 36), (91, 37), (91, 38)] q (hI (hI (hI q 91 36 (nI i)) 91 37 (nI j)) 91 38 1) := Fr.tr Fr.pI (Fr.tr Fr.pI Fr.pI)
        refine ok_open (late := late) (t := t) (k := i) (j := j) (a := 1) (Nat.le_refl _) (f1.sd kq.1) V (mq.fr f1) (by omega) (by omega) (by rw [hI_j (by decide), hI_j (by decide), hI_k]) (by rw [hI_j (by decide), hI_k]) hI_k g e fun h3 k3 e37 z3 => ?_
        have f2 : Fr [] [(91, 38)] h3 (hI h3 91 38 2) := Fr.pI
        have e36 : h3.1 91 36 = nI i := by rw [k3.i 91 36, hI_j (by decide), hI_j (by decide), hI_k]
        refine ok_open (late := late) (t := t) (k := i) (j := j) (a := 2) (Nat.le_refl _) (f2.sd k3.1) V (((mq.fr f1).km k3).fr f2) (by omega) (by omega) (by rw [f2.i 91 36, e36]) (by rw [f2.i 91 37, e37]) hI_k g e fun h7 k7 _ z7 => ?_
        rw [nI_max (by omega) (by omega)]
        have kf : Kp scm h (hI h7 91 36 (-1)) := kq.tr (kp_ask akq rfl k3 rfl k7 rfl)
        have z0 : (hI h7 91 36 (-1)).1 91 0 = 0 := by
          rw [hI_j (by decide), z7, f2.i 91 0, z3, f1.i 91 0, e0]
        have nx3 := nx2 _ kf z0
        have s187 : loT st i j (lokV σ (wS σ late) x t i j) = some (i, j, lokV σ (wS σ late) x t i j) → E mX12_look 9 0 0 187 [(0, .ref 91), (1, .long x), (3, .int (bI late)), (4, .int t), (5, .int wh), (8, .int (nI i)), (9, .int (nI j)), (10, .int (nI (max (couV σ (wS σ late) x t i j 1) (couV σ (wS σ late) x t i j 2))))] [] (hI h7 91 36 (-1)) (Qi F) X := fun el => by
          refine sgX12_look_187 _ _ _ _ _ _ _ (Nat.le_refl _) kf.1 (sgX12_look_201 _ _ _ _ _ _ _ _ (Nat.le_refl _) kf.1 ?_)
          rw [ei, nI_1]
          rw [lo1, if_pos ⟨hbi, hz⟩, el] at nx3
          exact nx3
        cases st with
        | none => exact ⟨fun _ => s187 rfl, fun y => absurd rfl y⟩
        | some s' =>
          have sb := rb s' rfl
          have n6 : ¬ lm6 (some s') = -1 := nI_neg (n := 16 * s'.1 + s'.2.1) (by omega)
          have lt : nI (max (couV σ (wS σ late) x t i j 1) (couV σ (wS σ late) x t i j 2)) < lm7 (some s') ↔ lokV σ (wS σ late) x t i j < s'.2.2 := nI_ltI (by omega) sb.2.2
          refine ⟨fun y => absurd y n6, fun _ => ⟨fun y => s187 ?_, fun y => sgX12_look_201 _ _ _ _ _ _ _ _ (Nat.le_refl _) kf.1 ?_⟩⟩
          · rw [loT_s, if_pos (lt.mp y)]
          · rw [nI_1]
            rw [lo1, if_pos ⟨hbi, hz⟩, loT_s, if_neg (fun y2 => y (lt.mpr y2))] at nx3
            exact nx3
      refine sgX12_look_80 _ _ _ _ _ _ _ _ (Nat.le_refl _) kq.1 ⟨fun y => absurd y (by rw [mq.i 91 3, V.m.1]; exact nI_ge hj (by omega)), fun _ => ⟨fun y => sgX12_look_104 _ _ _ _ _ _ _ _ (Nat.le_refl _) kq.1 ?_, fun y => sgX12_look_104b _ _ _ _ _ _ _ _ (Nat.le_refl _) kq.1 ?_⟩⟩
      · have ew : wS σ late i j = σ.1 108 (16 * i + j) := by rw [wS, bI_0.mp y]; rfl
        rw [ei, nI_clamp (by omega), mq.i 108 (16 * i + j)]
        exact ⟨vin (by omega), fun y2 => ask (by rw [ew]; exact y2), fun y2 => skip (by rw [ew]; exact y2)⟩
      · have ew : wS σ late i j = σ.1 107 (16 * i + j) := by rw [wS, bI_n0.mp y]; rfl
        rw [ei, nI_clamp (by omega), mq.i 107 (16 * i + j)]
        exact ⟨vin (by omega), fun y2 => ask (by rw [ew]; exact y2), fun y2 => skip (by rw [ew]; exact y2)⟩
  have go : ∀ (n i : Nat) (q : Hp), i + n = nD σ → Kp scm h q → q.1 91 0 = 0 → E mX12_look 9 0 0 54 [(0, .ref 91), (1, .long x), (3, .int (bI late)), (4, .int t), (5, .int wh), (6, .int (lm6 (loA σ (wS σ late) x t i))), (7, .int (lm7 (loA σ (wS σ late) x t i))), (8, .int (nI i))] [] q (Qi F) X := by
    intro n
    induction n with
    | zero =>
      intro i q ei kq e0
      have : i = nD σ := by omega
      subst this
      exact fin q kq e0
    | succ n ih =>
      intro i q ei kq e0
      have hi : i < nD σ := by omega
      have mq := mc.km kq
      refine sgX12_look_54 _ _ _ _ _ _ _ (Nat.le_refl _) kq.1 ⟨fun y => absurd y (by rw [mq.i 91 6, V.d.1]; exact nI_ge hi (by omega)), fun _ => ⟨fun y => sgX12_look_207 _ _ _ _ _ _ _ (Nat.le_refl _) kq.1 ?_, fun y => ?_⟩⟩
      · have hbi := (hb_bit0 (by omega)).mp y
        have := ih (i + 1) q (by omega) kq e0
        rw [loA, loR_off hbi] at this
        rw [nI_1]; exact this
      · have hbi : hb x i = true := by
          cases eb : hb x i
          · exact absurd ((hb_bit0 (by omega)).mpr eb) y
          · rfl
        exact row i hi hbi (fun q2 k2 z2 => ih (i + 1) q2 (by omega) k2 z2) (nM σ) 0 q (by omega) kq e0
  exact go (nD σ) 0 _ (by omega) (k0 k) hI_k
end LOOKM
