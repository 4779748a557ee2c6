/-! near, sure -/
section OPSB
variable {σ h : Hp} {d : Nat} {X : String → Hp → Prop} {x : Int64} {late : Bool} {t : Int32}
/-- at most a million below the best -/
def isT (t : Int32) : Bool := decide (0 ≤ t) && decide (t ≤ 1000000)
theorem ok_needBelow {F : Hp → Prop} (hd : 7 ≤ d) (hS : Std h.2.2) (hq : isT t = true → F h) (hx : isT t = false → X iae h) : OKv d mX11_needBelow [.ref 0, .int t] h F X := by
  refine enX11_needBelow _ hd hS ?_
  have e0 : (0 : Int64) = (0 : Int32).toInt64 := rfl
  have e1 : (1000000 : Int64) = (1000000 : Int32).toInt64 := by decide
  rw [e0, e1]
  exact ok_within32 (by omega) hS ⟨fun z => hx (bI_0.mp z), fun z => hq (bI_n0.mp z)⟩
theorem ok_isNear {F : Int32 → Hp → Prop} (hd : 2 ≤ d) (hS : Std h.2.2) (hq : F (bI (isT t)) h) : OKi d mX12_isNear [.int t] h F X := by
  refine enX12_isNear _ hd hS (ok_within (by omega) hS ⟨bI_01 _, ?_⟩)
  have e0 : (0 : Int64) = (0 : Int32).toInt64 := rfl
  have e1 : (1000000 : Int64) = (1000000 : Int32).toInt64 := by decide
  rw [e0, e1, wi_dec]
  exact hq
def nvl (s : SN) : Int32 := if nI s.1 ≤ 20000 then nI s.1 else -3
theorem ok_nearC {F : Int32 → Hp → Prop} (hd : 16 ≤ d) (hS : Std h.2.2) (V : VS σ) (c : CS σ h)
    (h0 : GS σ x 2 9 → isT t = true → (bstL σ late x).1 = true → ∀ q, Kp scr h q → F (nvl (nerL σ late x t)) q) (h1 : ¬ (GS σ x 2 9 ∧ isT t = true) → X iae h) (h2 : GS σ x 2 9 → isT t = true → (bstL σ late x).1 = false → ∀ q, Kp scr h q → X ise q) :
    OKi d mX11_near [.ref 0, .long x, .int (bI late), .int t] h F X := by
  refine OKi.up (show (d - 1) + 1 ≤ d by omega) (oki_of (d - 1) (by decide +kernel) (Nat.le_of_ble_eq_true rfl) (sgX11_near_0 x (bI late) t (by omega) hS ?_))
  refine ok_needSet (l := 2) (m := 9) (by omega) hS V c.1 (by decide) (by decide) (fun g => ok_needBelow (by omega) hS (fun ht => ok_partSet (by omega) hS V c g (fun f q k L P => ?_) fun f q k => h2 g ht f q k) fun ht => h1 fun z => by rw [ht] at z; cases z.2) fun g => h1 fun z => g z.1
  refine ok_judgeNear (n := cntb x) (t := t) g.2.2 (by have := g.2.2; omega) k.1 P.1 fun q2 f2 r2 => ?_
  rw [(P.2.2.2 f).1] at r2
  change RSN (cntb x) _ (nerL σ late x t) q2 at r2
  have := h0 g ht f q2 (k.tr (f2.kc k.1))
  rw [r2.2.1]
  refine ⟨fun z => ?_, fun z => ?_⟩
  · rw [nvl, if_pos z] at this; exact this
  · rw [nvl, if_neg z] at this; exact this
theorem ok_nearM {F : Int32 → Hp → Prop} (hd : 9 ≤ d) (hS : Std h.2.2) (V : VS σ) (mc : MC σ h) (ak : h.1 91 36 = -1)
    (h0 : GS σ x 2 9 → isT t = true → (bstL σ late x).1 = true → ∀ q, Kp scm h q → q.1 91 0 = 0 → F (nvl (nerL σ late x t)) q) (h1 : ¬ (GS σ x 2 9 ∧ isT t = true) → ∀ q r, Kp scm h q → q.1 91 0 = 1 → F r q) (h2 : GS σ x 2 9 → isT t = true → (bstL σ late x).1 = false → ∀ q r, Kp scm h q → q.1 91 0 = 2 → F r q) :
    OKi d mX12_near [.ref 91, .long x, .int (bI late), .int t] h F X := by
  refine enX12_near _ _ _ hd hS (ok_isNear (by omega) hS ⟨fun z => sgX12_near_21 _ _ (Nat.le_refl _) hS ⟨fun y => absurd y (by decide), fun _ => h1 (fun y => by rw [bI_0.mp z] at y; cases y.2) _ _ (k0 (Kp.rf hS)) hI_k⟩, fun z => ?_⟩)
  have ht := bI_n0.mp z
  refine ok_parts (w := wS σ late) (m := 9) (by omega) hS V mc (asked_no ak) (by decide) (fun g q k _ R P => ?_) fun g q k => sgX12_near_21 _ _ (Nat.le_refl _) k.1 ⟨fun y => absurd y (by decide), fun _ => h1 (fun y => g y.1) _ _ (k0 k) hI_k⟩
  cases e : (bstS σ (wS σ late) (wS σ late) x).1
  · rw [if_neg (by decide)]
    exact sgX12_near_21 _ _ (Nat.le_refl _) k.1 ⟨fun z => absurd z (by decide), fun _ => h2 g ht e _ _ (k0 k) hI_k⟩
  · rw [if_pos rfl]
    refine sgX12_near_21 _ _ (Nat.le_refl _) k.1 ⟨fun _ => ok_seekNear (n := cntb x) g.2.2 (by have := g.2.1; omega) (by omega) (k0 k).1 P.k0.1 P.k0.2.1 fun q2 f2 r2 => ?_, fun z => absurd (Int32.le_refl _) z⟩
    rw [(P.k0.2.2.2 e).1] at r2
    change RNM (cntb x) (nerL σ late x t) q2 at r2
    have := h0 g ht e q2 ((k0 k).tr (f2.km (k0 k).1)) (by rw [f2.i 91 0, hI_k])
    rw [r2.1]
    refine ⟨fun z => ?_, fun z => ?_⟩
    · rw [nvl, if_pos z] at this; exact this
    · rw [nvl, if_neg z] at this; exact this
/-- a deed is one of the set -/
def inS (x : Int64) (a : Int32) : Bool := decide (0 ≤ a ∧ a < 60) && hb x a.toNatClampNeg
theorem inS_m (G : GS σ x 2 9) (V : VS σ) {a : Int32} : (inS x a = false ↔ mbo (mbf x) a (cntb x) 0 = -1) := by
  have hD := V.d.2
  rw [mbo_no (by have := G.2.2; omega)]
  refine ⟨fun z j hj e => ?_, fun z => Bool.eq_false_iff.mpr fun q => ?_⟩
  · have mi := mbf_in hj
    have lt := (stn_al (G.1 _ mi.1)).2
    rw [inS, ← e, nI_clamp (by omega), mi.1, decide_eq_true ⟨nI_ge0 (by omega), nI_lt (b := 60) (by omega) (by omega)⟩] at z
    cases z
  · simp only [inS, Bool.and_eq_true, decide_eq_true_eq] at q
    obtain ⟨⟨q1, _⟩, q2⟩ := q
    obtain ⟨k, hk, e⟩ := nI_nat q1
    rw [e, nI_clamp hk] at q2
    have m1 := mbf_at q2
    have hk64 : k < 64 := by
      refine Classical.byContradiction fun y => ?_
      rw [hb_big (by omega)] at q2; cases q2
    have lt : fb_ct (hb x) k < cntb x := by
      have := fb_ct_mono (hb x) (m := k + 1) (n := 64) (by omega)
      rw [fb_ct_succ, q2, if_pos rfl] at this
      exact this
    exact z _ lt (by rw [m1, e])
def suv (σ : Hp) (late : Bool) (x : Int64) (t a b : Int32) : Int32 :=
  if nI (nerL σ late x t).1 ≤ 20000 then sur (nerL σ late x t) (max (mbo (mbf x) a (cntb x) 0).toNatClampNeg (mbo (mbf x) b (cntb x) 0).toNatClampNeg) (min (mbo (mbf x) a (cntb x) 0).toNatClampNeg (mbo (mbf x) b (cntb x) 0).toNatClampNeg) else -3
def okS (σ : Hp) (x : Int64) (t a b : Int32) : Prop := GS σ x 2 9 ∧ isT t = true ∧ a ≠ b ∧ inS x a = true ∧ inS x b = true
theorem mbo_ab (G : GS σ x 2 9) (V : VS σ) {a b : Int32} (hab : a ≠ b) (ha : inS x a = true) (hb' : inS x b = true) : ∃ i k, i < cntb x ∧ k < cntb x ∧ i ≠ k ∧ mbo (mbf x) a (cntb x) 0 = nI i ∧ mbo (mbf x) b (cntb x) 0 = nI k := by
  have n1 : ¬ mbo (mbf x) a (cntb x) 0 = -1 := fun z => by rw [(inS_m G V).mpr z] at ha; cases ha
  have n2 : ¬ mbo (mbf x) b (cntb x) 0 = -1 := fun z => by rw [(inS_m G V).mpr z] at hb'; cases hb'
  obtain ⟨i, hi, e1, e2⟩ := mbo_or.resolve_left n1
  obtain ⟨k, hk, e3, e4⟩ := mbo_or.resolve_left n2
  exact ⟨i, k, hi, hk, fun z => hab (by rw [← e2, ← e4, z]), e1, e3⟩
theorem ok_sureC {F : Int32 → Hp → Prop} {a b : Int32} (hd : 16 ≤ d) (hS : Std h.2.2) (V : VS σ) (c : CS σ h)
    (h0 : okS σ x t a b → (bstL σ late x).1 = true → ∀ q, Kp scr h q → F (suv σ late x t a b) q) (h1 : ¬ okS σ x t a b → X iae h) (h2 : okS σ x t a b → (bstL σ late x).1 = false → ∀ q, Kp scr h q → X ise q) :
    OKi d mX11_sure [.ref 0, .long x, .int (bI late), .int t, .int a, .int b] h F X := by
  refine OKi.up (show (d - 1) + 1 ≤ d by omega) (oki_of (d - 1) (by decide +kernel) (Nat.le_of_ble_eq_true rfl) (sgX11_sure_0 x (bI late) t a b (by omega) hS ?_))
  refine ok_needSet (l := 2) (m := 9) (by omega) hS V c.1 (by decide) (by decide) (fun g => ok_needBelow (by omega) hS (fun ht => ⟨fun z => h1 fun y => y.2.2.1 z, fun hab => ok_isIn (by omega) hS ⟨fun z => h1 fun y => ?_, fun z => ok_isIn (by omega) hS ⟨fun z2 => h1 fun y => ?_, fun z2 => ?_⟩⟩⟩) fun ht => h1 fun z => absurd z.2.1 (by rw [ht]; decide)) fun g => h1 fun z => g z.1
  · have e := y.2.2.2.1
    rw [inS, bI_0.mp z] at e; cases e
  · have e := y.2.2.2.2
    rw [inS, bI_0.mp z2] at e; cases e
  · have o : okS σ x t a b := ⟨g, ht, hab, bI_n0.mp z, bI_n0.mp z2⟩
    refine ok_partSet (by omega) hS V c g (fun f q k L P => ?_) fun f q k => h2 o f q k
    refine ok_judgeNear (n := cntb x) (t := t) g.2.2 (by have := g.2.2; omega) k.1 P.1 fun q2 f2 r2 => ?_
    rw [(P.2.2.2 f).1] at r2
    change RSN (cntb x) _ (nerL σ late x t) q2 at r2
    have k2 := k.tr (f2.kc k.1)
    have := h0 o f q2 k2
    rw [r2.2.1]
    obtain ⟨i, j, hi, hj, hij, e1, e2⟩ := mbo_ab g V hab o.2.2.2.1 o.2.2.2.2
    have P2 : PLd (cntb x) (badS σ (mbf x)) (oneS σ (mbf x)) (gnS σ (wS σ late) (wS σ late) (mbf x)) q2 := P.1.fr f2
    have m2 : ∀ k, k < cntb x → q2.1 46 k = nI (mbf x k) := fun k hk => by rw [f2.i 46 k]; exact P.2.1 k hk
    rw [suv, e1, e2, nI_clamp (by have := g.2.2; omega), nI_clamp (by have := g.2.2; omega)] at this
    refine ⟨fun z => ok_memberOf g.2.2 (by omega) k2.1 P2.1 m2 (ok_memberOf g.2.2 (by omega) k2.1 P2.1 m2 ?_), fun z => ?_⟩
    · rw [if_pos z] at this
      rw [e1, e2]
      exact ok_surety g.2.2 (by omega) k2.1 r2 hi hj hij this
    · rw [if_neg z] at this; exact this
theorem ok_sureM {F : Int32 → Hp → Prop} {a b : Int32} (hd : 9 ≤ d) (hS : Std h.2.2) (V : VS σ) (mc : MC σ h) (ak : h.1 91 36 = -1)
    (h0 : okS σ x t a b → (bstL σ late x).1 = true → ∀ q, Kp scm h q → q.1 91 0 = 0 → F (suv σ late x t a b) q) (h1 : ¬ okS σ x t a b → ∀ q r, Kp scm h q → q.1 91 0 = 1 → F r q) (h2 : okS σ x t a b → (bstL σ late x).1 = false → ∀ q r, Kp scm h q → q.1 91 0 = 2 → F r q) :
    OKi d mX12_sure [.ref 91, .long x, .int (bI late), .int t, .int a, .int b] h F X := by
  have f59 : ∀ q, Kp scm h q → ¬ okS σ x t a b → E mX12_sure 8 0 0 59 [(0, .ref 91)] [] q (Qi F) X := fun q k no =>
    sgX12_sure_59 (Nat.le_refl _) k.1 (ok_fails (by omega) k.1 fun q2 f2 e0 => h1 no q2 _ (k.tr (f2.km k.1)) e0)
  refine enX12_sure _ _ _ _ _ hd hS (ok_isNear (by omega) hS ⟨fun z => sgX12_sure_21 _ _ _ _ (Nat.le_refl _) hS ⟨fun _ => f59 _ (k0 (Kp.rf hS)) fun y => absurd y.2.1 (by rw [bI_0.mp z]; decide), fun y => absurd rfl y⟩, fun z => ?_⟩)
  have ht := bI_n0.mp z
  refine ok_parts (w := wS σ late) (m := 9) (by omega) hS V mc (asked_no ak) (by decide) (fun g q k _ R P => ?_) fun g q k => sgX12_sure_21 _ _ _ _ (Nat.le_refl _) k.1 ⟨fun _ => f59 _ (k0 k) fun y => g y.1, fun y => absurd rfl y⟩
  have c9 := g.2.2
  have go : ∀ v, v = (if (bstS σ (wS σ late) (wS σ late) x).1 = true then 0 else 2) → E mX12_sure 8 0 0 21 [(0, .ref 91), (4, .int t), (5, .int a), (6, .int b)] [.int v, .ref 91] q (Qi F) X := fun v hv => by
    have kv := k0 (v := v) k
    have Mv : MBd (cntb x) (mbf x) (badS σ (mbf x)) (oneS σ (mbf x)) (hI q 91 0 v) := P.k0.1
    refine sgX12_sure_21 _ _ _ _ (Nat.le_refl _) k.1 ⟨fun y => ?_, fun _ => ⟨fun y => f59 _ kv fun o => o.2.2.1 y, fun hab => ok_placeOf c9 (by omega) kv.1 Mv ⟨fun y => f59 _ kv fun o => ?_, fun n1 => ok_placeOf c9 (by omega) kv.1 Mv ⟨fun y => f59 _ kv fun o => ?_, fun n2 => ?_⟩⟩⟩⟩
    · rw [hv] at y
      revert y
      split <;> intro y <;> exact absurd y (by decide)
    · have e := o.2.2.2.1
      rw [(inS_m g V).mpr y] at e; cases e
    · have e := o.2.2.2.2
      rw [(inS_m g V).mpr y] at e; cases e
    · have ia : inS x a = true := by
        cases e : inS x a
        · exact absurd ((inS_m g V).mp e) n1
        · rfl
      have ib : inS x b = true := by
        cases e : inS x b
        · exact absurd ((inS_m g V).mp e) n2
        · rfl
      have o : okS σ x t a b := ⟨g, ht, hab, ia, ib⟩
      rw [hI_k]
      cases e : (bstS σ (wS σ late) (wS σ late) x).1
      · rw [e, if_neg (by decide)] at hv
        subst hv
        exact ⟨fun y => absurd y (by decide), fun _ => h2 o e _ _ kv hI_k⟩
      · rw [e, if_pos rfl] at hv
        subst hv
        refine ⟨fun _ => ok_seekNear (n := cntb x) c9 (by have := g.2.1; omega) (by omega) kv.1 Mv P.k0.2.1 fun q2 f2 r2 => ?_, fun y => absurd (Int32.le_refl _) y⟩
        rw [(P.k0.2.2.2 e).1] at r2
        change RNM (cntb x) (nerL σ late x t) q2 at r2
        have k2 := kv.tr (f2.km kv.1)
        have := h0 o e q2 k2 (by rw [f2.i 91 0, hI_k])
        have M2 := Mv.fr f2
        obtain ⟨i, j, hi, hj, hij, e1, e2⟩ := mbo_ab g V hab ia ib
        rw [suv, e1, e2, nI_clamp (by omega), nI_clamp (by omega)] at this
        rw [r2.1]
        refine ⟨fun y => ok_placeOf c9 (by omega) k2.1 M2 (ok_placeOf c9 (by omega) k2.1 M2 ?_), fun y => ?_⟩
        · rw [if_pos y] at this
          rw [e1, e2]
          exact ok_sureOf c9 (by omega) k2.1 r2 (near0_le c9) hi hj hij this
        · rw [if_neg y] at this; exact this
  exact go _ rfl
end OPSB
