/-! best, part -/
section OPSA
variable {σ h : Hp} {d : Nat} {X : String → Hp → Prop} {x : Int64} {late : Bool}
def iae : String := "java/lang/IllegalArgumentException"
def ise : String := "java/lang/IllegalStateException"
def nse : String := "java/util/NoSuchElementException"
def bstL (σ : Hp) (late : Bool) (x : Int64) : SB := bstS σ (wS σ late) (wS σ late) x
def nerL (σ : Hp) (late : Bool) (x : Int64) (t : Int32) : SN := nerS σ (wS σ late) (wS σ late) x t
theorem ok_bestC {F : Int32 → Hp → Prop} (hd : 15 ≤ d) (hS : Std h.2.2) (V : VS σ) (c : CS σ h)
    (h0 : GS σ x 2 9 → (bstL σ late x).1 = true → ∀ q, Kp scr h q → F (bstL σ late x).2.1 q) (h1 : ¬ GS σ x 2 9 → X iae h) (h2 : GS σ x 2 9 → (bstL σ late x).1 = false → ∀ q, Kp scr h q → X ise q) :
    OKi d mX11_best [.ref 0, .long x, .int (bI late)] h F X := by
  refine OKi.up (show (d - 1) + 1 ≤ d by omega) (oki_of (d - 1) (by decide +kernel) (Nat.le_of_ble_eq_true rfl) (sgX11_best_0 x (bI late) (by omega) hS ?_))
  refine ok_needSet (l := 2) (m := 9) (by omega) hS V c.1 (by decide) (by decide) (fun g => ok_partSet (by omega) hS V c g (fun f q k L P => ?_) fun f q k => h2 g f q k) h1
  rw [(P.2.2.2 f).1]
  exact h0 g f q k
theorem mbo_or {mb : Nat → Nat} {a : Int32} {n : Nat} : mbo mb a n 0 = -1 ∨ ∃ j, j < n ∧ mbo mb a n 0 = nI j ∧ nI (mb j) = a := by
  have go : ∀ f i, i + f = n → mbo mb a f i = -1 ∨ ∃ j, j < n ∧ mbo mb a f i = nI j ∧ nI (mb j) = a := by
    intro f
    induction f with
    | zero => intro i _; exact Or.inl rfl
    | succ f ih =>
      intro i e
      rw [mbo]
      by_cases q : nI (mb i) = a
      · rw [if_pos q]; exact Or.inr ⟨i, by omega, rfl, q⟩
      · rw [if_neg q]; exact ih (i + 1) (by omega)
  exact go n 0 (by omega)
theorem mbo_no {mb : Nat → Nat} {a : Int32} {n : Nat} (hn : n < 2 ^ 31) : mbo mb a n 0 = -1 ↔ ∀ j, j < n → nI (mb j) ≠ a := by
  have go : ∀ f i, i + f = n → (mbo mb a f i = -1 ↔ ∀ j, i ≤ j → j < n → nI (mb j) ≠ a) := by
    intro f
    induction f with
    | zero => intro i e; exact ⟨fun _ j h1 h2 => by omega, fun _ => rfl⟩
    | succ f ih =>
      intro i e
      rw [mbo]
      by_cases q : nI (mb i) = a
      · rw [if_pos q]
        exact ⟨fun z => absurd z (nI_neg (by omega)), fun z => absurd q (z i (Nat.le_refl _) (by omega))⟩
      · rw [if_neg q, ih (i + 1) (by omega)]
        refine ⟨fun z j h1 h2 => ?_, fun z j h1 h2 => z j (by omega) h2⟩
        by_cases e2 : j = i
        · rw [e2]; exact q
        · exact z j (by omega) h2
  have := go n 0 (by omega)
  exact this.trans ⟨fun z j h => z j (Nat.zero_le _) h, fun z j _ h => z j h⟩
theorem ok_partC {F : Int32 → Hp → Prop} {a : Int32} (hd : 15 ≤ d) (hS : Std h.2.2) (V : VS σ) (c : CS σ h)
    (h0 : GS σ x 2 9 → (bstL σ late x).1 = true → ∀ q, Kp scr h q → F (if mbo (mbf x) a (cntb x) 0 = -1 then -1 else nI ((bstL σ late x).2.2 (mbo (mbf x) a (cntb x) 0).toNatClampNeg)) q) (h1 : ¬ GS σ x 2 9 → X iae h) (h2 : GS σ x 2 9 → (bstL σ late x).1 = false → ∀ q, Kp scr h q → X ise q) :
    OKi d mX11_part [.ref 0, .long x, .int (bI late), .int a] h F X := by
  refine OKi.up (show (d - 1) + 1 ≤ d by omega) (oki_of (d - 1) (by decide +kernel) (Nat.le_of_ble_eq_true rfl) (sgX11_part_0 x (bI late) a (by omega) hS ?_))
  refine ok_needSet (l := 2) (m := 9) (by omega) hS V c.1 (by decide) (by decide) (fun g => ok_partSet (by omega) hS V c g (fun f q k L P => ?_) fun f q k => h2 g f q k) h1
  have c9 := g.2.2
  refine ok_memberOf (mb := mbf x) c9 (by omega) k.1 P.1.1 P.2.1 ?_
  have := h0 g f q k
  refine ⟨fun z => ?_, fun z => ?_⟩
  · rw [if_pos z] at this; exact this
  · rw [if_neg z] at this
    obtain ⟨i, hi, e, _⟩ := (mbo_or (mb := mbf x) (a := a) (n := cntb x)).resolve_left z
    rw [e, nI_clamp (by omega)] at this ⊢
    rw [(P.2.2.2 f).2 i hi]
    exact ⟨vin (by omega), this⟩
theorem ok_fails {F : Int32 → Hp → Prop} {n : Int32} (hd : 1 ≤ d) (hS : Std h.2.2) (hq : ∀ q, Fr [] [(91, 0)] h q → q.1 91 0 = n → F 0 q) : OKi d mX12_fails [.ref 91, .int n] h F X :=
  enX12_fails _ hd hS (hq _ Fr.pI hI_k)
theorem asked_no (mc : h.1 91 36 = -1) : Asked σ h late (wS σ late) := Or.inl ⟨mc, rfl⟩
theorem k0 {q : Hp} {v : Int32} (k : Kp scm h q) : Kp scm h (hI q 91 0 v) := k.tr ((Fr.pI : Fr [] [(91, 0)] q (hI q 91 0 v)).km k.1)
theorem ok_bestM {F : Int32 → Hp → Prop} (hd : 9 ≤ d) (hS : Std h.2.2) (V : VS σ) (mc : MC σ h) (ak : h.1 91 36 = -1)
    (h0 : GS σ x 2 9 → (bstL σ late x).1 = true → ∀ q, Kp scm h q → q.1 91 0 = 0 → F (bstL σ late x).2.1 q) (h1 : ¬ GS σ x 2 9 → ∀ q r, Kp scm h q → q.1 91 0 = 1 → F r q) (h2 : GS σ x 2 9 → (bstL σ late x).1 = false → ∀ q r, Kp scm h q → q.1 91 0 = 2 → F r q) :
    OKi d mX12_best [.ref 91, .long x, .int (bI late)] h F X := by
  refine enX12_best _ _ hd hS (ok_parts (w := wS σ late) (m := 9) (by omega) hS V mc (asked_no ak) (by decide) (fun g q k _ R P => ?_) fun g q k => ⟨fun z => absurd z (by decide), fun _ => h1 g _ _ (k0 k) hI_k⟩)
  cases e : (bstS σ (wS σ late) (wS σ late) x).1
  · rw [if_neg (by decide)]
    exact ⟨fun z => absurd z (by decide), fun _ => h2 g e _ _ (k0 k) hI_k⟩
  · rw [if_pos rfl, (P.2.2.2 e).1]
    exact ⟨fun _ => h0 g e _ (k0 k) hI_k, fun z => absurd (Int32.le_refl _) z⟩
theorem PSm.k0 {q : Hp} {w : Nat → Nat → Int32} {v : Int32} (P : PSm σ w x q) : PSm σ w x (hI q 91 0 v) := by
  have f : Fr [] [(91, 0)] q (hI q 91 0 v) := Fr.pI
  exact ⟨P.1.fr f, P.2.1.fr f, by rw [f.i 91 50]; exact P.2.2.1, fun t => ⟨by rw [f.i 91 48]; exact (P.2.2.2 t).1, fun k hk => by rw [f.i 122 k]; exact (P.2.2.2 t).2 k hk⟩⟩
theorem ok_partM {F : Int32 → Hp → Prop} {a : Int32} (hd : 9 ≤ d) (hS : Std h.2.2) (V : VS σ) (mc : MC σ h) (ak : h.1 91 36 = -1)
    (h0 : GS σ x 2 9 → (bstL σ late x).1 = true → ∀ q, Kp scm h q → q.1 91 0 = 0 → F (if mbo (mbf x) a (cntb x) 0 = -1 then -1 else nI ((bstL σ late x).2.2 (mbo (mbf x) a (cntb x) 0).toNatClampNeg)) q) (h1 : ¬ GS σ x 2 9 → ∀ q r, Kp scm h q → q.1 91 0 = 1 → F r q) (h2 : GS σ x 2 9 → (bstL σ late x).1 = false → ∀ q r, Kp scm h q → q.1 91 0 = 2 → F r q) :
    OKi d mX12_part [.ref 91, .long x, .int (bI late), .int a] h F X := by
  refine enX12_part _ _ _ hd hS (ok_parts (w := wS σ late) (m := 9) (by omega) hS V mc (asked_no ak) (by decide) (fun g q k _ R P => ?_) fun g q k => ⟨fun z => absurd z (by decide), fun _ => h1 g _ _ (k0 k) hI_k⟩)
  have c9 := g.2.2
  cases e : (bstS σ (wS σ late) (wS σ late) x).1
  · rw [if_neg (by decide)]
    exact ⟨fun z => absurd z (by decide), fun _ => h2 g e _ _ (k0 k) hI_k⟩
  · rw [if_pos rfl]
    refine ⟨fun _ => ok_placeOf c9 (by omega) (k0 k).1 P.k0.1 ?_, fun z => absurd (Int32.le_refl _) z⟩
    have := h0 g e _ (k0 (v := 0) k) hI_k
    obtain z | ⟨j, hj, z, _⟩ := mbo_or (mb := mbf x) (a := a) (n := cntb x)
    · rw [if_pos z] at this
      exact ⟨fun _ => this, fun y => absurd z y⟩
    · have nn : ¬ mbo (mbf x) a (cntb x) 0 = -1 := by rw [z]; exact nI_neg (by omega)
      rw [if_neg nn] at this
      rw [z, nI_clamp (by omega)] at this ⊢
      refine ⟨fun y => absurd y (nI_neg (by omega)), fun _ => ⟨vin (by omega), ?_⟩⟩
      rw [(P.k0.2.2.2 e).2 j hj]
      exact this
end OPSA
