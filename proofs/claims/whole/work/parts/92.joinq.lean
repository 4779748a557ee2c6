/-! the likest two groups, and all joins -/
section JOINQ
variable {σ : Hp} {s : JG}
def lk1 (σ : Hp) (s : JG) (st : Int32 × Int32) (a b : Nat) : Int32 × Int32 := if hdJ σ s a = true ∧ hdJ σ s b = true ∧ st.2 < s.2 a b ∧ bdJ σ s a b = false then (nI (60 * a + b), s.2 a b) else st
def lkR (σ : Hp) (s : JG) (st : Int32 × Int32) (a : Nat) : Nat → Int32 × Int32
  | 0 => st
  | b + 1 => if a < b then lk1 σ s (lkR σ s st a b) a b else lkR σ s st a b
def lkA (σ : Hp) (s : JG) : Nat → Int32 × Int32
  | 0 => (-1, 0)
  | a + 1 => lkR σ s (lkA σ s a) a (nD σ)
def lkF (σ : Hp) (s : JG) : Int32 := (lkA σ s (nD σ)).1
theorem lkR_lo {st : Int32 × Int32} {a : Nat} : ∀ b, b ≤ a + 1 → lkR σ s st a b = st
  | 0, _ => rfl
  | b + 1, h => by
    rw [lkR, if_neg (by omega)]
    exact lkR_lo b (by omega)
theorem lkR_off {st : Int32 × Int32} {a : Nat} (h : hdJ σ s a = false) : ∀ b, lkR σ s st a b = st
  | 0 => rfl
  | b + 1 => by
    have e : lk1 σ s st a b = st := if_neg fun z => absurd z.1 (by rw [h]; decide)
    rw [lkR, lkR_off h b, e]
    exact ite_self _
theorem lkR_in {P : Int32 × Int32 → Prop} {st : Int32 × Int32} {a : Nat} (hs : P st) (hP : ∀ b v, a < b → b < nD σ → hdJ σ s a = true → hdJ σ s b = true → bdJ σ s a b = false → P (nI (60 * a + b), v)) : ∀ b, b ≤ nD σ → P (lkR σ s st a b)
  | 0, _ => hs
  | b + 1, hb' => by
    have := lkR_in hs hP b (by omega)
    rw [lkR]
    by_cases q : a < b
    · rw [if_pos q, lk1]
      by_cases q2 : hdJ σ s a = true ∧ hdJ σ s b = true ∧ (lkR σ s st a b).2 < s.2 a b ∧ bdJ σ s a b = false
      · rw [if_pos q2]; exact hP b _ q (by omega) q2.1 q2.2.1 q2.2.2.2
      · rw [if_neg q2]; exact this
    · rw [if_neg q]; exact this
theorem lkA_in {P : Int32 × Int32 → Prop} (h0 : P (-1, 0)) (hP : ∀ a b v, a < b → b < nD σ → hdJ σ s a = true → hdJ σ s b = true → bdJ σ s a b = false → P (nI (60 * a + b), v)) : ∀ a, a ≤ nD σ → P (lkA σ s a)
  | 0, _ => h0
  | a + 1, ha => lkR_in (lkA_in h0 hP a (by omega)) (fun b v => hP a b v) (nD σ) (Nat.le_refl _)
theorem lkF_or : lkF σ s = -1 ∨ ∃ a b, a < b ∧ b < nD σ ∧ hdJ σ s a = true ∧ hdJ σ s b = true ∧ lkF σ s = nI (60 * a + b) :=
  lkA_in (P := fun st => st.1 = -1 ∨ ∃ a b, a < b ∧ b < nD σ ∧ hdJ σ s a = true ∧ hdJ σ s b = true ∧ st.1 = nI (60 * a + b)) (Or.inl rfl) (fun a b v h1 h2 h3 h4 _ => Or.inr ⟨a, b, h1, h2, h3, h4, rfl⟩) (nD σ) (Nat.le_refl _)
def finJ (σ : Hp) : Nat → JG → JG
  | 0, s => s
  | n + 1, s => if lkF σ s = -1 then s else finJ σ n (uniJ s ((lkF σ s).toNatClampNeg / 60) ((lkF σ s).toNatClampNeg % 60))
theorem uni_less (J : JJ σ s) {o t : Nat} (ho : hdJ σ s o = true) (ht : hdJ σ s t = true) (hot : o < t) : fb_ct (hdJ σ (uniJ s o t)) (nD σ) < fb_ct (hdJ σ s) (nD σ) := by
  refine ct_drop (k := t) (fun j _ => ?_) (stn_al (hd_1 ht).1).2 ?_ ht
  · rw [uni_hd J ho ht hot, Bool.and_eq_true]; exact fun z => z.1
  · rw [uni_hd J ho ht hot, decide_eq_true rfl, Bool.not_true, Bool.and_false]
theorem fin_step (hD : nD σ ≤ 60) {n : Nat} : (lkF σ s = -1 ∧ finJ σ (n + 1) s = s) ∨ ∃ o t, o < t ∧ t < nD σ ∧ hdJ σ s o = true ∧ hdJ σ s t = true ∧ lkF σ s = nI (60 * o + t) ∧ finJ σ (n + 1) s = finJ σ n (uniJ s o t) := by
  obtain q | ⟨a, b, h1, h2, h3, h4, q⟩ := lkF_or (σ := σ) (s := s)
  · exact Or.inl ⟨q, by rw [finJ, if_pos q]⟩
  · refine Or.inr ⟨a, b, h1, h2, h3, h4, q, ?_⟩
    have e1 : (60 * a + b) / 60 = a := by omega
    have e2 : (60 * a + b) % 60 = b := by omega
    rw [finJ, if_neg (by rw [q]; exact nI_neg (by omega)), q, nI_clamp (by omega), e1, e2]
theorem finJ_J (V : VS σ) : ∀ (n : Nat) (s : JG), JJ σ s → JJ σ (finJ σ n s)
  | 0, _, J => J
  | n + 1, s, J => by
    obtain ⟨_, e⟩ | ⟨o, t, h1, h2, h3, h4, _, e⟩ := fin_step (σ := σ) (s := s) (n := n) V.d.2
    · rw [e]; exact J
    · rw [e]; exact finJ_J V n _ (uni_J V J h3 h4 h1)
theorem finJ_en (V : VS σ) : ∀ (n k : Nat) (s : JG), JJ σ s → fb_ct (hdJ σ s) (nD σ) ≤ n → n ≤ k → finJ σ n s = finJ σ k s
  | 0, 0, _, _, _, _ => rfl
  | 0, k + 1, s, J, hn, _ => by
    obtain ⟨_, e⟩ | ⟨o, t, h1, h2, h3, h4, _, e⟩ := fin_step (σ := σ) (s := s) (n := k) V.d.2
    · rw [e]; rfl
    · have := uni_less J h3 h4 h1; omega
  | n + 1, 0, _, _, _, hk => by omega
  | n + 1, k + 1, s, J, hn, hk => by
    obtain ⟨q, e⟩ | ⟨o, t, h1, h2, h3, h4, q, e⟩ := fin_step (σ := σ) (s := s) (n := n) V.d.2
    · obtain ⟨_, e'⟩ | ⟨o', t', h1', h2', _, _, q', _⟩ := fin_step (σ := σ) (s := s) (n := k) V.d.2
      · rw [e, e']
      · have hD := V.d.2
        rw [q'] at q
        exact absurd q (nI_neg (by omega))
    · obtain ⟨q', _⟩ | ⟨o', t', h1', h2', _, _, q', e'⟩ := fin_step (σ := σ) (s := s) (n := k) V.d.2
      · have hD := V.d.2
        rw [q] at q'
        exact absurd q' (nI_neg (by omega))
      · have hD := V.d.2
        rw [q] at q'
        have := nI_inj (by omega) (by omega) q'
        have e1 : o = o' := by omega
        have e2 : t = t' := by omega
        subst e1 e2
        rw [e, e']
        exact finJ_en V n k _ (uni_J V J h3 h4 h1) (by have := uni_less J h3 h4 h1; omega) (by omega)
def grpS (σ : Hp) (w : Nat → Nat → Int32) : JG := finJ σ 60 (jg0 σ w)
theorem grpS_J (V : VS σ) (w : Nat → Nat → Int32) : JJ σ (grpS σ w) := finJ_J V 60 _ (jg0_J V)
end JOINQ
/-! joins by the class -/
section JOINC
variable {σ h : Hp} {d : Nat} {X : String → Hp → Prop} {s : JG}
def GC (σ : Hp) (s : JG) (h : Hp) : Prop :=
  h.1 53 0 = nI (nD σ) ∧ (∀ k, hb (h.2.1 53 1) k = hdJ σ s k) ∧ (∀ a, hdJ σ s a = true → ∀ k, hb (h.2.1 54 a) k = (stn σ k && decide (s.1 k = a))) ∧
  (∀ a, hdJ σ s a = true → ∀ k, hb (h.2.1 55 a) k = true ↔ ∃ i, stn σ i = true ∧ s.1 i = a ∧ al σ k = true ∧ brd σ i k = true ∧ k ≠ i) ∧
  ∀ a b, hdJ σ s a = true → hdJ σ s b = true → a ≠ b → h.1 56 (60 * a + b) = s.2 a b
theorem GC.bd (G : GC σ s h) {a b : Nat} (ha : hdJ σ s a = true) (hb' : hdJ σ s b = true) (hab : a ≠ b) : h.2.1 55 a &&& h.2.1 54 b = 0 ↔ bdJ σ s a b = false := by
  have hz : ∀ k, hb (h.2.1 55 a &&& h.2.1 54 b) k = true ↔ ∃ i, stn σ i = true ∧ s.1 i = a ∧ stn σ k = true ∧ s.1 k = b ∧ brd σ i k = true := fun k => by
    rw [hb_and, Bool.and_eq_true, G.2.2.2.1 a ha, G.2.2.1 b hb', Bool.and_eq_true, decide_eq_true_eq]
    refine ⟨fun ⟨⟨i, p1, p2, p3, p4, _⟩, p6, p7⟩ => ⟨i, p1, p2, p6, p7, p4⟩, fun ⟨i, p1, p2, p3, p4, p5⟩ => ⟨⟨i, p1, p2, (stn_al p3).1, p5, fun z => hab (by rw [← p2, ← p4, z])⟩, p3, p4⟩⟩
  refine ⟨fun z => Bool.eq_false_iff.mpr fun q => ?_, fun z => hb_ext fun k _ => ?_⟩
  · obtain ⟨i, j, p1, p2, p3, p4, p5⟩ := bdJ_p.mp q
    have := (hz j).mpr ⟨i, p1, p3, p2, p4, p5⟩
    rw [z, hb_0] at this; cases this
  · rw [hb_0]
    refine Bool.eq_false_iff.mpr fun q => ?_
    obtain ⟨i, p1, p2, p3, p4, p5⟩ := (hz k).mp q
    rw [bdJ_p.mpr ⟨i, k, p1, p3, p2, p4, p5⟩] at z; cases z
theorem lp_likest19 {F : Int32 → Hp → Prop} {a : Nat} {st : Int32 × Int32} (hd : 1 ≤ d) (hS : Std h.2.2) (V : VS σ) (G : GC σ s h) (ha : a < nD σ)
    (nx : E mX1_likest d 0 0 6 [(0, .ref 53), (1, .int (lkR σ s st a (nD σ)).1), (2, .int (lkR σ s st a (nD σ)).2), (3, .int (nI (a + 1)))] [] h (Qi F) X) :
    ∀ n b : Nat, b + n = nD σ → a < b → E mX1_likest d 0 0 19 [(0, .ref 53), (1, .int (lkR σ s st a b).1), (2, .int (lkR σ s st a b).2), (3, .int (nI a)), (4, .int (nI b))] [] h (Qi F) X := by
  have hD := V.d.2
  intro n
  induction n with
  | zero =>
    intro b e hab
    have : b = nD σ := by omega
    subst this
    refine sgX1_likest_19 _ _ _ _ hd hS ⟨fun _ => ?_, fun z => absurd (by rw [G.1]; exact Int32.le_refl _) z⟩
    rw [nI_1]; exact nx
  | succ n ih =>
    intro b e hab
    have hbn : b < nD σ := by omega
    have nx2 := ih (b + 1) (by omega) (by omega)
    have ei : nI a * (60 : Int32) + nI b = nI (60 * a + b) := by rw [lit_nI 60, pk_mul, nI_add, Nat.mul_comm]
    rw [lkR, if_pos hab] at nx2
    refine sgX1_likest_19 _ _ _ _ hd hS ⟨fun z => absurd z (by rw [G.1]; exact nI_ge hbn (by omega)), fun _ => ok_has (by omega) hS (by omega) ?_⟩
    rw [G.2.1 a, nI_1, nI_1]
    refine ⟨fun z => ?_, fun z => ok_has (by omega) hS (by omega) ?_⟩
    · have e0 := bI_0.mp z
      rw [lkR_off e0] at nx ⊢
      exact nx
    · have ea := bI_n0.mp z
      rw [G.2.1 b]
      refine ⟨fun z2 => ?_, fun z2 => ?_⟩
      · have e0 := bI_0.mp z2
        rw [lk1, if_neg (fun y => by rw [e0] at y; cases y.2.1)] at nx2
        exact nx2
      · have eb := bI_n0.mp z2
        rw [ei, nI_clamp (by omega), nI_clamp (by omega), nI_clamp (by omega), G.2.2.2.2 a b ea eb (by omega)]
        refine ⟨vin (by omega), fun z3 => ?_, fun z3 => ⟨vin (by omega), vin (by omega), fun z4 => ⟨vin (by omega), ?_⟩, fun z4 => ?_⟩⟩
        · rw [lk1, if_neg (fun y => absurd z3 (Int32.not_le.mpr y.2.2.1))] at nx2
          exact nx2
        · rw [lk1, if_pos ⟨ea, eb, Int32.not_le.mp z3, (G.bd ea eb (by omega)).mp z4⟩] at nx2
          exact nx2
        · rw [lk1, if_neg (fun y => z4 ((G.bd ea eb (by omega)).mpr y.2.2.2))] at nx2
          exact nx2
theorem ok_likest {F : Int32 → Hp → Prop} (hd : 2 ≤ d) (hS : Std h.2.2) (V : VS σ) (G : GC σ s h) (hq : F (lkF σ s) h) : OKi d mX1_likest [.ref 53] h F X := by
  have hD := V.d.2
  have go : ∀ n a : Nat, a + n = nD σ → E mX1_likest 1 0 0 6 [(0, .ref 53), (1, .int (lkA σ s a).1), (2, .int (lkA σ s a).2), (3, .int (nI a))] [] h (Qi F) X := by
    intro n
    induction n with
    | zero =>
      intro a e
      have : a = nD σ := by omega
      subst this
      exact sgX1_likest_6 _ _ _ (Nat.le_refl _) hS ⟨fun _ => hq, fun z => absurd (by rw [G.1]; exact Int32.le_refl _) z⟩
    | succ n ih =>
      intro a e
      refine sgX1_likest_6 _ _ _ (Nat.le_refl _) hS ⟨fun z => absurd z (by rw [G.1]; exact nI_ge (by omega) (by omega)), fun _ => ?_⟩
      rw [nI_1]
      have := lp_likest19 (st := lkA σ s a) (Nat.le_refl 1) hS V G (by omega) (ih (a + 1) (by omega)) (nD σ - (a + 1)) (a + 1) (by omega) (by omega)
      rw [lkR_lo (a + 1) (Nat.le_refl _)] at this
      exact this
  exact enX1_likest hd hS (go (nD σ) 0 (by omega))
end JOINC
