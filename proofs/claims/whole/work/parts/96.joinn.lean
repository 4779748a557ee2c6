/-! all joins by the reference -/
section JOINN
variable {σ h : Hp} {d : Nat} {X : String → Hp → Prop} {s : JG} {w : Nat → Nat → Int32} {late : Bool}
def onF (f : Int32) : Int32 := if f = -1 then -1 else nI (f.toNatClampNeg / 60)
def otF (f : Int32) : Int32 := if f = -1 then -1 else nI (f.toNatClampNeg % 60)
theorem onF_n {a b : Nat} (ha : a < 60) (hb' : b < 60) : onF (nI (60 * a + b)) = nI a ∧ otF (nI (60 * a + b)) = nI b := by
  have e1 : (60 * a + b) / 60 = a := by omega
  have e2 : (60 * a + b) % 60 = b := by omega
  rw [onF, otF, if_neg (nI_neg (by omega)), if_neg (nI_neg (by omega)), nI_clamp (by omega), e1, e2]
  exact ⟨rfl, rfl⟩
theorem lk1_pos {st : Int32 × Int32} {a b : Nat} (h : 0 ≤ st.2) : 0 ≤ (lk1 σ s st a b).2 := by
  rw [lk1]
  by_cases q : hdJ σ s a = true ∧ hdJ σ s b = true ∧ st.2 < s.2 a b ∧ bdJ σ s a b = false
  · rw [if_pos q]
    have h1 := q.2.2.1
    rw [fa_lt] at h1
    rw [fa_le] at h ⊢
    show (0 : Int32).toInt ≤ (s.2 a b).toInt
    omega
  · rw [if_neg q]; exact h
theorem lkR_pos {st : Int32 × Int32} {a : Nat} (h : 0 ≤ st.2) : ∀ b, 0 ≤ (lkR σ s st a b).2
  | 0 => h
  | b + 1 => by
    rw [lkR]
    split
    · exact lk1_pos (lkR_pos h b)
    · exact lkR_pos h b
theorem lkA_pos : ∀ a, 0 ≤ (lkA σ s a).2
  | 0 => Int32.le_refl _
  | a + 1 => lkR_pos (lkA_pos a) _
theorem lp_join171 {F : Hp → Prop} {a : Nat} {st : Int32 × Int32} (hd : 7 ≤ d) (hS : Std h.2.2) (V : VS σ) (J : JJ σ s) (h6 : h.1 91 6 = nI (nD σ)) (G : GM σ s h) (ha : hdJ σ s a = true) (hst : 0 ≤ st.2)
    (nx : E mX12_joins d 0 0 141 [(0, .ref 91), (3, .int (onF (lkR σ s st a (nD σ)).1)), (4, .int (otF (lkR σ s st a (nD σ)).1)), (5, .int (lkR σ s st a (nD σ)).2), (6, .int (nI (a + 1)))] [] h (Qv F) X) :
    ∀ n b : Nat, b + n = nD σ → a < b → E mX12_joins d 0 0 171 [(0, .ref 91), (3, .int (onF (lkR σ s st a b).1)), (4, .int (otF (lkR σ s st a b).1)), (5, .int (lkR σ s st a b).2), (6, .int (nI a)), (7, .int (nI b))] [] h (Qv F) X := by
  have hD := V.d.2
  have an := (stn_al (hd_1 ha).1).2
  intro n
  induction n with
  | zero =>
    intro b e hab
    have : b = nD σ := by omega
    subst this
    refine sgX12_joins_171 _ _ _ _ _ hd hS ⟨fun _ => ?_, fun z => absurd (by rw [h6]; exact Int32.le_refl _) z⟩
    rw [nI_1]; exact nx
  | succ n ih =>
    intro b e hab
    have hbn : b < nD σ := by omega
    have nx2 := ih (b + 1) (by omega) (by omega)
    have ei : (60 : Int32) * nI a + nI b = nI (60 * a + b) := by rw [lit_nI 60, pk_mul, nI_add]
    have pos := lkR_pos (σ := σ) (s := s) (a := a) hst b
    rw [lkR, if_pos hab] at nx2
    refine sgX12_joins_171 _ _ _ _ _ hd hS ⟨fun z => absurd z (by rw [h6]; exact nI_ge hbn (by omega)), fun _ => ⟨vin (by omega), ?_⟩⟩
    rw [nI_clamp (by omega), G.1 b hbn, nI_1, ei, nI_clamp (by omega), gJ_hd V J hbn]
    refine ⟨fun hb' => ⟨vin (by omega), ?_⟩, fun z => ?_⟩
    · rw [G.2 a b ha hb' (by omega), vJ]
      cases eb : bdJ σ s a b
      · rw [if_neg (by decide)]
        refine ⟨fun z => ⟨vin (by omega), ?_⟩, fun z => ?_⟩
        · rw [lk1, if_pos ⟨ha, hb', z, eb⟩] at nx2
          obtain ⟨e1, e2⟩ := onF_n (a := a) (b := b) (by omega) (by omega)
          simp only [e1, e2] at nx2
          exact nx2
        · rw [lk1, if_neg (fun y => z y.2.2.1)] at nx2
          exact nx2
      · rw [if_pos rfl]
        rw [lk1, if_neg (fun y => by rw [eb] at y; cases y.2.2.2)] at nx2
        refine ⟨fun z => ?_, fun _ => nx2⟩
        have e0 : (-2147483648 : Int32).toInt = -2147483648 := by decide
        rw [fa_lt, e0] at z
        have := fb_rng (lkR σ s st a b).2
        omega
    · rw [lk1, if_neg (fun y => z y.2.1)] at nx2
      exact nx2
theorem lp_join141 {F : Hp → Prop} (hd : 7 ≤ d) (hS : Std h.2.2) (V : VS σ) (J : JJ σ s) (h6 : h.1 91 6 = nI (nD σ)) (G : GM σ s h)
    (nx : E mX12_joins d 0 0 141 [(0, .ref 91), (3, .int (onF (lkF σ s))), (4, .int (otF (lkF σ s))), (5, .int (lkA σ s (nD σ)).2), (6, .int (nI (nD σ)))] [] h (Qv F) X) :
    ∀ n a : Nat, a + n = nD σ → E mX12_joins d 0 0 141 [(0, .ref 91), (3, .int (onF (lkA σ s a).1)), (4, .int (otF (lkA σ s a).1)), (5, .int (lkA σ s a).2), (6, .int (nI a))] [] h (Qv F) X := by
  have hD := V.d.2
  intro n
  induction n with
  | zero =>
    intro a e
    have : a = nD σ := by omega
    subst this
    exact nx
  | succ n ih =>
    intro a e
    have ha : a < nD σ := by omega
    refine sgX12_joins_141 _ _ _ _ hd hS ⟨fun z => absurd z (by rw [h6]; exact nI_ge ha (by omega)), fun _ => ⟨vin (by omega), ?_⟩⟩
    rw [nI_clamp (by omega), G.1 a ha, nI_1, gJ_hd V J ha]
    have nx2 := ih (a + 1) (by omega)
    rw [lkA] at nx2
    refine ⟨fun z => ?_, fun z => ?_⟩
    · have := lp_join171 (st := lkA σ s a) hd hS V J h6 G z (lkA_pos a) nx2 (nD σ - (a + 1)) (a + 1) (by omega) (by omega)
      rw [lkR_lo (a + 1) (Nat.le_refl _)] at this
      exact this
    · rw [lkR_off (Bool.eq_false_iff.mpr z)] at nx2
      exact nx2
theorem lp_join126 {F : Hp → Prop} (hd : 7 ≤ d) (hS : Std h.2.2) (V : VS σ) (h6 : h.1 91 6 = nI (nD σ)) {s0 : JG} (hq : ∀ q, Fr [125, 126] [] h q → GM σ (finJ σ 60 s0) q → F q) :
    ∀ (n : Nat) (r : JG) (q : Hp), n ≤ 60 → Fr [125, 126] [] h q → JJ σ r → GM σ r q → fb_ct (hdJ σ r) (nD σ) ≤ n → finJ σ n r = finJ σ 60 s0 → E mX12_joins d 0 0 126 [(0, .ref 91), (2, .int 1)] [] q (Qv F) X := by
  have hD := V.d.2
  intro n
  induction n with
  | zero =>
    intro r q hn fr Jr Gr hc ef
    have hS' := fr.sd hS
    have e6 : q.1 91 6 = nI (nD σ) := by rw [fr.i 91 6, h6]
    refine sgX12_joins_126 _ hd hS' ⟨fun z => absurd z (by decide), fun _ => lp_join141 (s := r) hd hS' V Jr e6 Gr ?_ (nD σ) 0 (by omega)⟩
    have e0 : finJ σ 0 r = r := rfl
    rw [e0] at ef
    obtain y | ⟨a, b, h1, h2, h3, h4, y⟩ := lkF_or (σ := σ) (s := r)
    · rw [y]
      subst ef
      exact sgX12_joins_141 _ _ _ _ hd hS' ⟨fun _ => ⟨fun _ => ⟨fun _ => sgX12_joins_126 _ hd hS' ⟨fun _ => hq q fr Gr, fun z => absurd rfl z⟩, fun z => absurd rfl z⟩, fun z => absurd rfl z⟩, fun z => absurd (by rw [e6]; exact Int32.le_refl _) z⟩
    · have := uni_less Jr h3 h4 h1; omega
  | succ n ih =>
    intro r q hn fr Jr Gr hc ef
    have hS' := fr.sd hS
    have e6 : q.1 91 6 = nI (nD σ) := by rw [fr.i 91 6, h6]
    refine sgX12_joins_126 _ hd hS' ⟨fun z => absurd z (by decide), fun _ => lp_join141 (s := r) hd hS' V Jr e6 Gr ?_ (nD σ) 0 (by omega)⟩
    obtain ⟨y, e1⟩ | ⟨o, t, h1, h2, h3, h4, y, e1⟩ := fin_step (σ := σ) (s := r) (n := n) hD
    · rw [e1] at ef
      rw [y]
      subst ef
      exact sgX12_joins_141 _ _ _ _ hd hS' ⟨fun _ => ⟨fun _ => ⟨fun _ => sgX12_joins_126 _ hd hS' ⟨fun _ => hq q fr Gr, fun z => absurd rfl z⟩, fun z => absurd rfl z⟩, fun z => absurd rfl z⟩, fun z => absurd (by rw [e6]; exact Int32.le_refl _) z⟩
    · rw [e1] at ef
      obtain ⟨e2, e3⟩ := onF_n (a := o) (b := t) (by omega) (by omega)
      rw [y, e2, e3]
      refine sgX12_joins_141 _ _ _ _ hd hS' ⟨fun _ => ⟨fun z => absurd z (nI_neg (by omega)), fun _ => ⟨fun z => absurd z (by decide), fun _ => ?_⟩⟩, fun z => absurd (by rw [e6]; exact Int32.le_refl _) z⟩
      exact ok_uniteM (s := r) (by omega) hS' V Jr h3 h4 h1 e6 Gr fun q2 fr2 G2 => ih _ q2 (by omega) (Fr.tr fr fr2) (uni_J V Jr h3 h4 h1) G2 (by have := uni_less Jr h3 h4 h1; omega) ef
theorem lp_join36 {F : Hp → Prop} {i : Nat} (hd : 7 ≤ d) (hS : Std h.2.2) (V : VS σ) (m : MC σ h) (R : RLaid σ w h) (hi : i < nD σ)
    (nx : ∀ q, Fr [126] [] h q → (∀ a b, a ≤ i → b < a → stn σ a = true → stn σ b = true → q.1 126 (60 * a + b) = vJ σ (jg0 σ w) a b ∧ q.1 126 (60 * b + a) = vJ σ (jg0 σ w) a b) → E mX12_joins d 0 0 7 [(0, .ref 91), (2, .int (nI (i + 1)))] [] q (Qv F) X) :
    ∀ (n j : Nat) (q : Hp), j + n = i → Fr [126] [] h q → (∀ a b, b < a → (a < i ∨ (a = i ∧ b < j)) → stn σ a = true → stn σ b = true → q.1 126 (60 * a + b) = vJ σ (jg0 σ w) a b ∧ q.1 126 (60 * b + a) = vJ σ (jg0 σ w) a b) →
    E mX12_joins d 0 0 36 [(0, .ref 91), (2, .int (nI i)), (3, .int (nI j))] [] q (Qv F) X := by
  have hD := V.d.2
  intro n
  induction n with
  | zero =>
    intro j q e fr I
    have : j = i := by omega
    subst this
    refine sgX12_joins_36 _ _ hd (fr.sd hS) ⟨fun _ => ?_, fun z => absurd (Int32.le_refl _) z⟩
    rw [nI_1]
    exact nx q fr fun a b h1 h2 h3 h4 => I a b h2 (by omega) h3 h4
  | succ n ih =>
    intro j q e fr I
    have hj : j < i := by omega
    have hS' := fr.sd hS
    have mq := m.fr fr
    have e1 : (60 : Int32) * nI i + nI j = nI (60 * i + j) := by rw [lit_nI 60, pk_mul, nI_add]
    have e2 : (60 : Int32) * nI j + nI i = nI (60 * j + i) := by rw [lit_nI 60, pk_mul, nI_add]
    have step : ∀ v, (stn σ i = true → stn σ j = true → v = vJ σ (jg0 σ w) i j) → E mX12_joins d 0 0 36 [(0, .ref 91), (2, .int (nI i)), (3, .int (nI (j + 1)))] [] (hI (hI q 126 (60 * i + j) v) 126 (60 * j + i) v) (Qv F) X := fun v hv => by
      refine ih (j + 1) _ (by omega) (Fr.tr fr (Fr.tr Fr.pI Fr.pI)) fun a b h1 h2 h3 h4 => ?_
      by_cases ha : a < nD σ
      · rw [hI_if, hI_if, hI_if, hI_if]
        by_cases q1 : a = i ∧ b = j
        · rw [if_neg (by omega), if_pos (by omega), if_pos (by omega), hv (by rw [← q1.1]; exact h3) (by rw [← q1.2]; exact h4), q1.1, q1.2]
          exact ⟨rfl, rfl⟩
        · rw [if_neg (by omega), if_neg (by omega), if_neg (by omega), if_neg (by omega)]
          exact I a b h1 (by omega) h3 h4
      · have := (stn_al h3).2; omega
    have bd0 : stn σ i = true → stn σ j = true → (bdJ σ (jg0 σ w) i j = brd σ i j) := fun s1 s2 => by
      have bb : ∀ (x y : Bool), (x = true ↔ y = true) → x = y := by decide
      refine bb _ _ (bdJ_p.trans ⟨fun ⟨a, b, _, _, p3, p4, p5⟩ => ?_, fun z => ⟨i, j, s1, s2, rfl, rfl, z⟩⟩)
      have p3 : a = i := p3
      have p4 : b = j := p4
      rw [← p3, ← p4]; exact p5
    refine sgX12_joins_36 _ _ hd hS' ⟨fun z => absurd z (nI_ge hj (by omega)), fun _ => ok_standsM (by omega) hS' V mq hi ?_⟩
    rw [e1, e2, nI_1, nI_clamp (by omega), nI_clamp (by omega)]
    refine ⟨fun z => ⟨vin (by omega), vin (by omega), step _ fun y => by rw [bI_0.mp z] at y; cases y⟩, fun z => ok_standsM (by omega) hS' V mq (by omega) ⟨fun z2 => ⟨vin (by omega), vin (by omega), step _ fun _ y => by rw [bI_0.mp z2] at y; cases y⟩, fun z2 => ⟨vin (by omega), ?_⟩⟩⟩
    have s1 := bI_n0.mp z
    have s2 := bI_n0.mp z2
    rw [fr.i 113, R.2.1 i j hi (by omega) (by omega)]
    have k2 := knd_2 (σ := σ) (stn_al s1).1 (stn_al s2).1
    refine ⟨fun z3 => ⟨vin (by omega), vin (by omega), step _ fun _ _ => ?_⟩, fun z3 => ?_⟩
    · rw [decide_eq_true z3] at k2
      rw [vJ, bd0 s1 s2, ← k2]; rfl
    · rw [decide_eq_false z3] at k2
      have R3 : RLaid σ w q := ⟨R.1.fr fr fun _ => rfl, fun a b ha hb' hab => by rw [fr.i 113]; exact R.2.1 a b ha hb' hab, fun k hk => by rw [fr.i 114]; exact R.2.2.1 k hk, fun a k o v h1 h2 h3 h4 => by rw [fr.i 115]; exact R.2.2.2.1 a k o v h1 h2 h3 h4, fun k o v h1 h2 h3 => by rw [fr.i 116]; exact R.2.2.2.2 k o v h1 h2 h3⟩
      refine ok_worthOfM (by omega) hS' V (by rw [mq.i 91 3, V.m.1]) R3 hi (by omega) ⟨vin (by omega), vin (by omega), step _ fun _ _ => ?_⟩
      rw [vJ, bd0 s1 s2, ← k2]; rfl
theorem ok_joins {F : Hp → Prop} (hd : 8 ≤ d) (hS : Std h.2.2) (V : VS σ) (m : MC σ h) (ak : h.1 91 36 = -1) (hq : ∀ q, Kp scm h q → q.1 91 0 = h.1 91 0 → GM σ (grpS σ (wS σ late)) q → F q) : OKv d mX12_joins [.ref 91, .int (bI late)] h F X := by
  have hD := V.d.2
  refine enX12_joins _ hd hS (ok_layM (w := wS σ late) (by omega) hS V m (asked_no ak) fun q1 f1 R1 => ?_)
  have m1 := m.fr f1
  have S1 := f1.sd hS
  have go : ∀ (n i : Nat) (q : Hp), i + n = nD σ → Fr [125, 126] [] q1 q → (∀ k, k < i → q.1 125 k = gJ σ (jg0 σ (wS σ late)) k) → (∀ a b, a < i → b < a → stn σ a = true → stn σ b = true → q.1 126 (60 * a + b) = vJ σ (jg0 σ (wS σ late)) a b ∧ q.1 126 (60 * b + a) = vJ σ (jg0 σ (wS σ late)) a b) →
      E mX12_joins 7 0 0 7 [(0, .ref 91), (2, .int (nI i))] [] q (Qv F) X := by
    intro n
    induction n with
    | zero =>
      intro i q e fr G I
      have : i = nD σ := by omega
      subst this
      have mq := m1.fr fr
      have e6 : q.1 91 6 = nI (nD σ) := by rw [mq.i 91 6, V.d.1]
      refine sgX12_joins_7 _ (Nat.le_refl _) (fr.sd S1) ⟨fun _ => ?_, fun z => absurd (by rw [e6]; exact Int32.le_refl _) z⟩
      refine lp_join126 (s0 := jg0 σ (wS σ late)) (Nat.le_refl _) (fr.sd S1) V e6 (fun q2 f2 G2 => hq q2 ((f1.km hS).tr ((fr.km S1).tr (f2.km (fr.sd S1)))) (by rw [f2.i 91 0, fr.i 91 0, f1.i 91 0]) G2) 60 _ q (Nat.le_refl _) Fr.rf (jg0_J V) ⟨G, fun a b ha hb' hab => ?_⟩ (Nat.le_trans (fb_ct_le _ _) hD) rfl
      have sa := (hd_1 ha).1
      have sb := (hd_1 hb').1
      have la := (stn_al sa).2
      have lb := (stn_al sb).2
      by_cases y : b < a
      · exact (I a b la y sa sb).1
      · rw [(I b a lb (by omega) sb sa).2, vJ, vJ, bd_sym V]
        congr 1
        exact pwv_sym _ _
    | succ n ih =>
      intro i q e fr G I
      have hi : i < nD σ := by omega
      have mq := m1.fr fr
      have hS' := fr.sd S1
      have step : ∀ v, v = gJ σ (jg0 σ (wS σ late)) i → E mX12_joins 7 0 0 36 [(0, .ref 91), (2, .int (nI i)), (3, .int 0)] [] (hI q 125 i v) (Qv F) X := fun v hv => by
        have f2 : Fr [125] [] q (hI q 125 i v) := Fr.pI
        have fr2 : Fr [125, 126] [] q1 (hI q 125 i v) := Fr.tr fr (Fr.mono f2)
        have R2 : RLaid σ (wS σ late) (hI q 125 i v) := ⟨R1.1.fr fr2 fun _ => rfl, fun a b ha hb' hab => by rw [fr2.i 113]; exact R1.2.1 a b ha hb' hab, fun k hk => by rw [fr2.i 114]; exact R1.2.2.1 k hk, fun a k o v h1 h2 h3 h4 => by rw [fr2.i 115]; exact R1.2.2.2.1 a k o v h1 h2 h3 h4, fun k o v h1 h2 h3 => by rw [fr2.i 116]; exact R1.2.2.2.2 k o v h1 h2 h3⟩
        refine lp_join36 (w := wS σ late) (Nat.le_refl _) (f2.sd hS') V (mq.fr f2) R2 hi (fun q3 f3 I3 => ih (i + 1) q3 (by omega) (Fr.tr fr2 (Fr.mono f3)) (fun k hk => ?_) fun a b h1 h2 h3 h4 => I3 a b (by omega) h2 h3 h4) i 0 _ (by omega) Fr.rf fun a b h1 h2 h3 h4 => by rw [f2.i 126, f2.i 126]; exact I a b (by omega) h1 h3 h4
        rw [f3.i 125, hI_if]
        by_cases ek : k = i
        · rw [if_pos ek, hv, ek]
        · rw [if_neg ek]; exact G k (by omega)
      refine sgX12_joins_7 _ (Nat.le_refl _) hS' ⟨fun z => absurd z (by rw [mq.i 91 6, V.d.1]; exact nI_ge hi (by omega)), fun _ => ok_standsM (by omega) hS' V mq hi ?_⟩
      rw [nI_clamp (by omega)]
      refine ⟨fun z => ⟨vin (by omega), step _ ?_⟩, fun z => ⟨vin (by omega), step _ ?_⟩⟩
      · rw [gJ, bI_0.mp z]; rfl
      · rw [gJ, bI_n0.mp z]; rfl
  exact go (nD σ) 0 q1 (by omega) Fr.rf (fun k hk => absurd hk (Nat.not_lt_zero _)) fun a b h1 => absurd h1 (Nat.not_lt_zero _)
end JOINN
