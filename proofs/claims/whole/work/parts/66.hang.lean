/-! parents, by walking from the least mark of a tree -/
section HANG
variable {σ h : Hp} {d : Nat} {X : String → Hp → Prop} {s : Tr}
def HO (M : Nat) (s : Tr) (root : Nat) (h g : Hp) (x : Int32) (many k : Nat) : Prop :=
  Fr [37, 41] [] h g ∧ many = fb_ct (bt x) 16 ∧ (∀ b, bt x b = true → b < M ∧ s.1 b = root) ∧ bt x root = true ∧
  (∀ b c, bt x b = true → s.2.1 b c = true → dpT s c < dpT s b → bt x c = true) ∧
  (∀ m, m < M → g.1 37 m = if bt x m then paT s m else h.1 37 m) ∧ (∀ j, j < many → ∃ b, bt x b = true ∧ g.1 41 j = nI b) ∧
  (∀ b, bt x b = true → ∃ j, j < many ∧ g.1 41 j = nI b) ∧ (∀ j b, j < k → g.1 41 j = nI b → bt x b = true → ∀ c, s.2.1 b c = true → bt x c = true)
theorem HO.end {root many k : Nat} {g : Hp} {x : Int32} {M : Nat} (hM : M ≤ 16) (J : JT M s) (H : HO M s root h g x many k) (hk : many ≤ k) : ∀ b, bt x b = decide (b < M ∧ s.1 b = root) := by
  have cl : ∀ b c, bt x b = true → s.2.1 b c = true → bt x c = true := fun b c h1 h2 => by
    obtain ⟨j, hj, e⟩ := H.2.2.2.2.2.2.2.1 b h1
    exact H.2.2.2.2.2.2.2.2 j b (by omega) e h1 c h2
  have go : ∀ n b, b < M → s.1 b = root → dpT s b = n → bt x b = true := by
    intro n
    induction n with
    | zero =>
      intro b hbm e1 e2
      have := (dpT_0 hM J hbm).mp e2
      have : b = root := by omega
      subst this
      exact H.2.2.2.1
    | succ n ih =>
      intro b hbm e1 e2
      obtain ⟨c, h1, h2, h3, _, h5⟩ := pa_dp hM J hbm (by omega)
      exact cl c b (ih c h1 (by omega) (by omega)) (J.sym b c h2).2.2.2
  intro b
  by_cases q : b < M ∧ s.1 b = root
  · rw [decide_eq_true q]; exact go _ b q.1 q.2 rfl
  · rw [decide_eq_false q]
    exact Bool.eq_false_iff.mpr fun z => q (H.2.2.1 b z)
theorem HO.le {root many k : Nat} {g : Hp} {x : Int32} {M : Nat} (H : HO M s root h g x many k) : many ≤ 16 := by
  rw [H.2.1]; exact fb_ct_le _ _
theorem lp_hang41 {F : Int32 → Hp → Prop} {root k by' : Nat} (hS : Std h.2.2) (V : VS σ) (hm : h.1 1 5 = nI (nM σ)) (J : JT (nM σ) s) (T : ∀ a b, a < nM σ → b < nM σ → bt (h.1 40 a) b = s.2.1 a b) (hk : k < 16)
    (nx : ∀ g x many, HO (nM σ) s root h g x many (k + 1) → E mX3_hangOn d 0 0 16 [(0, .ref 34), (2, .int x), (3, .int (nI many)), (4, .int (nI (k + 1)))] [] g (Qi F) X) :
    ∀ (n i : Nat) (g : Hp) (x : Int32) (many : Nat), i + n = nM σ → HO (nM σ) s root h g x many k → g.1 41 k = nI by' → bt x by' = true → k < many → (∀ c, c < i → s.2.1 by' c = true → bt x c = true) →
    E mX3_hangOn d 0 0 41 [(0, .ref 34), (2, .int x), (3, .int (nI many)), (4, .int (nI k)), (5, .int (nI by')), (6, .int (nI i))] [] g (Qi F) X := by
  have hM := V.m.2
  have up : ∀ {g x many}, HO (nM σ) s root h g x many k → g.1 41 k = nI by' → bt x by' = true → (∀ c, s.2.1 by' c = true → bt x c = true) → HO (nM σ) s root h g x many (k + 1) := by
    intro g x many H e1 e2 H2
    refine ⟨H.1, H.2.1, H.2.2.1, H.2.2.2.1, H.2.2.2.2.1, H.2.2.2.2.2.1, H.2.2.2.2.2.2.1, H.2.2.2.2.2.2.2.1, fun j b hj e h1 => ?_⟩
    by_cases hjk : j = k
    · subst hjk
      have : b = by' := nI_inj (by have := (H.2.2.1 b h1).1; omega) (by have := (H.2.2.1 by' e2).1; omega) (by rw [← e, ← e1])
      subst this
      exact H2
    · exact H.2.2.2.2.2.2.2.2 j b (by omega) e h1
  intro n
  induction n with
  | zero =>
    intro i g x many e H e1 e2 hkm I
    have : i = nM σ := by omega
    subst this
    refine sgX3_hangOn_41 _ _ _ _ _ (Nat.zero_le _) (H.1.sd hS) ⟨fun _ => ?_, fun z => absurd (by rw [H.1.i 1 5, hm]; exact nI_le (Nat.le_refl _) (by omega)) z⟩
    rw [nI_1]
    exact nx g x many (up H e1 e2 fun c hc => I c (J.sym _ _ hc).2.1 hc)
  | succ n ih =>
    intro i g x many e H e1 e2 hkm I
    have hi : i < nM σ := by omega
    have hby := H.2.2.1 by' e2
    have hle := H.le
    refine sgX3_hangOn_41 _ _ _ _ _ (Nat.zero_le _) (H.1.sd hS) ⟨fun z => absurd z (by rw [H.1.i 1 5, hm]; exact nI_ge hi (by omega)), fun _ => ⟨fun z => ?_, fun z => ?_⟩⟩
    · have h16 : many = 16 := by
        have : 16 ≤ many := (nI_leI (a := 16) (by omega) (by omega)).mp z
        omega
      rw [nI_1]
      refine nx g x many (up H e1 e2 fun c hc => ?_)
      have := H.2.1
      rw [h16] at this
      exact fb_ct_all.mp this.symm c (by have := (J.sym _ _ hc).2.1; omega)
    · have hlt : many < 16 := by
        refine Classical.byContradiction fun q => z ?_
        exact (nI_leI (a := 16) (b := many) (by omega) (by omega)).mpr (by omega)
      rw [nI_clamp (by omega), nI_clamp (by omega), nI_clamp (by omega), nI_1, nI_1, H.1.i 40 by', bt_shr (by omega), bt_shr (by omega), T by' i hby.1 hi]
      have keep : (s.2.1 by' i = true → bt x i = true) → E mX3_hangOn d 0 0 41 [(0, .ref 34), (2, .int x), (3, .int (nI many)), (4, .int (nI k)), (5, .int (nI by')), (6, .int (nI (i + 1)))] [] g (Qi F) X := fun hz => ih (i + 1) g x many (by omega) H e1 e2 hkm fun c hc hc2 => by
        by_cases hci : c = i
        · subst hci; exact hz hc2
        · exact I c (by omega) hc2
      refine ⟨vin (by omega), fun q => keep fun q2 => ?_, fun q => ⟨fun q2 => ?_, fun q2 => keep fun _ => bI_n0.mp q2⟩⟩
      · rw [bI_0.mp q] at q2; cases q2
      · have t1 := bI_n0.mp q
        have t2 := bI_0.mp q2
        have ts := J.sym _ _ t1
        have dlt : dpT s by' < dpT s i := by
          have n1 := J.nxt (s.1 by') by' i (by have := J.bun by' hby.1; omega) t1 (J.bun by' hby.1).2
          have d1 : dpT s by' = s.2.2 (s.1 by') by' := rfl
          have d2 : dpT s i = s.2.2 (s.1 by') i := by rw [dpT, ts.2.2.1]
          obtain q3 | q3 := n1
          · have := H.2.2.2.2.1 by' i e2 t1 (by omega)
            rw [t2] at this; cases this
          · omega
        obtain ⟨p1, p2⟩ := near_pa hM J hi ts.2.2.2 dlt
        have bx : ∀ b, bt (x ||| (1 : Int32) <<< (nI i &&& 31)) b = if b = i then true else bt x b := fun b => by
          rw [b_or, bt_one (by omega)]
          by_cases hbi : b = i
          · rw [if_pos hbi, decide_eq_true hbi, Bool.or_true]
          · rw [if_neg hbi, decide_eq_false hbi, Bool.or_false]
        have bt' : ∀ b, bt x b = true → bt (x ||| (1 : Int32) <<< (nI i &&& 31)) b = true := fun b hbb => by rw [b_or, hbb]; rfl
        have eo : ∀ b, bt (x ||| (1 : Int32) <<< (nI i &&& 31)) b = true → b ≠ i → bt x b = true := fun b h1 h2 => by
          rw [bx b, if_neg h2] at h1; exact h1
        have r41 : ∀ j, j ≠ many → (hI (hI g 37 i (nI by')) 41 many (nI i)).1 41 j = g.1 41 j := fun j hj => by
          rw [hI_j hj, hI_c (by decide)]
        refine ⟨vin (by omega), vin (by omega), ?_⟩
        refine ih (i + 1) _ _ (many + 1) (by omega) ⟨Fr.tr H.1 (Fr.tr Fr.pI Fr.pI), ?_, fun b hbb => ?_, bt' _ H.2.2.2.1, fun b c h1 h2 h3 => ?_, fun m hmm => ?_, fun j hj => ?_, fun b h1 => ?_, fun j b hj e' h1 c hc => ?_⟩ (by rw [r41 k (by omega)]; exact e1) (bt' _ e2) (by omega) fun c hc hc2 => ?_
        · have u := fb_ct_upd (bt x) true (i := i) (n := 16) (by omega)
          rw [t2] at u
          have c1 : fb_ct (bt (x ||| (1 : Int32) <<< (nI i &&& 31))) 16 = fb_ct (fun k => if k = i then true else bt x k) 16 := fb_ct_cong fun k _ => bx k
          rw [c1, H.2.1]
          simpa using u.symm
        · by_cases hbi : b = i
          · subst hbi; exact ⟨hi, by rw [← ts.2.2.1]; exact hby.2⟩
          · exact H.2.2.1 b (eo b hbb hbi)
        · by_cases hbi : b = i
          · subst hbi
            have p3 := (near_pa hM J hi h2 h3).2
            rw [p2] at p3
            have : by' = c := nI_inj (by omega) (by have := (J.sym _ _ h2).2.1; omega) p3
            subst this
            exact bt' _ e2
          · exact bt' _ (H.2.2.2.2.1 b c (eo b h1 hbi) h2 h3)
        · rw [hI_c (by decide), hI_if, bx m]
          by_cases hmi : m = i
          · subst hmi
            rw [if_pos rfl, if_pos rfl, if_pos rfl, p2]
          · rw [if_neg hmi, if_neg hmi]; exact H.2.2.2.2.2.1 m hmm
        · by_cases hjm : j = many
          · subst hjm
            exact ⟨i, by rw [bx i, if_pos rfl], hI_k⟩
          · obtain ⟨b, h1, h2⟩ := H.2.2.2.2.2.2.1 j (by omega)
            exact ⟨b, bt' b h1, by rw [r41 j hjm]; exact h2⟩
        · by_cases hbi : b = i
          · subst hbi; exact ⟨many, by omega, hI_k⟩
          · obtain ⟨j, h2, h3⟩ := H.2.2.2.2.2.2.2.1 b (eo b h1 hbi)
            exact ⟨j, by omega, by rw [r41 j (by omega)]; exact h3⟩
        · rw [r41 j (by omega)] at e'
          obtain ⟨b2, h3, h4⟩ := H.2.2.2.2.2.2.1 j (by omega)
          have hb2 := (H.2.2.1 b2 h3).1
          by_cases hbi : b = i
          · subst hbi
            have : b = b2 := nI_inj (by omega) (by omega) (by rw [← e', h4])
            subst this
            rw [t2] at h3; cases h3
          · exact bt' _ (H.2.2.2.2.2.2.2.2 j b hj e' (eo b h1 hbi) c hc)
        · by_cases hci : c = i
          · subst hci; rw [bx c, if_pos rfl]
          · exact bt' _ (I c (by omega) hc2)
theorem lp_hang16 {F : Int32 → Hp → Prop} {root : Nat} (hS : Std h.2.2) (V : VS σ) (hm : h.1 1 5 = nI (nM σ)) (J : JT (nM σ) s) (T : ∀ a b, a < nM σ → b < nM σ → bt (h.1 40 a) b = s.2.1 a b)
    (hq : ∀ g x, Fr [37, 41] [] h g → (∀ b, bt x b = decide (b < nM σ ∧ s.1 b = root)) → (∀ m, m < nM σ → g.1 37 m = if bt x m then paT s m else h.1 37 m) → F x g) :
    ∀ (n k : Nat) (g : Hp) (x : Int32) (many : Nat), k + n = 16 → HO (nM σ) s root h g x many k →
    E mX3_hangOn d 0 0 16 [(0, .ref 34), (2, .int x), (3, .int (nI many)), (4, .int (nI k))] [] g (Qi F) X := by
  have hM := V.m.2
  intro n
  induction n with
  | zero =>
    intro k g x many e H
    have : k = 16 := by omega
    subst this
    exact sgX3_hangOn_16 _ _ _ (Nat.zero_le _) (H.1.sd hS) ⟨fun _ => hq g x H.1 (H.end hM J H.le) H.2.2.2.2.2.1, fun z => absurd (nI_le (Nat.le_refl 16) (by omega)) z⟩
  | succ n ih =>
    intro k g x many e H
    have hle := H.le
    refine sgX3_hangOn_16 _ _ _ (Nat.zero_le _) (H.1.sd hS) ⟨fun z => absurd z (nI_ge (a := k) (b := 16) (by omega) (by omega)), fun _ => ⟨fun z => ?_, fun z => ⟨vin (by omega), ?_⟩⟩⟩
    · exact hq g x H.1 (H.end hM J ((nI_leI (by omega) (by omega)).mp z)) H.2.2.2.2.2.1
    · have hlt : k < many := by
        refine Classical.byContradiction fun q => z ?_
        exact (nI_leI (by omega) (by omega)).mpr (by omega)
      obtain ⟨b, h1, h2⟩ := H.2.2.2.2.2.2.1 k hlt
      rw [nI_clamp (by omega), h2]
      exact lp_hang41 hS V hm J T (by omega) (fun g' x' many' H' => ih (k + 1) g' x' many' (by omega) H') (nM σ) 0 g x many (by omega) H h2 h1 hlt fun c hc => absurd hc (Nat.not_lt_zero _)
theorem ok_hangOn {F : Int32 → Hp → Prop} {root : Nat} (hd : 1 ≤ d) (hS : Std h.2.2) (V : VS σ) (hm : h.1 1 5 = nI (nM σ)) (J : JT (nM σ) s) (T : ∀ a b, a < nM σ → b < nM σ → bt (h.1 40 a) b = s.2.1 a b) (hr : root < nM σ) (hB : s.1 root = root) (h0 : h.1 37 root = -1)
    (hq : ∀ g x, Fr [37, 41] [] h g → (∀ b, bt x b = decide (b < nM σ ∧ s.1 b = root)) → (∀ m, m < nM σ → g.1 37 m = if bt x m then paT s m else h.1 37 m) → F x g) : OKi d mX3_hangOn [.ref 34, .int (nI root)] h F X := by
  have hM := V.m.2
  have b1 : ∀ b, bt ((1 : Int32) <<< (nI root &&& 31)) b = true → b = root := fun b hbb => by
    rw [bt_one (by omega)] at hbb; exact of_decide_eq_true hbb
  refine enX3_hangOn _ hd hS (lp_hang16 hS V hm J T hq 16 0 _ _ 1 (by omega) ⟨Fr.pI, ?_, fun b hbb => ?_, by rw [bt_one (by omega), decide_eq_true rfl], fun b c h1 h2 h3 => ?_, fun m hmm => ?_, fun j hj => ⟨root, by rw [bt_one (by omega), decide_eq_true rfl], ?_⟩, fun b hbb => ⟨0, by omega, ?_⟩, fun j b hj => absurd hj (Nat.not_lt_zero _)⟩)
  · have u := fb_ct_upd (fun _ => false) true (i := root) (n := 16) (by omega)
    have c1 : fb_ct (bt ((1 : Int32) <<< (nI root &&& 31))) 16 = fb_ct (fun k => if k = root then true else false) 16 := fb_ct_cong fun k _ => by
      rw [bt_one (by omega)]
      by_cases q : k = root
      · rw [if_pos q, decide_eq_true q]
      · rw [if_neg q, decide_eq_false q]
    have c2 : fb_ct (fun _ => false) 16 = 0 := fb_ct_zero.mpr fun _ _ => rfl
    rw [c1]
    rw [c2] at u
    simpa using u.symm
  · rw [b1 b hbb]; exact ⟨hr, hB⟩
  · rw [b1 b h1] at h3
    have := (dpT_0 hM J hr).mpr hB
    omega
  · rw [hI_c (by decide), bt_one (by omega)]
    by_cases q : m = root
    · subst q
      rw [decide_eq_true rfl, if_pos rfl, h0, paT_no J hmm hB]
    · rw [decide_eq_false q, if_neg (by decide)]
  · have : j = 0 := by omega
    subst this
    exact hI_k
  · rw [b1 b hbb]; exact hI_k
theorem lp_hangAll {F : Hp → Prop} (hd : 1 ≤ d) (hS : Std h.2.2) (V : VS σ) (hm : h.1 1 5 = nI (nM σ)) (J : JT (nM σ) s) (T : ∀ a b, a < nM σ → b < nM σ → bt (h.1 40 a) b = s.2.1 a b)
    (hq : ∀ g, Fr [37, 41] [] h g → (∀ m, m < nM σ → g.1 37 m = paT s m) → F g) :
    ∀ (n i : Nat) (g : Hp) (x : Int32), i + n = nM σ → Fr [37, 41] [] h g → (∀ b, bt x b = decide (b < nM σ ∧ s.1 b < i)) → (∀ m, m < nM σ → g.1 37 m = if s.1 m < i then paT s m else -1) →
    E mX3_hangAll d 0 0 4 [(0, .ref 34), (1, .int x), (2, .int (nI i))] [] g (Qv F) X := by
  have hM := V.m.2
  intro n
  induction n with
  | zero =>
    intro i g x e fr B P
    have : i = nM σ := by omega
    subst this
    refine sgX3_hangAll_4 _ _ hd (fr.sd hS) ⟨fun _ => hq g fr fun m hmm => ?_, fun z => absurd (by rw [fr.i 1 5, hm]; exact nI_le (Nat.le_refl _) (by omega)) z⟩
    have := J.bun m hmm
    rw [P m hmm, if_pos (by omega)]
  | succ n ih =>
    intro i g x e fr B P
    have hi : i < nM σ := by omega
    have bi := J.bun i hi
    refine sgX3_hangAll_4 _ _ hd (fr.sd hS) ⟨fun z => absurd z (by rw [fr.i 1 5, hm]; exact nI_ge hi (by omega)), fun _ => ?_⟩
    rw [bt_shr (by omega), B i, nI_1]
    refine ⟨fun z => ?_, fun z => ?_⟩
    · have z1 := of_decide_eq_false (bI_0.mp z)
      have hB : s.1 i = i := by omega
      refine ok_hangOn hd (fr.sd hS) V (by rw [fr.i 1 5, hm]) J (fun a b ha hb' => by rw [fr.i 40 a]; exact T a b ha hb') hi hB (by rw [P i hi, if_neg (by omega)]) fun g2 x2 fr2 B2 P2 => ih (i + 1) g2 _ (by omega) (Fr.tr fr fr2) (fun b => ?_) fun m hmm => ?_
      · rw [b_or, B b, B2 b, ← Bool.decide_or]
        exact decide_eq_decide.mpr (by omega)
      · rw [P2 m hmm, B2 m]
        by_cases q : s.1 m = i
        · rw [decide_eq_true ⟨hmm, q⟩, if_pos rfl, if_pos (by omega)]
        · rw [decide_eq_false (fun z => q z.2), if_neg (by decide), P m hmm]
          by_cases q2 : s.1 m < i
          · rw [if_pos q2, if_pos (by omega)]
          · rw [if_neg q2, if_neg (by omega)]
    · have z1 := of_decide_eq_true (bI_n0.mp z)
      have no : ∀ m, m < nM σ → s.1 m ≠ i := fun m hmm q => by
        have := J.bun m hmm
        rw [q] at this
        omega
      refine ih (i + 1) g x (by omega) fr (fun b => ?_) fun m hmm => ?_
      · rw [B b]
        refine decide_eq_decide.mpr ?_
        by_cases hbm : b < nM σ
        · have := no b hbm; omega
        · omega
      · have := no m hmm
        rw [P m hmm]
        by_cases q2 : s.1 m < i
        · rw [if_pos q2, if_pos (by omega)]
        · rw [if_neg q2, if_neg (by omega)]
theorem ok_hangAll {F : Hp → Prop} (hd : 2 ≤ d) (hS : Std h.2.2) (V : VS σ) (hm : h.1 1 5 = nI (nM σ)) (J : JT (nM σ) s) (T : ∀ a b, a < nM σ → b < nM σ → bt (h.1 40 a) b = s.2.1 a b) (h0 : ∀ m, m < nM σ → h.1 37 m = -1)
    (hq : ∀ g, Fr [37, 41] [] h g → (∀ m, m < nM σ → g.1 37 m = paT s m) → F g) : OKv d mX3_hangAll [.ref 34] h F X :=
  enX3_hangAll hd hS (lp_hangAll (Nat.le_refl _) hS V hm J T hq (nM σ) 0 h 0 (by omega) Fr.rf (fun b => by rw [b_0, decide_eq_false (fun z => Nat.not_lt_zero _ z.2)]) fun m hmm => by rw [if_neg (Nat.not_lt_zero _)]; exact h0 m hmm)
end HANG
