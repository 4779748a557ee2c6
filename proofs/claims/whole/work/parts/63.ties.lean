/-! bits of ints; the class's ties -/
theorem bt_one {j : Nat} (hj : j < 32) (k : Nat) : bt ((1 : Int32) <<< (nI j &&& 31)) k = decide (k = j) := by
  by_cases hk : k < 32
  · have : ∀ j, j < 32 → ∀ k, k < 32 → bt ((1 : Int32) <<< (nI j &&& 31)) k = decide (k = j) := by decide +kernel
    exact this j hj k hk
  · rw [b_big (by omega)]
    exact (decide_eq_false (by omega)).symm
theorem bt_1 (k : Nat) : bt 1 k = decide (k = 0) := by
  have := bt_one (j := 0) (by decide) k
  exact this
theorem bt_shr {x : Int32} {k : Nat} (hk : k < 32) : x >>> (nI k &&& 31) &&& (1 : Int32) = bI (bt x k) := by
  refine b_ext fun i hi => ?_
  rw [b_and, bt_1]
  by_cases h0 : i = 0
  · subst h0
    rw [b_sshr k hk x hi, if_pos (by omega), decide_eq_true rfl, Bool.and_true, Nat.add_zero]
    cases bt x k <;> decide
  · rw [decide_eq_false h0, Bool.and_false]
    cases bt x k
    · exact (b_0 i).symm
    · show false = bt 1 i
      rw [bt_1, decide_eq_false h0]
section TIES
variable {σ h : Hp} {d : Nat} {X : String → Hp → Prop} {s : Tr}
/-- the class's rows of ties -/
def TB (M : Nat) (s : Tr) (g : Hp) : Prop := (∀ a b, a < M → b < M → bt (g.1 39 a) b = decide (s.1 a = s.1 b)) ∧ (∀ a b, a < M → b < M → bt (g.1 40 a) b = s.2.1 a b)
theorem lp_tie {F : Hp → Prop} {all : Int32} (hS : Std h.2.2) (V : VS σ) (hm : h.1 1 5 = nI (nM σ))
    (hq : ∀ g, Fr [39] [] h g → (∀ k, g.1 39 k = if k < nM σ ∧ bt all k = true then all else h.1 39 k) → F g) : ∀ (n i : Nat) (g : Hp), i + n = nM σ → Fr [39] [] h g → (∀ k, g.1 39 k = if k < i ∧ bt all k = true then all else h.1 39 k) →
    E mX3_tie d 0 0 41 [(0, .ref 34), (3, .int all), (4, .int (nI i))] [] g (Qv F) X := by
  have hM := V.m.2
  intro n
  induction n with
  | zero =>
    intro i g e fr I
    have : i = nM σ := by omega
    subst this
    exact sgX3_tie_41 _ _ (Nat.zero_le _) (fr.sd hS) ⟨fun _ => hq g fr I, fun z => absurd (by rw [fr.i 1 5, hm]; exact nI_le (Nat.le_refl _) (by omega)) z⟩
  | succ n ih =>
    intro i g e fr I
    have hi : i < nM σ := by omega
    refine sgX3_tie_41 _ _ (Nat.zero_le _) (fr.sd hS) ⟨fun z => absurd z (by rw [fr.i 1 5, hm]; exact nI_ge hi (by omega)), fun _ => ?_⟩
    rw [bt_shr (by omega), nI_1, nI_clamp (by omega)]
    refine ⟨fun z => ih (i + 1) g (by omega) fr fun k => ?_, fun z => ⟨vin (by omega), ih (i + 1) _ (by omega) (Fr.tr fr Fr.pI) fun k => ?_⟩⟩
    · rw [I k]
      have z := bI_0.mp z
      by_cases hk : k = i
      · subst hk
        rw [if_neg (by omega), if_neg (by rw [z]; exact fun q => absurd q.2 (by decide))]
      · by_cases q : k < i ∧ bt all k = true
        · rw [if_pos q, if_pos ⟨by omega, q.2⟩]
        · rw [if_neg q, if_neg (fun z => q ⟨by omega, z.2⟩)]
    · have z := bI_n0.mp z
      rw [hI_if]
      by_cases hk : k = i
      · subst hk
        rw [if_pos rfl, if_pos ⟨by omega, z⟩]
      · rw [if_neg hk, I k]
        by_cases q : k < i ∧ bt all k = true
        · rw [if_pos q, if_pos ⟨by omega, q.2⟩]
        · rw [if_neg q, if_neg (fun z => q ⟨by omega, z.2⟩)]
theorem ok_tie {F : Hp → Prop} {x y : Nat} (hd : 1 ≤ d) (hS : Std h.2.2) (V : VS σ) (hm : h.1 1 5 = nI (nM σ)) (T : TB (nM σ) s h) (hx : x < nM σ) (hy : y < nM σ) (hne : s.1 x ≠ s.1 y)
    (hq : ∀ g, Fr [39, 40] [] h g → TB (nM σ) (tieT s x y) g → F g) : OKv d mX3_tie [.ref 34, .int (nI x), .int (nI y)] h F X := by
  have hM := V.m.2
  refine enX3_tie _ _ hd hS ?_
  rw [nI_clamp (by omega), nI_clamp (by omega)]
  refine ⟨vin (by omega), vin (by omega), vin (by omega), vin (by omega), vin (by omega), vin (by omega), ?_⟩
  have ha : ∀ k, k < nM σ → bt (h.1 39 x ||| h.1 39 y) k = (decide (s.1 k = s.1 x) || decide (s.1 k = s.1 y)) := fun k hk => by
    rw [b_or, T.1 x k hx hk, T.1 y k hy hk, ← Bool.decide_or, ← Bool.decide_or]
    exact decide_eq_decide.mpr (by omega)
  revert ha
  generalize h.1 39 x ||| h.1 39 y = all
  intro ha
  have f0 : Fr [39, 40] [] h (hI (hI h 40 x (h.1 40 x ||| (1 : Int32) <<< (nI y &&& 31))) 40 y ((hI h 40 x (h.1 40 x ||| (1 : Int32) <<< (nI y &&& 31))).1 40 y ||| (1 : Int32) <<< (nI x &&& 31))) := Fr.tr Fr.pI Fr.pI
  refine lp_tie (h := hI (hI h 40 x (h.1 40 x ||| (1 : Int32) <<< (nI y &&& 31))) 40 y ((hI h 40 x (h.1 40 x ||| (1 : Int32) <<< (nI y &&& 31))).1 40 y ||| (1 : Int32) <<< (nI x &&& 31))) (f0.sd hS) V (by rw [f0.i 1 5, hm]) (fun g fr hg => ?_) (nM σ) 0 _ (by omega) Fr.rf (fun k => by rw [if_neg (by omega)])
  refine hq g (Fr.tr f0 (Fr.mono fr)) ⟨fun a b ha' hb' => ?_, fun a b ha' hb' => ?_⟩
  · have et : decide ((tieT s x y).1 a = (tieT s x y).1 b) = decide (s.1 a = s.1 b ∨ (s.1 a = s.1 x ∧ s.1 b = s.1 y) ∨ (s.1 a = s.1 y ∧ s.1 b = s.1 x)) := decide_eq_decide.mpr (tie_eq hne a b)
    rw [hg a, hI_c (by decide), hI_c (by decide), ha a ha', et]
    by_cases q : s.1 a = s.1 x ∨ s.1 a = s.1 y
    · rw [if_pos ⟨ha', by simpa using q⟩, ha b hb', ← Bool.decide_or]
      refine decide_eq_decide.mpr ?_
      omega
    · rw [if_neg (fun z => q (by simpa using z.2)), T.1 a b ha' hb']
      refine decide_eq_decide.mpr ?_
      omega
  · have e2 : (tieT s x y).2.1 a b = (s.2.1 a b || (decide (a = x ∧ b = y) || decide (a = y ∧ b = x))) := rfl
    have hxy : x ≠ y := fun z => hne (by rw [z])
    rw [fr.i 40 a, e2, ← T.2 a b ha' hb', hI_if]
    by_cases h1 : a = y
    · subst h1
      rw [if_pos rfl, hI_j (fun z => hxy z.symm), b_or, bt_one (by omega), decide_eq_false (p := a = x ∧ b = a) (fun z => hxy z.1.symm), Bool.false_or]
      congr 1
      exact decide_eq_decide.mpr ⟨fun z => ⟨rfl, z⟩, fun z => z.2⟩
    · rw [if_neg h1, hI_if, decide_eq_false (p := a = y ∧ b = x) (fun z => h1 z.1), Bool.or_false]
      by_cases h2 : a = x
      · subst h2
        rw [if_pos rfl, b_or, bt_one (by omega)]
        congr 1
        exact decide_eq_decide.mpr ⟨fun z => ⟨rfl, z⟩, fun z => z.2⟩
      · rw [if_neg h2, decide_eq_false (p := a = x ∧ b = y) (fun z => h2 z.1), Bool.or_false]
end TIES
/-! equal weights, equal separation: the same pair -/
theorem pkS_mst {W V : Nat → Int32} {sep sep' : Nat → Nat → Bool} {f : Int32} {a b : Nat} (hW : W (16 * a + b) = V (16 * a + b)) (hs : sep a b = sep' a b) (hk : 16 * a + b < 2 ^ 31) (hf : mst W f = mst V f) :
    pkS W sep f a b = pkS V sep' f a b ∧ mst W (pkS W sep f a b) = mst V (pkS W sep f a b) := by
  rw [pkS, pkS, hW, hs, hf]
  refine ⟨rfl, ?_⟩
  split
  · rw [mst_n hk, mst_n hk, hW]
  · exact hf
theorem pkR_mst {W V : Nat → Int32} {sep sep' : Nat → Nat → Bool} {f g : Int32} {a M : Nat} (hM : M ≤ 16) (ha : a < 16) (hW : ∀ b, a < b → b < M → W (16 * a + b) = V (16 * a + b)) (hs : ∀ b, a < b → b < M → sep a b = sep' a b) (hfg : f = g) (hf : mst W f = mst V f) :
    ∀ b, b ≤ M → pkR W sep f a b = pkR V sep' g a b ∧ mst W (pkR W sep f a b) = mst V (pkR W sep f a b)
  | 0, _ => ⟨hfg, hf⟩
  | b + 1, hbm => by
    obtain ⟨h1, h2⟩ := pkR_mst hM ha hW hs hfg hf b (by omega)
    rw [pkR, pkR, ← h1]
    by_cases q : a < b
    · rw [if_pos q, if_pos q]
      exact pkS_mst (hW b q (by omega)) (hs b q (by omega)) (by omega) h2
    · rw [if_neg q, if_neg q]; exact ⟨rfl, h2⟩
theorem pkA_mst {W V : Nat → Int32} {sep sep' : Nat → Nat → Bool} {M : Nat} (hM : M ≤ 16) (hW : ∀ a b, a < b → b < M → W (16 * a + b) = V (16 * a + b)) (hs : ∀ a b, a < b → b < M → sep a b = sep' a b) :
    ∀ a, a ≤ M → pkA W sep M a = pkA V sep' M a ∧ mst W (pkA W sep M a) = mst V (pkA W sep M a)
  | 0, _ => ⟨rfl, by rw [pkA, mst, mst, if_pos rfl, if_pos rfl]⟩
  | a + 1, ham => by
    obtain ⟨h1, h2⟩ := pkA_mst hM hW hs a (by omega)
    rw [pkA, pkA]
    exact pkR_mst hM (by omega) (fun b => hW a b) (fun b => hs a b) h1 h2 M (Nat.le_refl _)
def wtW (σ : Hp) (w : Nat → Nat → Int32) (k : Nat) : Int32 := wt σ w (k / 16) (k % 16)
theorem wtW_k {σ : Hp} {w : Nat → Nat → Int32} {a b : Nat} (hb' : b < 16) : wtW σ w (16 * a + b) = wt σ w a b := by
  rw [wtW]
  have e1 : (16 * a + b) / 16 = a := by omega
  have e2 : (16 * a + b) % 16 = b := by omega
  rw [e1, e2]
def frs (σ : Hp) (w : Nat → Nat → Int32) : Tr := finT (wtW σ w) (nM σ) 16 tr0
section TIEALL
variable {σ h : Hp} {d : Nat} {X : String → Hp → Prop} {w : Nat → Nat → Int32}
theorem pkC {g : Hp} {s : Tr} (V : VS σ) (hw : ∀ a b, a < b → b < nM σ → g.1 38 (16 * a + b) = wt σ w a b) (T : TB (nM σ) s g) : pkA (g.1 38) (sepC g) (nM σ) (nM σ) = pkA (wtW σ w) (sepT s) (nM σ) (nM σ) := by
  have hM := V.m.2
  refine (pkA_mst hM (fun a b h1 h2 => by rw [hw a b h1 h2, wtW_k (by omega)]) (fun a b h1 h2 => ?_) (nM σ) (Nat.le_refl _)).1
  rw [sepC, bt_shr (by omega), T.1 a b (by omega) h2, sepT]
  by_cases q : s.1 a = s.1 b
  · rw [decide_eq_true q]; rfl
  · rw [decide_eq_false q]; rfl
theorem lp_tieAll {F : Hp → Prop} (hd : 1 ≤ d) (hS : Std h.2.2) (V : VS σ) (hm : h.1 1 5 = nI (nM σ)) (hw : ∀ a b, a < b → b < nM σ → h.1 38 (16 * a + b) = wt σ w a b)
    (hq : ∀ g, Fr [39, 40] [] h g → TB (nM σ) (frs σ w) g → F g) : ∀ (n k : Nat) (s : Tr) (g : Hp), k + n = 16 → Fr [39, 40] [] h g → TB (nM σ) s g → JT (nM σ) s → finT (wtW σ w) (nM σ) n s = frs σ w →
    E mX3_tieAll d 0 0 7 [(0, .ref 34), (1, .int (pkA (wtW σ w) (sepT s) (nM σ) (nM σ))), (2, .int (nI k))] [] g (Qv F) X := by
  have hM := V.m.2
  intro n
  induction n with
  | zero =>
    intro k s g e fr T J ef
    have : k = 16 := by omega
    subst this
    rw [finT] at ef
    subst ef
    exact sgX3_tieAll_7 _ _ hd (fr.sd hS) ⟨fun _ => hq g fr T, fun z => absurd (nI_le (Nat.le_refl 16) (by omega)) z⟩
  | succ n ih =>
    intro k s g e fr T J ef
    refine sgX3_tieAll_7 _ _ hd (fr.sd hS) ⟨fun z => absurd z (nI_ge (a := k) (b := 16) (by omega) (by omega)), fun _ => ?_⟩
    rw [finT] at ef
    obtain q | ⟨x, y, hx, hy, hne, q⟩ := pk_some (W := wtW σ w) (s := s) hM
    · rw [if_pos q] at ef
      subst ef
      exact ⟨fun _ => hq g fr T, fun z => absurd q z⟩
    · have nn : ¬ pkA (wtW σ w) (sepT s) (nM σ) (nM σ) = -1 := by rw [q]; exact nI_neg (by omega)
      rw [if_neg nn, q, nI_clamp (by omega)] at ef
      have e1 : (16 * x + y) / 16 = x := by omega
      have e2 : (16 * x + y) % 16 = y := by omega
      rw [e1, e2] at ef
      refine ⟨fun z => absurd z nn, fun _ => ?_⟩
      rw [q, lit_nI 16, pk_rem (by omega) (by decide) (by decide), pk_div (by omega) (by decide) (by decide), e1, e2]
      refine ok_tie (σ := σ) hd (fr.sd hS) V (by rw [fr.i 1 5, hm]) T hx hy hne fun g2 fr2 T2 => ok_heaviest hd (fr2.sd (fr.sd hS)) V (by rw [fr2.i 1 5, fr.i 1 5, hm]) ?_
      rw [pkC V (fun a b h1 h2 => by rw [fr2.i 38, fr.i 38]; exact hw a b h1 h2) T2, nI_1]
      exact ih (k + 1) _ g2 (by omega) (Fr.tr fr fr2) T2 (J.tie hx hy hne) ef
theorem ok_tieAll {F : Hp → Prop} (hd : 2 ≤ d) (hS : Std h.2.2) (V : VS σ) (hm : h.1 1 5 = nI (nM σ)) (hw : ∀ a b, a < b → b < nM σ → h.1 38 (16 * a + b) = wt σ w a b)
    (h0 : ∀ k, k < nM σ → h.1 39 k = (1 : Int32) <<< (nI k &&& 31) ∧ h.1 40 k = 0)
    (hq : ∀ g, Fr [39, 40] [] h g → TB (nM σ) (frs σ w) g → F g) : OKv d mX3_tieAll [.ref 34] h F X := by
  have hM := V.m.2
  have T : TB (nM σ) tr0 h := ⟨fun a b ha hbb => by
    rw [(h0 a ha).1, bt_one (by omega)]
    exact decide_eq_decide.mpr ⟨fun z => z.symm, fun z => Eq.symm z⟩, fun a b ha _ => by rw [(h0 a ha).2, b_0]; rfl⟩
  refine enX3_tieAll hd hS (ok_heaviest (Nat.le_refl _) hS V hm ?_)
  rw [pkC V hw T]
  exact lp_tieAll (Nat.le_refl _) hS V hm hw hq 16 0 tr0 h (by omega) Fr.rf T (JT.zero _) rfl
end TIEALL
