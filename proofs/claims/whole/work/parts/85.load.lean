/-! the class loads a set's members -/
section LOAD
variable {σ h : Hp} {d S U : Nat} {X : String → Hp → Prop} {w u : Nat → Nat → Int32} {x : Int64}
theorem nI_shl {i : Nat} (hi : i < 31) : (1 : Int32) <<< (nI i &&& 31) = nI (2 ^ i) := by
  have lt : 2 ^ i < 2 ^ 31 := Nat.pow_lt_pow_right (by decide) hi
  have := pk_shlN (n := 1) (nI i &&& 31) i (s_l i (by omega)) (by omega)
  rw [Nat.one_mul] at this
  exact this
theorem ok_setGain {F : Hp → Prop} {i j : Nat} {v : Int32} (hi : i < 9) (hj : j < i) (hd : 1 ≤ d) (hS : Std h.2.2)
    (hq : ∀ q, Fr [49] [] h q → (∀ k, q.1 49 k = if 2 ^ i + 2 ^ j ≤ k ∧ k < 2 ^ i + 2 ^ j + 2 ^ j then h.1 49 (k - 2 ^ j) + v else h.1 49 k) → F q) : OKv d mX5_setGain [.ref 45, .int (nI i), .int (nI j), .int v] h F X := by
  have p1 : 2 ^ (j + 1) ≤ 2 ^ i := Nat.pow_le_pow_right (by decide) (by omega)
  have p2 : 2 ^ i ≤ 2 ^ 8 := Nat.pow_le_pow_right (by decide) (by omega)
  rw [Nat.pow_succ] at p1
  have pj : 0 < 2 ^ j := Nat.two_pow_pos j
  have go : ∀ (m p : Nat) (q : Hp), p + m = 2 ^ j → Fr [49] [] h q → (∀ k, q.1 49 k = if 2 ^ i + 2 ^ j ≤ k ∧ k < 2 ^ i + 2 ^ j + p then h.1 49 (k - 2 ^ j) + v else h.1 49 k) → E mX5_setGain 0 0 0 13 [(0, .ref 45), (3, .int v), (4, .int (nI (2 ^ i))), (5, .int (nI (2 ^ j))), (6, .int (nI p))] [] q (Qv F) X := by
    intro m
    induction m with
    | zero =>
      intro p q e fr I
      have : p = 2 ^ j := by omega
      subst this
      exact sgX5_setGain_13 _ _ _ _ (Nat.zero_le _) (fr.sd hS) ⟨fun _ => hq q fr I, fun z => absurd (Int32.le_refl _) z⟩
    | succ m ih =>
      intro p q e fr I
      refine sgX5_setGain_13 _ _ _ _ (Nat.zero_le _) (fr.sd hS) ⟨fun z => absurd z (nI_ge (by omega) (by omega)), fun _ => ?_⟩
      rw [nI_add, nI_add, nI_add, nI_1, nI_clamp (by omega), nI_clamp (by omega), I (2 ^ i + p), if_neg (by omega)]
      refine ⟨vin (by omega), vin (by omega), ih (p + 1) _ (by omega) (Fr.tr fr Fr.pI) fun k => ?_⟩
      rw [hI_if]
      by_cases e2 : k = 2 ^ i + 2 ^ j + p
      · rw [if_pos e2, if_pos (by omega)]
        have : k - 2 ^ j = 2 ^ i + p := by omega
        rw [this]
      · rw [if_neg e2, I k]
        by_cases e3 : 2 ^ i + 2 ^ j ≤ k ∧ k < 2 ^ i + 2 ^ j + p
        · rw [if_pos e3, if_pos (by omega)]
        · rw [if_neg e3, if_neg (by omega)]
  refine enX5_setGain _ _ _ hd hS ?_
  rw [nI_shl (by omega), nI_shl (by omega)]
  exact go (2 ^ j) 0 h (by omega) Fr.rf fun k => by rw [if_neg (by omega)]
theorem knd_2 {a b : Nat} (ha : al σ a = true) (hb' : al σ b = true) : decide (knd σ a b = 2) = brd σ a b := by
  rw [knd, ha, hb', Bool.and_self, if_pos rfl]
  cases h1 : one σ a b
  · cases h2 : brd σ a b <;> rfl
  · have : brd σ a b = false := by rw [brd, h1]; rfl
    rw [this]; rfl
theorem knd_1 {a b : Nat} (ha : al σ a = true) (hb' : al σ b = true) : decide (knd σ a b = 1) = one σ a b := by
  rw [knd, ha, hb', Bool.and_self, if_pos rfl]
  cases h1 : one σ a b
  · cases h2 : brd σ a b <;> rfl
  · rfl
def badS (σ : Hp) (mb : Nat → Nat) (i k : Nat) : Bool := decide (knd σ (mb i) (mb k) = 2)
def oneS (σ : Hp) (mb : Nat → Nat) (i k : Nat) : Bool := decide (knd σ (mb i) (mb k) = 1)
def gnS (σ : Hp) (w u : Nat → Nat → Int32) (mb : Nat → Nat) (i k : Nat) : Int32 := pwv σ w u (mb i) (mb k)
theorem otc_sym (p q : Int32) : otc p q = otc q p := by
  rw [otc, otc, Bool.and_comm, Int32.add_comm]
theorem ovr_sym {par : Nat → Int32} (m a b : Nat) : ovr u par m a b = ovr u par m b a := by
  rw [ovr, ovr, otc_sym]
theorem pwn_sym {par : Nat → Int32} (a b : Nat) : ∀ n, pwn σ w par u a b n = pwn σ w par u b a n
  | 0 => rfl
  | n + 1 => by
    have h1 : on u n a b = on u n b a := by rw [on, on, otc_sym]
    have h2 : vn u par n a b = vn u par n b a := by rw [vn, vn, ovr_sym]
    rw [pwn, pwn, pwn_sym a b n, mwv, mwv, h1, h2]
theorem pwv_sym (a b : Nat) : pwv σ w u a b = pwv σ w u b a := pwn_sym a b _
theorem LK.fr {q : Hp} {L : List Nat} {fs : List (Nat × Nat)} (sh : ShOK S) (K : LK σ w S h) (fr : Fr L fs h q) (hL : ∀ y ∈ L, (y < 22 ∨ 33 < y) ∧ y ≠ 34 ∧ y ≠ 35 ∧ y ≠ 36 ∧ y ≠ 37 ∧ y ≠ 42 ∧ y ≠ 43 ∧ y ≠ 44 := by decide) (hf : ∀ p ∈ fs, p.1 < 22 ∨ 44 < p.1 := by decide) : LK σ w S q := by
  have no : ∀ y k, y = 34 ∨ y = 35 ∨ y = 36 ∨ y = 37 ∨ y = 42 ∨ y = 43 ∨ y = 44 → inW L fs y k = false := fun y k h1 => by
    simp only [inW, Bool.or_eq_false_iff, List.contains_eq_mem, decide_eq_false_iff_not]
    refine ⟨fun z => ?_, fun z => ?_⟩
    · have := hL y z; omega
    · have := hf _ z; simp only at this; omega
  refine ⟨by rw [fr.1]; exact K.1, fun k => by rw [fr.l 34 3 (no _ _ (by decide))]; exact K.2.1 k, fun k hk b => by rw [fr.l 35 k (no _ _ (by decide)), fr.l 36 k (no _ _ (by decide))]; exact K.2.2.1 k hk b, fun m hm => by rw [fr.i 37 m (no _ _ (by decide))]; exact K.2.2.2.1 m hm, fun m v hm hv => ?_, K.2.2.2.2.2.fw sh fr (fun y hy => (hL y hy).1) (fun p hp => by have := hf p hp; omega)⟩
  rw [fr.i 44 _ (no _ _ (by decide))]
  obtain z | ⟨z, z2⟩ := K.2.2.2.2.1 m v hm hv
  · exact Or.inl z
  · exact Or.inr ⟨z, fun o ho => by rw [fr.i 42 _ (no _ _ (by decide)), fr.i 42 _ (no _ _ (by decide))]; exact z2.1 o ho, fun o ho => by rw [fr.i 43 _ (no _ _ (by decide))]; exact z2.2 o ho⟩
/-- loaded up to member i -/
def LD (σ : Hp) (w u : Nat → Nat → Int32) (S : Nat) (x : Int64) (h q : Hp) (i : Nat) : Prop :=
  Fr [42, 43, 44, 46, 47, 48, 49] [(45, 1)] h q ∧ LK σ w S q ∧ q.1 45 1 = nI (cntb x) ∧ (∀ k, k < cntb x → q.1 46 k = nI (mbf x k)) ∧
  (∀ a, a < i → ∀ k, bt (q.1 47 a) k = (decide (k < a) && badS σ (mbf x) a k) ∧ bt (q.1 48 a) k = (decide (k < a) && oneS σ (mbf x) a k)) ∧
  ∀ a, a < i → ∀ m, m < 2 ^ a → q.1 49 (2 ^ a + m) = gpt (gnS σ w u (mbf x)) a m a
def LE (σ : Hp) (w u : Nat → Nat → Int32) (x : Int64) (q : Hp) (i j : Nat) : Prop :=
  (∀ k, bt (q.1 47 i) k = (decide (k < j) && badS σ (mbf x) i k) ∧ bt (q.1 48 i) k = (decide (k < j) && oneS σ (mbf x) i k)) ∧
  ∀ m, m < 2 ^ j → q.1 49 (2 ^ i + m) = gpt (gnS σ w u (mbf x)) i m j
theorem or_bit {y : Int32} {j : Nat} {P : Nat → Bool} (hj : j < 32) (hy : ∀ k, bt y k = (decide (k < j) && P k)) (b : Bool) (hb' : b = P j) : ∀ k, bt (y ||| if b = true then (1 : Int32) <<< (nI j &&& 31) else 0) k = (decide (k < j + 1) && P k) := fun k => by
  rw [b_or, hy]
  have e : bt (if b = true then (1 : Int32) <<< (nI j &&& 31) else 0) k = (decide (k = j) && b) := by
    cases b
    · rw [if_neg (by decide), b_0, Bool.and_false]
    · rw [if_pos rfl, bt_one hj, Bool.and_true]
  rw [e, hb']
  by_cases hk : k = j
  · rw [hk, decide_eq_true rfl, decide_eq_false (p := j < j) (by omega), decide_eq_true (p := j < j + 1) (by omega)]; simp
  · rw [decide_eq_false hk, Bool.false_and, Bool.or_false]
    have : decide (k < j + 1) = decide (k < j) := decide_eq_decide.mpr (by omega)
    rw [this]
theorem lp_load127 {F : Hp → Prop} {i l : Nat} {xb xo : Int64} (sh : ShOK S) (shU : ShOK U) (hd : 5 ≤ d) (hS : Std h.2.2) (V : VS σ) (c : CD σ h) (hm : h.1 1 5 = nI (nM σ)) (su : Shw u U h) (hu : ∀ k j, S03 (u k j)) (G : GS σ x l 9) (hi : i < cntb x)
    (hxb : ∀ k, hb xb k = (al σ k && brd σ (mbf x i) k && !decide (k = mbf x i))) (hxo : ∀ k, hb xo k = (al σ (mbf x i) && al σ k && one σ (mbf x i) k && !decide (k = mbf x i)))
    (nx : ∀ q, LD σ w u S x h q (i + 1) → E mX5_load d 0 0 63 [(0, .ref 45), (3, .ref 8), (4, .ref 34), (5, .ref U), (6, .int (nI (i + 1)))] [] q (Qv F) X) :
    ∀ (n j : Nat) (q : Hp), j + n = i → LD σ w u S x h q i → LE σ w u x q i j →
    E mX5_load d 0 0 127 [(0, .ref 45), (3, .ref 8), (4, .ref 34), (5, .ref U), (6, .int (nI i)), (7, .long xb), (9, .long xo), (11, .int (nI j))] [] q (Qv F) X := by
  have hD := V.d.2
  have c9 := G.2.2
  have mi := mbf_in hi
  have ali := (stn_al (G.1 _ mi.1)).1
  have lti := (stn_al (G.1 _ mi.1)).2
  have p2 : 2 ^ i ≤ 2 ^ 8 := Nat.pow_le_pow_right (by decide) (by omega)
  intro n
  induction n with
  | zero =>
    intro j q e I J
    have : j = i := by omega
    subst this
    refine sgX5_load_127 shU _ _ _ _ hd (I.1.sd hS) ⟨fun _ => ?_, fun z => absurd (Int32.le_refl _) z⟩
    rw [nI_1]
    refine nx q ⟨I.1, I.2.1, I.2.2.1, I.2.2.2.1, fun a ha => ?_, fun a ha => ?_⟩
    · by_cases e2 : a = j
      · subst e2; exact J.1
      · exact I.2.2.2.2.1 a (by omega)
    · by_cases e2 : a = j
      · subst e2; exact J.2
      · exact I.2.2.2.2.2 a (by omega)
  | succ n ih =>
    intro j q e I J
    have hj : j < i := by omega
    have hS' := I.1.sd hS
    have mj := mbf_in (x := x) (i := j) (by omega)
    have alj := (stn_al (G.1 _ mj.1)).1
    have ltj := (stn_al (G.1 _ mj.1)).2
    have lt := mbf_lt hi hj
    have e46i := I.2.2.2.1 i hi
    have e46j := I.2.2.2.1 j (by omega)
    have bb : hb xb (mbf x j) = badS σ (mbf x) i j := by
      rw [hxb, alj, badS, knd_2 ali alj, decide_eq_false (p := mbf x j = mbf x i) (by omega)]; simp
    have bo : hb xo (mbf x j) = oneS σ (mbf x) i j := by
      rw [hxo, alj, ali, oneS, knd_1 ali alj, decide_eq_false (p := mbf x j = mbf x i) (by omega)]; simp
    have p3 : 2 ^ (j + 1) ≤ 2 ^ i := Nat.pow_le_pow_right (by decide) (by omega)
    rw [Nat.pow_succ] at p3
    have b198 : ∀ (q1 : Hp), Fr [47] [] q q1 → (∀ k, k ≠ i → q1.1 47 k = q.1 47 k) → (∀ k, bt (q1.1 47 i) k = (decide (k < j + 1) && badS σ (mbf x) i k)) → ∀ b, b = oneS σ (mbf x) i j →
        E mX5_load d 0 0 198 [(0, .ref 45), (3, .ref 8), (4, .ref 34), (5, .ref U), (6, .int (nI i)), (7, .long xb), (9, .long xo), (11, .int (nI j))] [.int (if b = true then (1 : Int32) <<< (nI j &&& 31) else 0), .int (q1.1 48 i), .int (nI i), .ref 48] q1 (Qv F) X := by
      intro q1 fr1 k47 b47 b hb'
      refine sgX5_load_198 shU _ _ _ _ _ _ _ hd (fr1.sd hS') ⟨vin (by omega), vin (by omega), vin (by omega), ?_⟩
      rw [nI_clamp (by omega), nI_clamp (by omega), fr1.i 46 j, fr1.i 46 i, e46i, e46j]
      have f2 : Fr [47, 48] [] q (hI q1 48 i ((q1.1 48 i) ||| if b = true then (1 : Int32) <<< (nI j &&& 31) else 0)) := Fr.tr (Fr.mono fr1) Fr.pI
      have f02 : Fr [42, 43, 44, 46, 47, 48, 49] [(45, 1)] h (hI q1 48 i ((q1.1 48 i) ||| if b = true then (1 : Int32) <<< (nI j &&& 31) else 0)) := Fr.tr I.1 (Fr.mono f2)
      have L2 : LK σ w S (hI q1 48 i ((q1.1 48 i) ||| if b = true then (1 : Int32) <<< (nI j &&& 31) else 0)) := LK.fr sh I.2.1 f2
      refine ok_pairWorth (u := u) sh shU (by omega) (f2.sd hS') V (by rw [f02.i 8 1]; exact c.1) (by rw [f02.i 1 5]; exact hm) L2 (su.fw shU f02) hu (by omega) (by omega) fun q3 fr3 L3 => ?_
      refine ok_setGain (by omega) hj (by omega) (fr3.sd (f2.sd hS')) fun q4 fr4 g4 => ?_
      have f34 : Fr [42, 43, 44, 49] [] (hI q1 48 i ((q1.1 48 i) ||| if b = true then (1 : Int32) <<< (nI j &&& 31) else 0)) q4 := Fr.tr (Fr.mono fr3) (Fr.mono fr4)
      have e49 : ∀ k, q3.1 49 k = q.1 49 k := fun k => by rw [fr3.i 49, f2.i 49]
      have e48 : ∀ k, q4.1 48 k = if k = i then ((q.1 48 i) ||| if b = true then (1 : Int32) <<< (nI j &&& 31) else 0) else q.1 48 k := fun k => by
        rw [f34.i 48 k, hI_if]
        by_cases e2 : k = i
        · rw [if_pos e2, if_pos e2, fr1.i 48 i]
        · rw [if_neg e2, if_neg e2, fr1.i 48 k]
      have e47 : ∀ k, q4.1 47 k = q1.1 47 k := fun k => by rw [f34.i 47 k, hI_c (by decide)]
      rw [nI_1]
      refine ih (j + 1) q4 (by omega) ⟨Fr.tr f02 (Fr.mono f34), L3.fr sh fr4, ?_, fun k hk => ?_, fun a ha k => ?_, fun a ha m hm' => ?_⟩ ⟨fun k => ⟨?_, ?_⟩, fun m hm' => ?_⟩
      · rw [f34.i 45 1, hI_c (by decide), fr1.i 45 1]; exact I.2.2.1
      · rw [f34.i 46 k, hI_c (by decide), fr1.i 46 k]; exact I.2.2.2.1 k hk
      · rw [e47, e48, if_neg (by omega), k47 a (by omega)]; exact I.2.2.2.2.1 a ha k
      · have pa : 2 ^ (a + 1) ≤ 2 ^ i := Nat.pow_le_pow_right (by decide) (by omega)
        rw [Nat.pow_succ] at pa
        rw [g4, if_neg (by omega), e49]
        exact I.2.2.2.2.2 a ha m hm'
      · rw [e47]; exact b47 k
      · rw [e48, if_pos rfl]
        exact or_bit (by omega) (fun k => (J.1 k).2) b hb' k
      · rw [g4]
        rw [Nat.pow_succ] at hm'
        by_cases h1 : m < 2 ^ j
        · rw [if_neg (by omega), e49, J.2 m h1, gpt]
          have : m.testBit j = false := Nat.testBit_lt_two_pow h1
          rw [this, if_neg (by decide), Int32.add_zero]
        · rw [if_pos (by omega), e49]
          have e2 : 2 ^ i + m - 2 ^ j = 2 ^ i + (m - 2 ^ j) := by omega
          have e3 : m = 2 ^ j + (m - 2 ^ j) := by omega
          rw [e2, J.2 (m - 2 ^ j) (by omega), gpt]
          have t1 : m.testBit j = true := by
            rw [e3, Nat.testBit_two_pow_add_eq, Nat.testBit_lt_two_pow (by omega)]; rfl
          rw [if_pos t1]
          have e5 : pwv σ w u (mbf x j) (mbf x i) = gnS σ w u (mbf x) i j := pwv_sym _ _
          have e6 : gpt (gnS σ w u (mbf x)) i (m - 2 ^ j) j = gpt (gnS σ w u (mbf x)) i m j := gpt_cg fun k hk => by
            have e4 : m.testBit k = (2 ^ j + (m - 2 ^ j)).testBit k := by rw [← e3]
            rw [e4]
            have := Nat.two_pow_add_eq_or_of_lt (b := m - 2 ^ j) (i := j) (by omega) 1
            rw [Nat.mul_one] at this
            rw [this, Nat.testBit_or, Nat.testBit_two_pow_of_ne (by omega), Bool.false_or]
          rw [e5, e6]
    have b165 : ∀ b, b = badS σ (mbf x) i j → E mX5_load d 0 0 165 [(0, .ref 45), (3, .ref 8), (4, .ref 34), (5, .ref U), (6, .int (nI i)), (7, .long xb), (9, .long xo), (11, .int (nI j))] [.int (if b = true then (1 : Int32) <<< (nI j &&& 31) else 0), .int (q.1 47 i), .int (nI i), .ref 47] q (Qv F) X := by
      intro b hb'
      have f1 : Fr [47] [] q (hI q 47 i ((q.1 47 i) ||| if b = true then (1 : Int32) <<< (nI j &&& 31) else 0)) := Fr.pI
      have gg := b198 (hI q 47 i ((q.1 47 i) ||| if b = true then (1 : Int32) <<< (nI j &&& 31) else 0)) f1 (fun k hk => hI_j hk) (fun k => by
        rw [hI_k]
        exact or_bit (by omega) (fun k => (J.1 k).1) b hb' k)
      refine sgX5_load_165 shU _ _ _ _ _ _ _ hd hS' ⟨vin (by omega), vin (by omega), vin (by omega), ?_⟩
      rw [nI_clamp (by omega), nI_clamp (by omega), e46j]
      refine ok_has (by omega) (f1.sd hS') (by omega) ?_
      rw [bo]
      refine ⟨fun z => ?_, fun z => ?_⟩
      · have := gg false (bI_0.mp z).symm
        rw [if_neg (by decide)] at this
        exact this
      · have := gg true (bI_n0.mp z).symm
        rw [if_pos rfl] at this
        exact this
    refine sgX5_load_127 shU _ _ _ _ hd hS' ⟨fun z => absurd z (nI_ge hj (by omega)), fun _ => ⟨vin (by omega), vin (by omega), ?_⟩⟩
    rw [nI_clamp (by omega), nI_clamp (by omega), e46j]
    refine ok_has (by omega) hS' (by omega) ?_
    rw [bb]
    refine ⟨fun z => ?_, fun z => ?_⟩
    · have := b165 false (bI_0.mp z).symm
      rw [if_neg (by decide)] at this
      exact this
    · have := b165 true (bI_n0.mp z).symm
      rw [if_pos rfl] at this
      exact this
end LOAD
