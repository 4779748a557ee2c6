/-! a set loaded -/
section LOADED
variable {σ h : Hp} {d S U : Nat} {X : String → Hp → Prop} {w u : Nat → Nat → Int32} {x : Int64}
theorem lp_load63 {F : Hp → Prop} {l : Nat} (sh : ShOK S) (shU : ShOK U) (hd : 5 ≤ d) (hS : Std h.2.2) (V : VS σ) (c : CD σ h) (hm : h.1 1 5 = nI (nM σ)) (su : Shw u U h) (hu : ∀ k j, S03 (u k j)) (G : GS σ x l 9)
    (hq : ∀ q, LD σ w u S x h q (cntb x) → F q) :
    ∀ (n i : Nat) (q : Hp), i + n = cntb x → LD σ w u S x h q i → E mX5_load d 0 0 63 [(0, .ref 45), (3, .ref 8), (4, .ref 34), (5, .ref U), (6, .int (nI i))] [] q (Qv F) X := by
  have c9 := G.2.2
  have hD := V.d.2
  intro n
  induction n with
  | zero =>
    intro i q e I
    have : i = cntb x := by omega
    subst this
    exact sgX5_load_63 shU _ hd (I.1.sd hS) ⟨fun _ => hq q I, fun z => absurd (by rw [I.2.2.1]; exact Int32.le_refl _) z⟩
  | succ n ih =>
    intro i q e I
    have hi : i < cntb x := by omega
    have hS' := I.1.sd hS
    have mi := mbf_in hi
    have ali := (stn_al (G.1 _ mi.1)).1
    have lti := (stn_al (G.1 _ mi.1)).2
    have p2 : 2 ^ i ≤ 2 ^ 8 := Nat.pow_le_pow_right (by decide) (by omega)
    have e46 := I.2.2.2.1 i hi
    refine sgX5_load_63 shU _ hd hS' ⟨fun z => absurd z (by rw [I.2.2.1]; exact nI_ge hi (by omega)), fun _ => ?_⟩
    rw [nI_shl (by omega), nI_clamp (by omega), nI_clamp (by omega), e46]
    have f0 : Fr [47, 48, 49] [] q (hI (hI (hI q 47 i 0) 48 i 0) 49 (2 ^ i) 0) := Fr.tr Fr.pI (Fr.tr Fr.pI Fr.pI)
    have f1 : Fr [42, 43, 44, 46, 47, 48, 49] [(45, 1)] h (hI (hI (hI q 47 i 0) 48 i 0) 49 (2 ^ i) 0) := Fr.tr I.1 (Fr.mono f0)
    have c1 : CD σ (hI (hI (hI q 47 i 0) 48 i 0) 49 (2 ^ i) 0) := c.fr f1
    refine ⟨vin (by omega), vin (by omega), vin (by omega), vin (by omega), ok_barredFrom (by omega) (f0.sd hS') V c1 ali fun r1 h1 => ⟨vin (by omega), ?_⟩⟩
    rw [f0.i 46 i, e46]
    refine ok_oneWith (by omega) (f0.sd hS') V c1 lti fun r2 h2 => ?_
    refine lp_load127 (x := x) sh shU hd hS V c hm su hu G hi h1 h2 (fun q2 I2 => ih (i + 1) q2 (by omega) I2) i 0 _ (by omega) ⟨f1, LK.fr sh I.2.1 f0, by rw [f0.i 45 1]; exact I.2.2.1, fun k hk => by rw [f0.i 46 k]; exact I.2.2.2.1 k hk, fun a ha k => ?_, fun a ha m hm' => ?_⟩ ⟨fun k => ?_, fun m hm' => ?_⟩
    · rw [hI_c (by decide), hI_c (by decide), hI_j (by omega), hI_c (by decide), hI_j (by omega), hI_c (by decide)]
      exact I.2.2.2.2.1 a ha k
    · have pa : 2 ^ (a + 1) ≤ 2 ^ i := Nat.pow_le_pow_right (by decide) (by omega)
      rw [Nat.pow_succ] at pa
      rw [hI_j (by omega), hI_c (by decide), hI_c (by decide)]
      exact I.2.2.2.2.2 a ha m hm'
    · rw [hI_c (by decide), hI_c (by decide), hI_k, hI_c (by decide), hI_k, b_0, decide_eq_false (Nat.not_lt_zero _)]
      exact ⟨rfl, rfl⟩
    · have : m = 0 := by omega
      subst this
      rw [Nat.add_zero, hI_k]; rfl
theorem lp_load8 {F : Hp → Prop} {l : Nat} (sh : ShOK S) (shU : ShOK U) (hd : 5 ≤ d) (hS : Std h.2.2) (V : VS σ) (L : LK σ w S h) (G : GS σ x l 9)
    (nx : ∀ q, LD σ w u S x h q 0 → E mX5_load d 0 0 63 [(0, .ref 45), (3, .ref 8), (4, .ref 34), (5, .ref U), (6, .int 0)] [] q (Qv F) X) :
    ∀ (n i : Nat) (q : Hp), i + n = 60 → Fr [46] [(45, 1)] h q → q.1 45 1 = nI (fb_ct (hb x) i) → (∀ k, k < fb_ct (hb x) i → q.1 46 k = nI (mbf x k)) →
    E mX5_load d 0 0 8 [(0, .ref 45), (1, .long x), (3, .ref 8), (4, .ref 34), (5, .ref U), (6, .int (nI i))] [] q (Qv F) X := by
  have c9 := G.2.2
  have hD := V.d.2
  have h60 : ∀ k, 60 ≤ k → hb x k = false := fun k hk => by
    cases e : hb x k
    · rfl
    · have := (stn_al (G.1 k e)).2; omega
  have ec : cntb x = fb_ct (hb x) 60 := ct64 (by decide) h60
  have fin : ∀ q, Fr [46] [(45, 1)] h q → q.1 45 1 = nI (cntb x) → (∀ k, k < cntb x → q.1 46 k = nI (mbf x k)) → E mX5_load d 0 0 60 [(0, .ref 45), (3, .ref 8), (4, .ref 34), (5, .ref U)] [] q (Qv F) X := fun q fr e1 I =>
    sgX5_load_60 shU hd (fr.sd hS) (nx q ⟨Fr.mono fr, LK.fr sh L fr, e1, I, fun a ha => absurd ha (Nat.not_lt_zero _), fun a ha => absurd ha (Nat.not_lt_zero _)⟩)
  intro n
  induction n with
  | zero =>
    intro i q e fr e1 I
    have : i = 60 := by omega
    subst this
    rw [← ec] at e1 I
    exact sgX5_load_8 shU _ _ hd (fr.sd hS) ⟨fun _ => fin q fr e1 I, fun z => absurd (Int32.le_refl _) z⟩
  | succ n ih =>
    intro i q e fr e1 I
    have hi : i < 60 := by omega
    have hS' := fr.sd hS
    have mono := fb_ct_mono (hb x) (m := i) (n := 60) (by omega)
    refine sgX5_load_8 shU _ _ hd hS' ⟨fun z => absurd z (nI_ge (a := i) (b := 60) (by omega) (by omega)), fun _ => ⟨fun z => ?_, fun z => ok_has (by omega) hS' (by omega) ⟨fun z2 => ?_, fun z2 => ?_⟩⟩⟩
    · rw [e1] at z
      have : 9 ≤ fb_ct (hb x) i := (nI_leI (a := 9) (by omega) (by omega)).mp z
      have es : fb_ct (hb x) i = cntb x := by omega
      rw [es] at e1 I
      exact fin q fr e1 I
    · have z1 := bI_0.mp z2
      have es : fb_ct (hb x) (i + 1) = fb_ct (hb x) i := by rw [fb_ct_succ, z1, if_neg (by decide), Nat.add_zero]
      refine sgX5_load_54 shU _ _ hd hS' ?_
      rw [nI_1]
      exact ih (i + 1) q (by omega) fr (by rw [es]; exact e1) fun k hk => I k (by rw [← es]; exact hk)
    · have z1 := bI_n0.mp z2
      have es : fb_ct (hb x) (i + 1) = fb_ct (hb x) i + 1 := by rw [fb_ct_succ, z1, if_pos rfl]
      have mono2 := fb_ct_mono (hb x) (m := i + 1) (n := 60) (by omega)
      rw [e1, nI_clamp (by omega), nI_1, ← es]
      refine ⟨vin (by omega), sgX5_load_54 shU _ _ hd (Fr.sd (Fr.tr (Fr.pI (L := [46]) (fs := [(45, 1)])) Fr.pI) hS') ?_⟩
      rw [nI_1]
      refine ih (i + 1) _ (by omega) (Fr.tr fr (Fr.tr Fr.pI Fr.pI)) hI_k fun k hk => ?_
      rw [hI_c (by decide), hI_if]
      by_cases e2 : k = fb_ct (hb x) i
      · rw [if_pos e2, e2, mbf_at z1]
      · rw [if_neg e2]; exact I k (by omega)
theorem ok_load {F : Hp → Prop} {l : Nat} (sh : ShOK S) (shU : ShOK U) (hd : 6 ≤ d) (hS : Std h.2.2) (V : VS σ) (c : CD σ h) (hm : h.1 1 5 = nI (nM σ)) (L : LK σ w S h) (su : Shw u U h) (hu : ∀ k j, S03 (u k j)) (G : GS σ x l 9)
    (hq : ∀ q, Fr [42, 43, 44, 46, 47, 48, 49] [(45, 1)] h q → LK σ w S q → (∀ k, k < cntb x → q.1 46 k = nI (mbf x k)) → PLd (cntb x) (badS σ (mbf x)) (oneS σ (mbf x)) (gnS σ w u (mbf x)) q → F q) : OKv d mX5_load [.ref 45, .long x, .ref 8, .ref 34, .ref U] h F X := by
  have f0 : Fr [46] [(45, 1)] h (hI h 45 1 0) := Fr.pI
  exact enX5_load shU _ hd hS (lp_load8 (u := u) (w := w) sh shU (Nat.le_refl _) hS V L G (fun q I => lp_load63 sh shU (Nat.le_refl _) hS V c hm su hu G (fun q2 I2 => hq q2 I2.1 I2.2.1 I2.2.2.2.1 ⟨I2.2.2.1, I2.2.2.2.2.1, I2.2.2.2.2.2⟩) (cntb x) 0 q (by omega) I) 60 0 _ (by omega) f0 hI_k fun k hk => absurd hk (Nat.not_lt_zero _))
end LOADED
