/-! joins by the reference -/
section JOINM
variable {σ h : Hp} {d : Nat} {X : String → Hp → Prop} {s : JG} {w : Nat → Nat → Int32} {late : Bool}
def vJ (σ : Hp) (s : JG) (a b : Nat) : Int32 := if bdJ σ s a b then -2147483648 else s.2 a b
def gJ (σ : Hp) (s : JG) (k : Nat) : Int32 := if stn σ k then nI (s.1 k) else -1
def GM (σ : Hp) (s : JG) (h : Hp) : Prop := (∀ k, k < nD σ → h.1 125 k = gJ σ s k) ∧ ∀ a b, hdJ σ s a = true → hdJ σ s b = true → a ≠ b → h.1 126 (60 * a + b) = vJ σ s a b
theorem gJ_hd {k : Nat} (V : VS σ) (J : JJ σ s) (hk : k < nD σ) : gJ σ s k = nI k ↔ hdJ σ s k = true := by
  have hD := V.d.2
  rw [gJ]
  cases e : stn σ k
  · rw [if_neg (by decide), hdJ, e]
    exact ⟨fun z => absurd z.symm (nI_neg (by omega)), fun z => by cases z⟩
  · have := (J.1 k e).2.2
    rw [if_pos rfl, nI_eq (by omega) (by omega), hdJ, e, Bool.true_and, decide_eq_true_eq]
theorem not_min {x : Int32} {b : Nat} (h : Bnd x b) (hb' : b < 2 ^ 31 - 1) : ¬ x = -2147483648 := fun z => by
  have := h.1
  rw [z] at this
  have e : (-2147483648 : Int32).toInt = -2147483648 := by decide
  rw [e] at this
  omega
theorem jj_nm (V : VS σ) (J : JJ σ s) {a b : Nat} (ha : hdJ σ s a = true) (hb' : hdJ σ s b = true) (hab : a ≠ b) : ¬ s.2 a b = -2147483648 := by
  have hD := V.d.2
  refine not_min (J.2 a b ha hb' hab).2 ?_
  have : szJ σ s a * szJ σ s b ≤ 60 * 60 := Nat.mul_le_mul (Nat.le_trans (sz_le _ _) hD) (Nat.le_trans (sz_le _ _) hD)
  omega
theorem lp_unite2 {F : Hp → Prop} {o t : Nat} (hS : Std h.2.2) (V : VS σ) (J : JJ σ s) (ho : hdJ σ s o = true) (ht : hdJ σ s t = true) (hot : o < t) (h6 : h.1 91 6 = nI (nD σ)) (G : GM σ s h)
    (hq : ∀ q, Fr [125, 126] [] h q → GM σ (uniJ s o t) q → F q) :
    ∀ (n i : Nat) (q : Hp), i + n = nD σ → Fr [125, 126] [] h q → (∀ c, c < 60 → q.1 126 (60 * t + c) = h.1 126 (60 * t + c)) → (∀ k, k < nD σ → q.1 125 k = if k < i then gJ σ (uniJ s o t) k else gJ σ s k) →
    (∀ a b, hdJ σ (uniJ s o t) a = true → hdJ σ (uniJ s o t) b = true → a ≠ b → q.1 126 (60 * a + b) = if (a = o ∧ b < i) ∨ (b = o ∧ a < i) then vJ σ (uniJ s o t) a b else vJ σ s a b) →
    E mX12_unite d 0 0 2 [(0, .ref 91), (1, .int (nI o)), (2, .int (nI t)), (3, .int (nI i))] [] q (Qv F) X := by
  have hD := V.d.2
  have hdn : ∀ a, hdJ σ (uniJ s o t) a = true → hdJ σ s a = true ∧ a ≠ t ∧ a < nD σ := fun a z => by
    rw [uni_hd J ho ht hot, Bool.and_eq_true, Bool.not_eq_true', decide_eq_false_iff_not] at z
    exact ⟨z.1, z.2, (stn_al (hd_1 z.1).1).2⟩
  have oh : hdJ σ (uniJ s o t) o = true := by rw [uni_hd J ho ht hot, ho, decide_eq_false (by omega)]; rfl
  have on' := (stn_al (hd_1 ho).1).2
  have tn := (stn_al (hd_1 ht).1).2
  intro n
  induction n with
  | zero =>
    intro i q e fr I G5 R
    have : i = nD σ := by omega
    subst this
    refine sgX12_unite_2 _ _ _ (Nat.zero_le _) (fr.sd hS) ⟨fun _ => hq q fr ⟨fun k hk => by rw [G5 k hk, if_pos hk], fun a b ha hb' hab => ?_⟩, fun z => absurd (by rw [fr.i 91 6, h6]; exact Int32.le_refl _) z⟩
    rw [R a b ha hb' hab]
    by_cases q1 : (a = o ∧ b < nD σ) ∨ (b = o ∧ a < nD σ)
    · rw [if_pos q1]
    · rw [if_neg q1]
      have h1 := hdn a ha
      have h2 := hdn b hb'
      have na : ¬ a = o := by omega
      have nb : ¬ b = o := by omega
      have e1 : bdJ σ (uniJ s o t) a b = bdJ σ s a b := by rw [uni_bd ho ht hot h1.2.1 h2.2.1 hab, if_neg na, if_neg nb]
      have e2 : (uniJ s o t).2 a b = s.2 a b := by
        show (if a = o then s.2 o b + s.2 t b else if b = o then s.2 o a + s.2 t a else s.2 a b) = _
        rw [if_neg na, if_neg nb]
      rw [vJ, vJ, e1, e2]
  | succ n ih =>
    intro i q e fr I G5 R
    have hi : i < nD σ := by omega
    have hS' := fr.sd hS
    have uk : ∀ k, gJ σ (uniJ s o t) k = if stn σ k then nI (if s.1 k = t then o else s.1 k) else -1 := fun _ => rfl
    have s27 : ∀ (q2 : Hp), Fr [125] [] q q2 → (∀ k, k < nD σ → q2.1 125 k = if k < i + 1 then gJ σ (uniJ s o t) k else gJ σ s k) → E mX12_unite d 0 0 27 [(0, .ref 91), (1, .int (nI o)), (2, .int (nI t)), (3, .int (nI i))] [] q2 (Qv F) X := by
      intro q2 f2 G2
      have hS2 := f2.sd hS'
      have fr2 : Fr [125, 126] [] h q2 := Fr.tr fr (Fr.mono f2)
      have I2 : ∀ c, c < 60 → q2.1 126 (60 * t + c) = h.1 126 (60 * t + c) := fun c hc => by rw [f2.i 126]; exact I c hc
      have skip : (i = o ∨ i = t) → E mX12_unite d 0 0 121 [(0, .ref 91), (1, .int (nI o)), (2, .int (nI t)), (3, .int (nI i))] [] q2 (Qv F) X := fun hz => by
        refine sgX12_unite_121 _ _ _ (Nat.zero_le _) hS2 ?_
        rw [nI_1]
        refine ih (i + 1) q2 (by omega) fr2 I2 G2 fun a b ha hb' hab => ?_
        rw [f2.i 126, R a b ha hb' hab]
        have h1 := hdn a ha
        have h2 := hdn b hb'
        by_cases q1 : (a = o ∧ b < i) ∨ (b = o ∧ a < i)
        · rw [if_pos q1, if_pos (by omega)]
        · rw [if_neg q1, if_neg (by omega)]
      have put : i ≠ o → i ≠ t → ∀ v, (hdJ σ (uniJ s o t) i = true → v = vJ σ (uniJ s o t) o i) → E mX12_unite d 0 0 93 [(0, .ref 91), (1, .int (nI o)), (2, .int (nI t)), (3, .int (nI i))] [.int v] q2 (Qv F) X := fun n1 n2 v hv => by
        have e1 : (60 : Int32) * nI o + nI i = nI (60 * o + i) := by rw [lit_nI 60, pk_mul, nI_add]
        have e3 : (60 : Int32) * nI i + nI o = nI (60 * i + o) := by rw [lit_nI 60, pk_mul, nI_add]
        refine sgX12_unite_93 _ _ _ _ (Nat.zero_le _) hS2 ?_
        rw [e1, e3, nI_clamp (by omega), nI_clamp (by omega)]
        refine ⟨vin (by omega), vin (by omega), sgX12_unite_121 _ _ _ (Nat.zero_le _) (Fr.sd (Fr.tr (Fr.pI (L := [126]) (fs := [])) Fr.pI) hS2) ?_⟩
        rw [nI_1]
        refine ih (i + 1) _ (by omega) (Fr.tr fr2 (Fr.tr Fr.pI Fr.pI)) (fun c hc => by rw [hI_if, if_neg (by omega), hI_if, if_neg (by omega)]; exact I2 c hc) (fun k hk => by rw [hI_c (by decide), hI_c (by decide)]; exact G2 k hk) fun a b ha hb' hab => ?_
        have h1 := hdn a ha
        have h2 := hdn b hb'
        rw [hI_if, hI_if, f2.i 126, R a b ha hb' hab]
        by_cases q1 : a = i ∧ b = o
        · rw [if_pos (by omega), if_pos (by omega), hv (by rw [← q1.1]; exact ha), q1.1, q1.2, vJ, vJ, bd_sym V]
          congr 1
          show (if o = o then s.2 o i + s.2 t i else _) = (if i = o then _ else if o = o then s.2 o i + s.2 t i else _)
          rw [if_pos rfl, if_neg n1, if_pos rfl]
        · rw [if_neg (by omega)]
          by_cases q2 : a = o ∧ b = i
          · rw [if_pos (by omega), if_pos (by omega), hv (by rw [← q2.2]; exact hb'), q2.1, q2.2]
          · rw [if_neg (by omega)]
            by_cases q3 : (a = o ∧ b < i) ∨ (b = o ∧ a < i)
            · rw [if_pos q3, if_pos (by omega)]
            · rw [if_neg q3, if_neg (by omega)]
      refine sgX12_unite_27 _ _ _ (Nat.zero_le _) hS2 ?_
      rw [nI_eq (by omega) (by omega), nI_eq (by omega) (by omega)]
      refine ⟨fun z => skip (Or.inl z), fun n1 => ⟨fun z => skip (Or.inr z), fun n2 => ?_⟩⟩
      have e1 : (60 : Int32) * nI o + nI i = nI (60 * o + i) := by rw [lit_nI 60, pk_mul, nI_add]
      have e2 : (60 : Int32) * nI t + nI i = nI (60 * t + i) := by rw [lit_nI 60, pk_mul, nI_add]
      have un : vJ σ (uniJ s o t) o i = if (bdJ σ s o i || bdJ σ s t i) = true then -2147483648 else s.2 o i + s.2 t i := by
        rw [vJ, uni_bd ho ht hot (by omega) n2 (fun y => n1 y.symm), if_pos rfl]
        show (if _ then _ else (if o = o then s.2 o i + s.2 t i else _)) = _
        rw [if_pos (rfl : o = o)]
      rw [e1, e2, nI_clamp (by omega), nI_clamp (by omega)]
      have x1 : hdJ σ (uniJ s o t) i = true → q2.1 126 (60 * o + i) = vJ σ s o i := fun z => by rw [f2.i 126, R o i oh z (fun y => n1 y.symm), if_neg (by omega)]
      have x2 : hdJ σ (uniJ s o t) i = true → q2.1 126 (60 * t + i) = vJ σ s t i := fun z => by rw [I2 i (by omega)]; exact G.2 t i ht (hdn i z).1 (fun y => n2 y.symm)
      refine ⟨vin (by omega), vin (by omega), fun z => sgX12_unite_82 _ _ _ (Nat.zero_le _) hS2 (put n1 n2 _ fun hh => ?_), fun z => ⟨fun z2 => sgX12_unite_82 _ _ _ (Nat.zero_le _) hS2 (put n1 n2 _ fun hh => ?_), fun z2 => put n1 n2 _ fun hh => ?_⟩⟩
      · rw [x1 hh, vJ] at z
        have hb2 : bdJ σ s o i = true := by
          cases eb : bdJ σ s o i
          · rw [eb, if_neg (by decide)] at z
            exact absurd z (jj_nm V J ho (hdn i hh).1 (fun y => n1 y.symm))
          · rfl
        rw [un, hb2]; rfl
      · rw [x2 hh, vJ] at z2
        have hb2 : bdJ σ s t i = true := by
          cases eb : bdJ σ s t i
          · rw [eb, if_neg (by decide)] at z2
            exact absurd z2 (jj_nm V J ht (hdn i hh).1 (fun y => n2 y.symm))
          · rfl
        rw [un, hb2, Bool.or_true]; rfl
      · rw [x1 hh, vJ] at z
        rw [x2 hh, vJ] at z2
        have b1 : bdJ σ s o i = false := Bool.eq_false_iff.mpr fun y => z (by rw [y]; rfl)
        have b2 : bdJ σ s t i = false := Bool.eq_false_iff.mpr fun y => z2 (by rw [y]; rfl)
        rw [x1 hh, x2 hh, un, vJ, vJ, b1, b2]
        rfl
    refine sgX12_unite_2 _ _ _ (Nat.zero_le _) hS' ⟨fun z => absurd z (by rw [fr.i 91 6, h6]; exact nI_ge hi (by omega)), fun _ => ?_⟩
    rw [nI_clamp (by omega), G5 i hi, if_neg (by omega)]
    refine ⟨vin (by omega), fun z => ⟨vin (by omega), s27 _ Fr.pI fun k hk => ?_⟩, fun z => s27 q Fr.rf fun k hk => ?_⟩
    · rw [hI_if]
      by_cases ek : k = i
      · subst ek
        rw [if_pos rfl, if_pos (by omega), uk]
        rw [gJ] at z
        cases es : stn σ k
        · rw [es, if_neg (by decide)] at z
          exact absurd z.symm (nI_neg (by omega))
        · rw [es, if_pos rfl] at z
          have := (J.1 k es).2.2
          rw [if_pos rfl, if_pos (nI_inj (by omega) (by omega) z)]
      · rw [if_neg ek, G5 k hk]
        by_cases y : k < i
        · rw [if_pos y, if_pos (by omega)]
        · rw [if_neg y, if_neg (by omega)]
    · rw [G5 k hk]
      by_cases ek : k = i
      · subst ek
        rw [if_neg (by omega), if_pos (by omega), uk, gJ]
        cases es : stn σ k
        · rfl
        · rw [gJ, es, if_pos rfl] at z
          rw [if_pos rfl, if_pos rfl, if_neg (fun y => z (by rw [y]))]
      · by_cases y : k < i
        · rw [if_pos y, if_pos (by omega)]
        · rw [if_neg y, if_neg (by omega)]
theorem ok_uniteM {F : Hp → Prop} {o t : Nat} (hd : 1 ≤ d) (hS : Std h.2.2) (V : VS σ) (J : JJ σ s) (ho : hdJ σ s o = true) (ht : hdJ σ s t = true) (hot : o < t) (h6 : h.1 91 6 = nI (nD σ)) (G : GM σ s h)
    (hq : ∀ q, Fr [125, 126] [] h q → GM σ (uniJ s o t) q → F q) : OKv d mX12_unite [.ref 91, .int (nI o), .int (nI t)] h F X :=
  enX12_unite _ _ hd hS (lp_unite2 hS V J ho ht hot h6 G hq (nD σ) 0 h (by omega) Fr.rf (fun _ _ => rfl) (fun k hk => by rw [if_neg (by omega)]; exact G.1 k hk) fun a b ha hb' hab => by
    have hdn : ∀ a, hdJ σ (uniJ s o t) a = true → hdJ σ s a = true := fun a z => by
      rw [uni_hd J ho ht hot, Bool.and_eq_true] at z
      exact z.1
    rw [if_neg (by omega)]
    exact G.2 a b (hdn a ha) (hdn b hb') hab)
end JOINM
