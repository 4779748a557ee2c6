/-! a text read, by the class -/
section TEXTC
variable {t : Nat → Int32} {n p b k T : Nat} {h q g : Hp} {d : Nat} {X : String → Hp → Prop} {F : Int32 → Hp → Prop} {G : Hp → Prop}
theorem dg_of {c : Int32} (h : isDg c = true) : ∃ v, v < 10 ∧ c = nI (48 + v) := by
  rw [isDg, Bool.and_eq_true, decide_eq_true_eq, decide_eq_true_eq] at h
  have h0 : (0 : Int32) ≤ c := by
    have h1 := h.1
    rw [fa_le] at *
    have a1 : (48 : Int32).toInt = 48 := rfl
    have a0 : (0 : Int32).toInt = 0 := rfl
    omega
  obtain ⟨m, hm, e⟩ := nI_nat h0
  rw [e, lit_nI 48, lit_nI 57] at h
  have h1 := (nI_leI (by omega) hm).mp h.1
  have h2 := (nI_leI hm (by omega)).mp h.2
  exact ⟨m - 48, by omega, by rw [e, show 48 + (m - 48) = m by omega]⟩
theorem dgV_n : ∀ m, m ≤ 5 → (∀ i, i < m → isDg (t (b + i)) = true) → ∃ v, v < 10 ^ m ∧ dgV t b m = nI v
  | 0, _, _ => ⟨0, by decide, rfl⟩
  | m + 1, hm, h => by
    obtain ⟨v, hv, ev⟩ := dgV_n m (by omega) fun i hi => h i (by omega)
    obtain ⟨x, hx, ex⟩ := dg_of (h m (Nat.lt_succ_self _))
    have p5 : 10 ^ m ≤ 10 ^ 4 := Nat.pow_le_pow_right (by decide) (by omega)
    have p6 : 10 ^ (m + 1) = 10 ^ m * 10 := Nat.pow_succ ..
    refine ⟨v * 10 + x, by omega, ?_⟩
    rw [dgV, if_pos (by omega), ev, ex, lit_nI 10, pk_mul, nI_add, lit_nI 48, pk_sub (by omega)]
    congr 1; omega
theorem TkP_tk (S : ScT t n T) (hn : n ≤ 300) : TkP (Kc t n T) (Vr t n) (PT t n) := by
  have pre : ∀ k, OKk (Kc t n T) (k + 1) → Kc t n T k = Kr t n k ∧ Kr t n k ≠ 16 ∧ bg t n (PT t n k) < n := fun k o => by
    have e := (Kc_eq S (k := k) fun j hj => o j (by omega)).1
    have := (o k (Nat.lt_succ_self _)).1
    rw [e] at this
    exact ⟨e, this, Nat.not_le.mp fun z => this (tkK_16.mpr z)⟩
  refine ⟨fun k o => tkE_gt (pre k o).2.2, fun k o h45 => ?_, fun k _ => Nat.le_trans (PT_le k) hn, fun k e => ?_⟩
  · obtain ⟨e, n16, lt⟩ := pre k o
    rw [e] at h45
    have pb : PT t n k ≤ bg t n (PT t n k) := rnE_ge
    have nle : ¬ n ≤ bg t n (PT t n k) := by omega
    by_cases w1 : isLt (t (bg t n (PT t n k))) = true
    · have eE : PT t n (k + 1) = rnE isLt t n (bg t n (PT t n k)) := by
        show tkE t n (PT t n k) = _
        unfold tkE; rw [if_neg nle, if_pos w1]
      have eK : Kr t n k = wdF t (bg t n (PT t n k)) (rnE isLt t n (bg t n (PT t n k))) 14 := by
        show tkK t n (PT t n k) = _
        unfold tkK; rw [if_neg nle, if_pos w1]
      have two : ∀ (w : Nat) (bs : List Int32), (∃ i, (i, w, bs) ∈ wt3) → 2 ≤ bs.length → Kr t n k = nI w → PT t n k + 2 ≤ PT t n (k + 1) := fun w bs ⟨i, m⟩ l2 ek => by
        obtain ⟨_, w14, L7, hW, hB⟩ := wt3_ok _ m
        rw [eK, wdF_is w14 14 (Nat.le_refl _), wd_eq rnE_ge (rnE_in _ _ rfl) L7 hW hB, Bool.and_eq_true, decide_eq_true_eq] at ek
        have := ek.2.1
        have l2 : 2 ≤ bs.length := l2
        have this : rnE isLt t n (bg t n (PT t n k)) - bg t n (PT t n k) = bs.length := this
        omega
      obtain h45 | h45 := h45
      · exact two 4 txb_47 ⟨47, by decide⟩ (by decide) h45
      · exact two 5 txb_46 ⟨46, by decide⟩ (by decide) h45
    · have : Kr t n k ≠ 4 ∧ Kr t n k ≠ 5 := by
        show tkK t n (PT t n k) ≠ 4 ∧ tkK t n (PT t n k) ≠ 5
        unfold tkK
        rw [if_neg nle, if_neg w1]
        by_cases h3 : isDg (t (bg t n (PT t n k))) = true
        · rw [if_pos h3]; split <;> decide
        rw [if_neg h3]
        by_cases h4 : isKn (t (bg t n (PT t n k))) = true
        · rw [if_pos h4]
          exact ⟨fun z => by rw [z] at h4; exact absurd h4 (by decide), fun z => by rw [z] at h4; exact absurd h4 (by decide)⟩
        · rw [if_neg h4]; decide
      obtain z | z := h45
      · exact absurd z this.1
      · exact absurd z this.2
  · have e2 : Kr t n k = 15 := by
      rw [Kc] at e
      by_cases kT : k = T
      · rw [if_pos kT] at e; exact absurd e (by decide)
      · rw [if_neg kT] at e; exact e
    have nle : ¬ n ≤ bg t n (PT t n k) := fun z => by
      have := tkK_16.mpr z
      rw [show Kr t n k = 16 from this] at e2; exact absurd e2 (by decide)
    have e3 : tkK t n (PT t n k) = 15 := e2
    unfold tkK at e3
    rw [if_neg nle] at e3
    by_cases w1 : isLt (t (bg t n (PT t n k))) = true
    · rw [if_pos w1] at e3
      obtain ⟨j, hj, ej⟩ := wdF_14 (t := t) (b := bg t n (PT t n k)) (e := rnE isLt t n (bg t n (PT t n k))) 14 (Nat.le_refl _)
      rw [ej, lit_nI 15] at e3
      have := nI_inj (by omega) (by omega) e3
      omega
    rw [if_neg w1] at e3
    by_cases h3 : isDg (t (bg t n (PT t n k))) = true
    · rw [if_pos h3] at e3
      have l5 : rnE isDg t n (bg t n (PT t n k)) - bg t n (PT t n k) ≤ 5 := Classical.byContradiction fun z => by
        rw [if_neg z] at e3; exact absurd e3 (by decide)
      obtain ⟨v, hv, ev⟩ := dgV_n (t := t) (b := bg t n (PT t n k)) _ l5 fun i hi => rnE_in (f := isDg) (n := n) _ (bg t n (PT t n k)) rfl _ (Nat.le_add_right _ _) (by omega)
      have p5 : 10 ^ (rnE isDg t n (bg t n (PT t n k)) - bg t n (PT t n k)) ≤ 10 ^ 5 := Nat.pow_le_pow_right (by decide) l5
      exact ⟨v, by omega, ev⟩
    rw [if_neg h3] at e3
    by_cases h4 : isKn (t (bg t n (PT t n k))) = true
    · rw [if_pos h4] at e3
      exact absurd e3 (ty_kn h4).2
    · rw [if_neg h4] at e3; exact absurd e3 (by decide)
theorem ScT_uq {T1 T2 : Nat} (a : ScT t n T1) (c : ScT t n T2) : T1 = T2 := by
  have lt : ∀ T1 T2, ScT t n T1 → ScT t n T2 → ¬ T1 < T2 := fun T1 T2 a c l => by
    obtain z | ⟨z1, z2⟩ := a.2.2.2
    · exact c.2.1 T1 l z
    · exact c.2.2.1 (T1 - 1) (by omega) z2
  have := lt T1 T2 a c
  have := lt T2 T1 c a
  omega
/-- what reading a text leaves in the class -/
def FT (h q : Hp) : Prop := Fr [75, 76, 77, 78, 79, 82, 83, 84] [(73, 1), (73, 2), (73, 6), (73, 7), (73, 8), (74, 6), (74, 0)] h q
theorem ok_readC (hS : Std h.2.2) (ht : TxC t h) (hn : n ≤ 300) (hq : ∀ q T, FT h q → ScT t n T → ((rdR (Kc t n T) (Vr t n) 302 0 []).1 = 0 → LsC (Kc t n T) (Vr t n) (Bc t n T) T q (rdR (Kc t n T) (Vr t n) 302 0 []).2.1 (rdR (Kc t n T) (Vr t n) 302 0 []).2.2 ∧ LsOK (Kc t n T) (PT t n) (rdR (Kc t n T) (Vr t n) 302 0 []).2.1 (rdR (Kc t n T) (Vr t n) 302 0 []).2.2 ∧ OKk (Kc t n T) (rdR (Kc t n T) (Vr t n) 302 0 []).2.1) → ((rdR (Kc t n T) (Vr t n) 302 0 []).1 ≠ 0 → FRd (Bc t n T) q (rdR (Kc t n T) (Vr t n) 302 0 []).1 (rdR (Kc t n T) (Vr t n) 302 0 []).2.1) → G q) : OKv 27 mX6_read [.ref 73, .ref 89, .int (nI n)] h G X := by
  refine okv_of 26 (by decide +kernel) (Nat.le_of_ble_eq_true rfl) (sgX6_read_0 _ (by decide) hS (ok_scan (t := t) (by decide) hS ht hn fun q1 T f1 S I e16 en => ?_))
  have hS1 : Std (hI (hI q1 73 1 0) 73 2 (-1)).2.2 := f1.sd hS
  refine enX7_clear (by decide) hS1 ?_
  have T3 : T ≤ 300 := Nat.le_trans S.1 hn
  have R : ∀ j, j ≤ T → q1.1 82 j = Kc t n T j ∧ q1.1 84 j = nI (Bc t n T j) ∧ (Kc t n T j = 15 → q1.1 83 j = Vr t n j) := fun j hj => by
    by_cases e : j = T
    · rw [Kc, Bc, if_pos e, if_pos e, e]
      exact ⟨e16, en, fun z => absurd z (by decide)⟩
    · rw [Kc, Bc, if_neg e, if_neg e]
      exact I.2 j (by omega)
  have f2 : FT h (hI (hI (hI (hI q1 73 1 0) 73 2 (-1)) 74 0 0) 74 6 0) := Fr.tr f1.mono (Fr.tr (Fr.tr (Fr.tr Fr.pI Fr.pI) Fr.pI) Fr.pI)
  have f3 : FT h (hI (hI (hI (hI (hI (hI q1 73 1 0) 73 2 (-1)) 74 0 0) 74 6 0) 73 7 0) 73 8 (q1.1 82 0)) := Fr.tr f2 (Fr.tr Fr.pI Fr.pI)
  have C : LsC (Kc t n T) (Vr t n) (Bc t n T) T (hI (hI (hI (hI (hI (hI q1 73 1 0) 73 2 (-1)) 74 0 0) 74 6 0) 73 7 0) 73 8 (q1.1 82 0)) 0 [] := by
    refine ⟨⟨⟨I.1, T3, if_pos rfl, fun j hj => ⟨(R j hj).1, (R j hj).2.1, (R j hj).2.2, rfl⟩⟩, rfl, rfl, (R 0 (Nat.zero_le _)).1, rfl⟩, rfl, fun i hi => absurd hi (Nat.not_lt_zero _), fun j l e => ?_⟩
    exact absurd e (by simp)
  have L0 : LsOK (Kc t n T) (PT t n) 0 [] := ⟨Nat.le_refl _, Nat.zero_le _, Nat.zero_le _, fun j l e => absurd e (by simp)⟩
  exact lp_read (TkP_tk S hn) 302 0 [] 0 _ (by omega) (f3.sd hS) (Nat.le_refl _) L0 (fun j hj => absurd hj (Nat.not_lt_zero _)) C fun q p => hq q T (Fr.tr f3 p.1.mono) S (fun z => p.2.1 z) p.2.2
end TEXTC
