/-! sets of deeds, and their members -/
theorem hb_sshr {n : Nat} (hn : n < 64) (x : Int64) {i : Nat} (hi : i < 64) : hb (x >>> ((nI n).toInt64 &&& 63)) i = if n + i < 64 then hb x (n + i) else hb x 63 := by
  unfold hb
  rw [Int64.toBitVec_shiftRight]
  show (x.toBitVec.sshiftRight (((nI n).toInt64 &&& 63).toBitVec.smod 64).toNat).getLsbD i = _
  rw [sh_amt n hn, BitVec.getLsbD_sshiftRight, BitVec.msb_eq_getLsbD_last]
  simp [hi]
theorem hb_1 (k : Nat) : hb 1 k = decide (k = 0) := hb_only (j := 0) (by decide) k
theorem hb_bit {x : Int64} {k : Nat} (hk : k < 64) : x >>> ((nI k).toInt64 &&& 63) &&& (1 : Int64) = if hb x k then 1 else 0 := by
  refine hb_ext fun i hi => ?_
  rw [hb_and, hb_1]
  by_cases h0 : i = 0
  · subst h0
    rw [hb_sshr hk x hi, if_pos (by omega), decide_eq_true rfl, Bool.and_true, Nat.add_zero]
    cases hb x k <;> decide
  · rw [decide_eq_false h0, Bool.and_false]
    cases hb x k
    · rw [if_neg (by decide), hb_0]
    · rw [if_pos rfl, hb_1, decide_eq_false h0]
theorem hb_bit0 {x : Int64} {k : Nat} (hk : k < 64) : x >>> ((nI k).toInt64 &&& 63) &&& (1 : Int64) = 0 ↔ hb x k = false := by
  rw [hb_bit hk]
  cases hb x k <;> decide
theorem hb_neg {x : Int64} : x < 0 ↔ hb x 63 = true := by
  have h1 : x.toBitVec.msb = hb x 63 := BitVec.msb_eq_getLsbD_last _
  have h2 : x.toBitVec.msb = decide (x.toBitVec.toInt < 0) := BitVec.msb_eq_toInt
  rw [fa_lt64, ← h1, h2, decide_eq_true_eq]
  exact Iff.rfl
theorem hb_none {x : Int64} {n : Nat} (hn : n < 64) (hx : ¬ x < 0) : x >>> ((nI n).toInt64 &&& 63) = 0 ↔ ∀ k, n ≤ k → hb x k = false := by
  have h63 : hb x 63 = false := by
    cases e : hb x 63
    · rfl
    · exact absurd (hb_neg.mpr e) hx
  refine ⟨fun z k hk => ?_, fun z => hb_ext fun i hi => ?_⟩
  · by_cases h64 : k < 64
    · have := congrArg (hb · (k - n)) z
      have e : n + (k - n) = k := by omega
      rw [hb_0] at this
      have h2 := hb_sshr hn x (i := k - n) (by omega)
      rw [e, if_pos h64] at h2
      rw [← h2]; exact this
    · exact hb_big (by omega)
  · rw [hb_sshr hn x hi, hb_0]
    split
    · exact z _ (by omega)
    · exact h63
/-- the i-th deed of a set -/
def mbf (x : Int64) (i : Nat) : Nat := fa_first (fun k => hb x k && decide (fb_ct (hb x) k = i)) 64
theorem mbf_at {x : Int64} {k : Nat} (h : hb x k = true) : mbf x (fb_ct (hb x) k) = k := by
  have hk : k < 64 := by
    refine Classical.byContradiction fun q => ?_
    rw [hb_big (by omega)] at h; cases h
  have hp : (fun j => hb x j && decide (fb_ct (hb x) j = fb_ct (hb x) k)) k = true := by simp only [h, decide_true, Bool.and_self]
  have le : mbf x (fb_ct (hb x) k) ≤ k := by
    refine Classical.byContradiction fun q => ?_
    have := fa_first_no (fun j => hb x j && decide (fb_ct (hb x) j = fb_ct (hb x) k)) 64 k (by unfold mbf at q; omega)
    exact absurd (hp.symm.trans this) (by decide)
  have y := fa_first_yes (fun j => hb x j && decide (fb_ct (hb x) j = fb_ct (hb x) k)) 64 (by unfold mbf at le; omega)
  rw [Bool.and_eq_true, decide_eq_true_eq] at y
  exact fb_ct_kth_one y.1 h y.2
theorem mbf_in {x : Int64} {i : Nat} (h : i < cntb x) : hb x (mbf x i) = true ∧ fb_ct (hb x) (mbf x i) = i := by
  obtain ⟨k, _, h2, h3⟩ := fb_ct_kth h
  have := mbf_at h2
  rw [h3] at this
  rw [this]; exact ⟨h2, h3⟩
theorem mbf_lt {x : Int64} {i j : Nat} (h : j < cntb x) (hij : i < j) : mbf x i < mbf x j := by
  have h1 := mbf_in (Nat.lt_trans hij h)
  have h2 := mbf_in h
  refine Classical.byContradiction fun q => ?_
  have := fb_ct_mono (hb x) (m := mbf x j) (n := mbf x i) (by omega)
  omega
/-- a set of deeds that stand, neither too few nor too many -/
def GS (σ : Hp) (x : Int64) (l m : Nat) : Prop := (∀ k, hb x k = true → stn σ k = true) ∧ l ≤ cntb x ∧ cntb x ≤ m
theorem stn_al {σ : Hp} {k : Nat} (h : stn σ k = true) : al σ k = true ∧ k < nD σ := by
  simp only [stn, Bool.and_eq_true] at h
  exact ⟨h.1, al_lt h.1⟩
theorem cntb_to {σ : Hp} {x : Int64} (hD : nD σ ≤ 60) (h : ∀ k, nD σ ≤ k → hb x k = false) : cntb x = fb_ct (hb x) (nD σ) := ct64 (by omega) h
section GATHERS
variable {σ h : Hp} {d : Nat} {X : String → Hp → Prop}
theorem lp_gathers {F : Int32 → Hp → Prop} {x : Int64} {l m : Nat} (hd : 3 ≤ d) (hS : Std h.2.2) (V : VS σ) (mc : MC σ h) (hm9 : m ≤ 9) (hl : l < 2 ^ 31) (hx : ∀ k, nD σ ≤ k → hb x k = false)
    (hyes : GS σ x l m → ∀ q, Fr [120] [(91, 42)] h q → q.1 91 42 = nI (cntb x) → (∀ k, k < cntb x → q.1 120 k = nI (mbf x k)) → F 1 q) (hno : ¬ GS σ x l m → ∀ q, Fr [120] [(91, 42)] h q → F 0 q) :
    ∀ (n i : Nat) (q : Hp), i + n = nD σ → Fr [120] [(91, 42)] h q → q.1 91 42 = nI (fb_ct (hb x) i) → fb_ct (hb x) i ≤ m → (∀ k, k < fb_ct (hb x) i → q.1 120 k = nI (mbf x k)) → (∀ k, k < i → hb x k = true → stn σ k = true) →
    E mX12_gathers d 0 0 27 [(0, .ref 91), (1, .long x), (3, .int (nI l)), (4, .int (nI m)), (5, .int (nI i))] [] q (Qi F) X := by
  have hD := V.d.2
  have ec := cntb_to (σ := σ) hD hx
  intro n
  induction n with
  | zero =>
    intro i q e fr e42 hc I st
    have : i = nD σ := by omega
    subst this
    have mq := mc.fr fr
    refine sgX12_gathers_27 _ _ _ _ hd (fr.sd hS) ⟨fun _ => ?_, fun z => absurd (by rw [mq.i 91 6, V.d.1]; exact Int32.le_refl _) z⟩
    rw [← ec] at e42 hc I
    rw [e42, nI_ltI (by omega) hl]
    refine ⟨fun z => hno (fun g => ?_) q fr, fun z => hyes ⟨fun k hk => ?_, by omega, hc⟩ q fr e42 I⟩
    · have := g.2.1; omega
    · by_cases hkn : k < nD σ
      · exact st k hkn hk
      · rw [hx k (by omega)] at hk; cases hk
  | succ n ih =>
    intro i q e fr e42 hc I st
    have hi : i < nD σ := by omega
    have mq := mc.fr fr
    have hS' := fr.sd hS
    refine sgX12_gathers_27 _ _ _ _ hd hS' ⟨fun z => absurd z (by rw [mq.i 91 6, V.d.1]; exact nI_ge hi (by omega)), fun _ => ⟨fun z => ?_, fun z => ok_standsM hd hS' V mq hi ⟨fun z2 => hno (fun g => ?_) q fr, fun z2 => ?_⟩⟩⟩
    · have z1 := (hb_bit0 (by omega)).mp z
      have es : fb_ct (hb x) (i + 1) = fb_ct (hb x) i := by rw [fb_ct_succ, z1, if_neg (by decide), Nat.add_zero]
      rw [nI_1]
      refine ih (i + 1) q (by omega) fr (by rw [es]; exact e42) (by rw [es]; exact hc) (fun k hk => I k (by rw [← es]; exact hk)) fun k hk hbk => ?_
      by_cases e2 : k = i
      · rw [e2, z1] at hbk; cases hbk
      · exact st k (by omega) hbk
    · have z1 : hb x i = true := by
        cases eb : hb x i
        · exact absurd ((hb_bit0 (by omega)).mpr eb) z
        · rfl
      have := g.1 i z1
      rw [bI_0.mp z2] at this; cases this
    · have z1 : hb x i = true := by
        cases eb : hb x i
        · exact absurd ((hb_bit0 (by omega)).mpr eb) z
        · rfl
      have es : fb_ct (hb x) (i + 1) = fb_ct (hb x) i + 1 := by rw [fb_ct_succ, z1, if_pos rfl]
      rw [e42, nI_eq (by omega) (by omega)]
      refine ⟨fun z3 => hno (fun g => ?_) q fr, fun z3 => ?_⟩
      · have h1 := g.2.2
        have h2 := fb_ct_mono (hb x) (m := i + 1) (n := nD σ) (by omega)
        omega
      · rw [nI_clamp (by omega), nI_1, nI_1, ← es]
        refine ⟨vin (by omega), ih (i + 1) _ (by omega) (Fr.tr fr (Fr.tr Fr.pI Fr.pI)) hI_k (by omega) (fun k hk => ?_) fun k hk hbk => ?_⟩
        · rw [hI_c (by decide), hI_if]
          by_cases e2 : k = fb_ct (hb x) i
          · rw [if_pos e2, e2, mbf_at z1]
          · rw [if_neg e2]; exact I k (by omega)
        · by_cases e2 : k = i
          · rw [e2]; exact bI_n0.mp z2
          · exact st k (by omega) hbk
theorem ok_gathers {F : Int32 → Hp → Prop} {x : Int64} {l m : Nat} (hd : 4 ≤ d) (hS : Std h.2.2) (V : VS σ) (mc : MC σ h) (hm9 : m ≤ 9) (hl : l < 2 ^ 31)
    (hyes : GS σ x l m → ∀ q, Fr [120] [(91, 42)] h q → q.1 91 42 = nI (cntb x) → (∀ k, k < cntb x → q.1 120 k = nI (mbf x k)) → F 1 q) (hno : ¬ GS σ x l m → ∀ q, Fr [120] [(91, 42)] h q → F 0 q) :
    OKi d mX12_gathers [.ref 91, .long x, .int (nI l), .int (nI m)] h F X := by
  have hD := V.d.2
  have f0 : Fr [120] [(91, 42)] h (hI h 91 42 0) := Fr.pI
  have no : (∃ k, nD σ ≤ k ∧ hb x k = true) → ¬ GS σ x l m := fun ⟨k, hk, hbk⟩ g => by
    have := (stn_al (g.1 k hbk)).2
    omega
  refine enX12_gathers _ _ _ hd hS ⟨fun z => hno (no ⟨63, by omega, hb_neg.mp z⟩) _ f0, fun z => ?_⟩
  rw [mc.i 91 6, V.d.1]
  refine ⟨fun z2 => ?_, fun z2 => hno (no ?_) _ f0⟩
  · have hx := (hb_none (by omega) z).mp z2
    exact lp_gathers (Nat.le_refl _) hS V mc hm9 hl hx hyes hno (nD σ) 0 _ (by omega) f0 hI_k (Nat.zero_le _) (fun k hk => absurd hk (Nat.not_lt_zero _)) fun k hk => absurd hk (Nat.not_lt_zero _)
  · refine Classical.byContradiction fun q => z2 ((hb_none (by omega) z).mpr fun k hk => ?_)
    cases e : hb x k
    · rfl
    · exact absurd ⟨k, hk, e⟩ q
end GATHERS
