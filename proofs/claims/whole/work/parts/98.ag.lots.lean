/-! lots: dealing -/
section DEAL
variable {σ h : Hp} {d S : Nat} {X : String → Hp → Prop} {w : Nat → Nat → Int32} {P : Nat → Bool}
def mbP (P : Nat → Bool) (i : Nat) : Nat := fa_first (fun k => P k && decide (fb_ct P k = i)) 64
theorem mbf_P {x : Int64} (h : ∀ k, hb x k = P k) : mbf x = mbP P := by
  have : hb x = P := funext h
  unfold mbf mbP
  rw [this]
theorem mbP_at (h64 : ∀ k, P k = true → k < 64) {k : Nat} (h : P k = true) : mbP P (fb_ct P k) = k := by
  have hk := h64 k h
  have hp : (fun j => P j && decide (fb_ct P j = fb_ct P k)) k = true := by simp only [h, decide_true, Bool.and_self]
  have le : mbP P (fb_ct P k) ≤ k := by
    refine Classical.byContradiction fun q => ?_
    have := fa_first_no (fun j => P j && decide (fb_ct P j = fb_ct P k)) 64 k (by unfold mbP at q; omega)
    exact absurd (hp.symm.trans this) (by decide)
  have y := fa_first_yes (fun j => P j && decide (fb_ct P j = fb_ct P k)) 64 (by unfold mbP at le; omega)
  rw [Bool.and_eq_true, decide_eq_true_eq] at y
  exact fb_ct_kth_one y.1 h y.2
theorem mbP_in (h64 : ∀ k, P k = true → k < 64) {i n : Nat} (h : i < fb_ct P n) : P (mbP P i) = true ∧ mbP P i < n ∧ fb_ct P (mbP P i) = i := by
  obtain ⟨k, h1, h2, h3⟩ := fb_ct_kth h
  have := mbP_at h64 h2
  rw [h3] at this
  rw [this]; exact ⟨h2, h1, h3⟩
def nxtL (x : Int64) : Int64 := x * 1103515245 + 12345 &&& 2147483647
def nxtN (x : Int64) : Nat := (nxtL x).toBitVec.toNat
theorem nxt_n (x : Int64) : nxtL x = lN (nxtN x) ∧ nxtN x < 2 ^ 31 := by
  obtain ⟨n, hn, e⟩ := wb_of (x * 1103515245 + 12345)
  have e1 : nxtL x = lN (n % 2 ^ 31) := by
    have := wb_mask (n := n) (k := 31) hn (by decide)
    rw [nxtL, e]
    exact this
  have lt : n % 2 ^ 31 < 2 ^ 31 := Nat.mod_lt _ (by decide)
  have e2 : nxtN x = n % 2 ^ 31 := by rw [nxtN, e1, wb_tn (by omega)]
  rw [e2]; exact ⟨e1, lt⟩
def rj (x : Int64) (i : Nat) : Nat := nxtN x / 65536 % (i + 1)
theorem rj_lt (x : Int64) (i : Nat) : rj x i ≤ i := Nat.le_of_lt_succ (Nat.mod_lt _ (Nat.succ_pos i))
def swp (w : Nat → Nat → Int32) (a b m : Nat) : Nat → Nat → Int32 := upw (upw w a m (w b m)) b m (w a m)
theorem swp_03 {a b m : Nat} (hw : ∀ p q, S03 (w p q)) : ∀ p q, S03 (swp w a b m p q) := upw_03 (upw_03 hw (hw _ _)) (hw _ _)
theorem swp_off {a b m k : Nat} (h1 : k ≠ a) (h2 : k ≠ b) (j : Nat) : swp w a b m k j = w k j := by
  show (if k = b ∧ j = m then w a m else (if k = a ∧ j = m then w b m else w k j)) = w k j
  rw [if_neg (fun z => h2 z.1), if_neg (fun z => h1 z.1)]
def dlR (row : Nat → Nat) (m : Nat) : Nat → Int64 → (Nat → Nat → Int32) → Int64 × (Nat → Nat → Int32)
  | 0, x, w => (x, w)
  | i + 1, x, w => dlR row m i (nxtL x) (swp w (row (i + 1)) (row (rj x (i + 1))) m)
theorem dlR_03 {row : Nat → Nat} {m : Nat} : ∀ (i : Nat) (x : Int64) (w : Nat → Nat → Int32), (∀ p q, S03 (w p q)) → ∀ p q, S03 ((dlR row m i x w).2 p q)
  | 0, _, _, h => h
  | i + 1, x, w, h => dlR_03 i _ _ (swp_03 h)
theorem dlR_off {row : Nat → Nat} {m k n : Nat} (hr : ∀ j, j < n → row j ≠ k) : ∀ (i : Nat) (x : Int64) (w : Nat → Nat → Int32), i < n ∨ i = 0 → ∀ j, (dlR row m i x w).2 k j = w k j
  | 0, _, _, _, _ => rfl
  | i + 1, x, w, hi, j => by
    rw [dlR, dlR_off hr i _ _ (by omega)]
    have := rj_lt x (i + 1)
    exact swp_off (fun z => hr (i + 1) (by omega) z.symm) (fun z => hr _ (by omega) z.symm) j
def dlA (row : Nat → Nat) (n : Nat) (w : Nat → Nat → Int32) (x : Int64) : Nat → Int64 × (Nat → Nat → Int32)
  | 0 => (x, w)
  | m + 1 => dlR row m (n - 1) (dlA row n w x m).1 (dlA row n w x m).2
theorem dlA_03 {row : Nat → Nat} {n : Nat} {x : Int64} (hw : ∀ p q, S03 (w p q)) : ∀ m p q, S03 ((dlA row n w x m).2 p q)
  | 0 => hw
  | m + 1 => dlR_03 _ _ _ (dlA_03 hw m)
theorem dlA_off {row : Nat → Nat} {k n : Nat} {x : Int64} (hr : ∀ j, j < n → row j ≠ k) : ∀ m j, (dlA row n w x m).2 k j = w k j
  | 0, _ => rfl
  | m + 1, j => by rw [dlA, dlR_off hr _ _ _ (by omega), dlA_off hr m j]
theorem mod_sub {a b : Nat} (ha : a < 2 ^ 31) (h0 : 0 < b) (hb' : b < 2 ^ 31) : nI a - nI a / nI b * nI b = nI (a % b) := pk_rem ha h0 hb'
theorem pk_shrL16 {n : Nat} (h : n < 2 ^ 31) : ((lN n) >>> ((16 : Int32).toInt64 &&& 63)).toInt32 = nI (n / 65536) := by
  have e : (lN n) >>> ((16 : Int32).toInt64 &&& 63) = lN (n / 65536) := by
    refine hb_ext fun i hi => ?_
    have t := hb_sshr (n := 16) (by decide) (lN n) hi
    have e16 : ((16 : Int32).toInt64 &&& 63) = ((nI 16).toInt64 &&& 63) := rfl
    rw [e16, t, hb_lN hi]
    have ed : n / 65536 = n >>> 16 := by rw [Nat.shiftRight_eq_div_pow]
    rw [ed, Nat.testBit_shiftRight]
    by_cases q : 16 + i < 64
    · rw [if_pos q, hb_lN q]
    · rw [if_neg q, hb_lN (by decide), Nat.testBit_lt_two_pow (Nat.lt_of_lt_of_le h (by decide)), Nat.testBit_lt_two_pow (Nat.lt_of_lt_of_le h (Nat.pow_le_pow_right (by decide) (by omega)))]
  have lt : n / 65536 < 2 ^ 31 := Nat.lt_of_le_of_lt (Nat.div_le_self _ _) h
  rw [e]
  apply Int32.toBitVec_inj.mp
  apply BitVec.eq_of_toNat_eq
  show ((lN (n / 65536)).toInt32).toBitVec.toNat = _
  rw [← nI_64 lt, Int32.toInt32_toInt64]
theorem ok_deal {F : Int64 → Hp → Prop} {m n : Nat} {row : Nat → Nat} {x : Int64} (sh : ShOK S) (hd : 3 ≤ d) (hS : Std h.2.2) (s : Shw w S h) (hw : ∀ p q, S03 (w p q)) (hm : m < 16) (hn : n ≤ 60) (hr : ∀ k, k < n → h.1 90 k = nI (row k) ∧ row k < 60)
    (hq : ∀ q, Fr [S + 1, S + 2, S + 3] [] h q → Shw (dlR row m (n - 1) x w).2 S q → F (dlR row m (n - 1) x w).1 q) : OKl d mX8_deal [.ref S, .int (nI m), .ref 90, .int (nI n), .long x] h F X := by
  have f90 : ∀ {q : Hp}, Fr [S + 1, S + 2, S + 3] [] h q → ∀ k, q.1 90 k = h.1 90 k := fun fr k => fr.i 90 k (by
    obtain e | e | e := sh.2.2.2.2 <;> subst e <;> rfl)
  have end' : ∀ (x8 : Int32) (x' : Int64) (w' : Nat → Nat → Int32) (q : Hp), x8 < 1 → (dlR row m (n - 1) x w) = (x', w') → Fr [S + 1, S + 2, S + 3] [] h q → Shw w' S q → E mX8_deal 2 0 0 14 [(0, .ref S), (1, .int (nI m)), (2, .ref 90), (6, .long x'), (8, .int x8)] [] q (Ql F) X := fun x8 x' w' q h8 e fr s' => by
    refine sgX8_deal_14 sh _ _ _ (Nat.le_refl _) (fr.sd hS) ⟨fun _ => ?_, fun z => absurd h8 z⟩
    have := hq q fr
    rw [e] at this
    exact this s'
  have go : ∀ (i : Nat) (x' : Int64) (w' : Nat → Nat → Int32) (q : Hp), i < n → (∀ p q, S03 (w' p q)) → dlR row m i x' w' = dlR row m (n - 1) x w → Fr [S + 1, S + 2, S + 3] [] h q → Shw w' S q → E mX8_deal 2 0 0 14 [(0, .ref S), (1, .int (nI m)), (2, .ref 90), (6, .long x'), (8, .int (nI i))] [] q (Ql F) X := by
    intro i
    induction i with
    | zero => intro x' w' q _ _ e fr s'; exact end' 0 x' w' q (by decide) e.symm fr s'
    | succ i ih =>
      intro x' w' q hi hw' e fr s'
      have hS' := fr.sd hS
      obtain ⟨en, ln⟩ := nxt_n x'
      have jl := rj_lt x' (i + 1)
      have e1 : (x' * 1103515245 + 12345 &&& 2147483647 : Int64) = nxtL x' := rfl
      have e2 : ((nxtL x') >>> ((16 : Int32).toInt64 &&& 63)).toInt32 = nI (nxtN x' / 65536) := by
        rw [en]
        exact pk_shrL16 ln
      have ri := hr (i + 1) hi
      have rjj := hr (rj x' (i + 1)) (by omega)
      refine sgX8_deal_14 sh _ _ _ (Nat.le_refl _) hS' ⟨fun z => absurd z (Int32.not_lt.mpr (nI_le (a := 1) (by omega) (by omega))), fun _ => ?_⟩
      rw [e1, e2, nI_1]
      refine enX11_quotient _ _ (by omega) hS' ⟨fun z => absurd z (nI_ge (a := 0) (by omega) (by omega)), fun _ => ⟨fun z => ?_, ?_⟩⟩
      · have := nI_inj (b := 0) (by omega) (by omega) z
        omega
      · rw [mod_sub (by omega) (by omega) (by omega), nI_clamp (by omega)]
        have er : nxtN x' / 65536 % (i + 1 + 1) = rj x' (i + 1) := rfl
        rw [er, nI_clamp (by omega), f90 fr, ri.1]
        refine ⟨vin (by omega), ok_stateOf sh (by omega) hS' s' ri.2 hm (hw' _ _) ⟨vin (by omega), vin (by omega), ?_⟩⟩
        rw [f90 fr, f90 fr, ri.1, rjj.1]
        refine ok_stateOf sh (by omega) hS' s' rjj.2 hm (hw' _ _) (ok_put sh (by omega) hS' s' ri.2 hm (hw' _ _) fun q2 f2 s2 => ⟨vin (by omega), ?_⟩)
        have fr2 := Fr.tr fr f2
        rw [f90 fr2, rjj.1]
        refine ok_put sh (by omega) (f2.sd hS') s2 rjj.2 hm (hw' _ _) fun q3 f3 s3 => ?_
        rw [pk_m1]
        exact ih (nxtL x') _ q3 (by omega) (swp_03 hw') e (Fr.tr fr2 f3) s3
  refine enX8_deal sh _ _ _ hd hS ?_
  have em : (if (60 : Int32) < nI n then (60 : Int32) else nI n) = nI n := by
    rw [if_neg]
    exact Int32.not_lt.mpr (nI_le (b := 60) hn (by decide))
  rw [em]
  by_cases h0 : n = 0
  · subst h0
    exact end' _ x w h (by decide) rfl Fr.rf s
  · obtain ⟨k, rfl⟩ : ∃ k, n = k + 1 := ⟨n - 1, by omega⟩
    rw [nI_m1]
    exact go k x w h (by omega) hw rfl Fr.rf s
end DEAL
