/-! best and near, by the class -/
section BESTC
variable {h : Hp} {d n : Nat} {X : String → Hp → Prop} {bad one : Nat → Nat → Bool} {g : Nat → Nat → Int32}
abbrev SB : Type := Bool × Int32 × (Nat → Nat)
def actB (g : Nat → Nat → Int32) (n : Nat) (r : Nat → Nat) (s : SB) : SB := if s.1 = false ∨ s.2.1 < rwp g r n then (true, rwp g r n, r) else s
def RSB (n : Nat) (s : SB) (h : Hp) : Prop := h.1 45 8 = bI s.1 ∧ (s.1 = true → h.1 45 9 = s.2.1 ∧ ∀ k, k < n → h.1 52 k = nI (s.2.2 k))
theorem lp_compare {F : Hp → Prop} {r : Nat → Nat} (hn : n ≤ 9) (hS : Std h.2.2) (h1 : h.1 45 1 = nI n) (hr : ∀ k, k < n → h.1 51 k = nI (r k)) (hq : ∀ q, Fr [52] [] h q → (∀ k, k < n → q.1 52 k = nI (r k)) → F q) :
    ∀ (m i : Nat) (q : Hp), i + m = n → Fr [52] [] h q → (∀ k, k < i → q.1 52 k = nI (r k)) → E mX5_compare d 0 0 27 [(0, .ref 45), (2, .int (nI i))] [] q (Qv F) X := by
  intro m
  induction m with
  | zero =>
    intro i q e fr I
    have : i = n := by omega
    subst this
    exact sgX5_compare_27 _ (Nat.zero_le _) (fr.sd hS) ⟨fun _ => hq q fr I, fun z => absurd (by rw [fr.i 45 1, h1]; exact Int32.le_refl _) z⟩
  | succ m ih =>
    intro i q e fr I
    refine sgX5_compare_27 _ (Nat.zero_le _) (fr.sd hS) ⟨fun z => absurd z (by rw [fr.i 45 1, h1]; exact nI_ge (by omega) (by omega)), fun _ => ⟨vin (by omega), vin (by omega), ?_⟩⟩
    rw [nI_1, nI_clamp (by omega), fr.i 51 i, hr i (by omega)]
    refine ih (i + 1) _ (by omega) (Fr.tr fr Fr.pI) fun k hk => ?_
    rw [hI_if]
    by_cases e2 : k = i
    · rw [if_pos e2, e2]
    · rw [if_neg e2]; exact I k (by omega)
theorem ok_compare {F : Hp → Prop} {r : Nat → Nat} {s : SB} (hn : n ≤ 9) (hd : 1 ≤ d) (hS : Std h.2.2) (h1 : h.1 45 1 = nI n) (hr : ∀ k, k < n → h.1 51 k = nI (r k)) (rs : RSB n s h)
    (hq : ∀ q, Fr [52] [(45, 8), (45, 9), (45, 11), (45, 12), (45, 13)] h q → RSB n (actB g n r s) q → F q) : OKv d mX5_compare [.ref 45, .int (rwp g r n)] h F X := by
  have f0 : Fr [] [(45, 8), (45, 9)] h (hI (hI h 45 8 1) 45 9 (rwp g r n)) := Fr.tr Fr.pI Fr.pI
  have take : (s.1 = false ∨ s.2.1 < rwp g r n) → E mX5_compare 0 0 0 27 [(0, .ref 45), (2, .int 0)] [] (hI (hI h 45 8 1) 45 9 (rwp g r n)) (Qv F) X := fun hz => by
    refine lp_compare (h := hI (hI h 45 8 1) 45 9 (rwp g r n)) hn (f0.sd hS) (by rw [f0.i 45 1, h1]) (fun k hk => by rw [f0.i 51 k]; exact hr k hk) (fun q fr I => hq q (Fr.tr (Fr.mono f0) (Fr.mono fr)) ?_) n 0 _ (by omega) Fr.rf fun k hk => absurd hk (Nat.not_lt_zero _)
    rw [actB, if_pos hz]
    refine ⟨by rw [fr.i 45 8, hI_j (by decide), hI_k]; rfl, fun _ => ⟨by rw [fr.i 45 9, hI_k], I⟩⟩
  refine enX5_compare _ hd hS ⟨fun z => take (Or.inl ?_), fun z => ⟨fun z2 => ?_, fun z2 => take (Or.inr ?_)⟩⟩
  · rw [rs.1] at z; exact bI_0.mp z
  · rw [rs.1] at z
    have t := bI_n0.mp z
    have := hq h Fr.rf
    rw [actB, if_neg] at this
    · exact this rs
    · rintro (q | q)
      · rw [t] at q; cases q
      · rw [(rs.2 t).1] at z2
        exact absurd z2 (Int32.not_le.mpr q)
  · rw [rs.1] at z
    rw [(rs.2 (bI_n0.mp z)).1] at z2
    exact Int32.not_le.mp z2
theorem enX5_findBestD {F : Hp → Prop} (d : Nat) {d1 : Nat} (hd : 2 ≤ d) (hd1 : d + 1 ≤ d1) (hS : Std h.2.2) (hv : OKv d mX5_settle [.ref 45, .int 0, .int 0, .int 0, .long 0, .int 0] (hI (hI h 45 8 0) 45 9 0) (fun (h2 : Hp) => F h2) X) : OKv d1 mX5_findBest [.ref 45] h F X := OKv.up hd1 (okv_of d (by decide +kernel) (Nat.le_of_ble_eq_true rfl) (sgX5_findBest_0 hd hS hv))
def best0 (bad one : Nat → Nat → Bool) (g : Nat → Nat → Int32) (n : Nat) : SB := enumN (lfo bad one n (actB g n)) n 0 (fun _ => 0) 0 (false, 0, fun _ => 0)
theorem JB.zero {r : Nat → Nat} : JB r 0 0 := fun j k _ _ => by rw [hb_0, decide_eq_false (Nat.not_lt_zero _)]; rfl
theorem ok_findBest {F : Hp → Prop} (hn : n ≤ 9) (hd : n + 3 ≤ d) (hS : Std h.2.2) (P : PLd n bad one g h)
    (hq : ∀ q, Fr [50, 51, 52] [(45, 8), (45, 9), (45, 11), (45, 12), (45, 13)] h q → RSB n (best0 bad one g n) q → F q) : OKv d mX5_findBest [.ref 45] h F X := by
  have f0 : Fr [] [(45, 8), (45, 9)] h (hI (hI h 45 8 0) 45 9 0) := Fr.tr Fr.pI Fr.pI
  refine enX5_findBestD (d - 1) (by omega) (by omega) hS ?_
  refine ok_settle (RS := RSB n) (act := actB g n) (jd := false) (bad := bad) (one := one) (g := g) hn (fun s h q fr rs => ⟨by rw [fr.i 45 8]; exact rs.1, fun t => ⟨by rw [fr.i 45 9]; exact (rs.2 t).1, fun k hk => by rw [fr.i 52 k]; exact (rs.2 t).2 k hk⟩⟩) (fun r s h jn F d hd hS P R J rs hq => ⟨fun _ => ok_compare hn hd hS P.1 R rs hq, fun z => absurd rfl z⟩)
    n 0 (fun _ => 0) 0 (false, 0, fun _ => 0) _ 0 F (d - 1) (by omega) (by omega) (by omega) (f0.sd hS) (P.fr f0) (fun k hk => absurd hk (Nat.not_lt_zero _)) (fun p hp => absurd hp (Nat.not_lt_zero _)) JB.zero rfl ⟨by rw [hI_j (by decide), hI_k]; rfl, fun z => absurd z (by decide)⟩ fun q fr _ _ rs => hq q (Fr.tr (Fr.mono f0) fr) rs
abbrev SN : Type := Nat × (Nat → Nat → Nat)
def actN (g : Nat → Nat → Int32) (n : Nat) (least : Int32) (r : Nat → Nat) (s : SN) : SN := if rwp g r n < least then s else (s.1 + 1, fun i k => s.2 i k + if r i = r k then 1 else 0)
def RSN (n : Nat) (least : Int32) (s : SN) (h : Hp) : Prop := h.1 45 10 = least ∧ h.1 45 11 = nI s.1 ∧ ∀ i k, i < n → k < i → s.2 i k ≤ s.1 ∧ hb (h.2.1 45 12) (fpN i + k) = decide (0 < s.2 i k) ∧ hb (h.2.1 45 13) (fpN i + k) = decide (s.2 i k < s.1)
theorem ok_judge {F : Hp → Prop} {r : Nat → Nat} {s : SN} {least : Int32} {jn : Int64} (hn : n ≤ 9) (hd : 1 ≤ d) (hS : Std h.2.2) (J : JB r n jn) (rs : RSN n least s h)
    (hq : ∀ q, Fr [52] [(45, 8), (45, 9), (45, 11), (45, 12), (45, 13)] h q → RSN n least (actN g n least r s) q → F q) : OKv d mX5_judge [.ref 45, .int (rwp g r n), .long jn] h F X := by
  refine enX5_judge _ _ hd hS ⟨fun z => ?_, fun z => hq _ (Fr.tr Fr.pI (Fr.tr Fr.pL Fr.pL)) ?_⟩
  · rw [rs.1] at z
    have := hq h Fr.rf
    rw [actN, if_pos z] at this
    exact this rs
  · rw [rs.1] at z
    rw [actN, if_neg z]
    refine ⟨by rw [hL_i, hL_i, hI_j (by decide)]; exact rs.1, by rw [hL_i, hL_i, hI_k, rs.2.1, nI_1], fun i k hi hk => ?_⟩
    obtain ⟨s1, s2, s3⟩ := rs.2.2 i k hi hk
    have hl := fp_lt i (by omega) k hk
    have jb := J i k (by omega) hk
    rw [decide_eq_true hi, Bool.true_and] at jb
    refine ⟨?_, ?_, ?_⟩
    · show s.2 i k + (if r i = r k then 1 else 0) ≤ s.1 + 1
      split <;> omega
    · show _ = decide (0 < s.2 i k + (if r i = r k then 1 else 0))
      rw [hL_j (by decide), hL_k, hb_or, jb]
      show (hb (h.2.1 45 12) (fpN i + k) || decide (r i = r k)) = _
      rw [s2, ← Bool.decide_or]
      refine decide_eq_decide.mpr ?_
      split <;> omega
    · show _ = decide (s.2 i k + (if r i = r k then 1 else 0) < s.1 + 1)
      rw [hL_k, hb_or, hb_not (by omega), jb]
      show (hb (h.2.1 45 13) (fpN i + k) || !decide (r i = r k)) = _
      rw [s3]
      by_cases e : r i = r k
      · rw [decide_eq_true e, if_pos e, Bool.not_true, Bool.or_false]
        exact decide_eq_decide.mpr (by omega)
      · rw [decide_eq_false e, if_neg e, Bool.not_false, Bool.or_true]
        exact (decide_eq_true (by omega)).symm
theorem enX5_judgeNearD {F : Hp → Prop} (x1 : Int32) (d : Nat) {d1 : Nat} (hd : 2 ≤ d) (hd1 : d + 1 ≤ d1) (hS : Std h.2.2) (hv : OKv d mX5_settle [.ref 45, .int 0, .int 0, .int 0, .long 0, .int 1] (hL (hL (hI (hI h 45 10 ((h.1 45 9) - x1)) 45 11 0) 45 12 0) 45 13 0) (fun (h2 : Hp) => F h2) X) : OKv d1 mX5_judgeNear [.ref 45, .int x1] h F X := OKv.up hd1 (okv_of d (by decide +kernel) (Nat.le_of_ble_eq_true rfl) (sgX5_judgeNear_0 x1 hd hS hv))
def near0 (bad one : Nat → Nat → Bool) (g : Nat → Nat → Int32) (n : Nat) (least : Int32) : SN := enumN (lfo bad one n (actN g n least)) n 0 (fun _ => 0) 0 (0, fun _ _ => 0)
theorem ok_judgeNear {F : Hp → Prop} {t : Int32} (hn : n ≤ 9) (hd : n + 3 ≤ d) (hS : Std h.2.2) (P : PLd n bad one g h)
    (hq : ∀ q, Fr [50, 51, 52] [(45, 8), (45, 9), (45, 10), (45, 11), (45, 12), (45, 13)] h q → RSN n (h.1 45 9 - t) (near0 bad one g n (h.1 45 9 - t)) q → F q) : OKv d mX5_judgeNear [.ref 45, .int t] h F X := by
  have f0 : Fr [] [(45, 10), (45, 11), (45, 12), (45, 13)] h (hL (hL (hI (hI h 45 10 ((h.1 45 9) - t)) 45 11 0) 45 12 0) 45 13 0) := Fr.tr Fr.pI (Fr.tr Fr.pI (Fr.tr Fr.pL Fr.pL))
  refine enX5_judgeNearD _ (d - 1) (by omega) (by omega) hS ?_
  refine ok_settle (RS := RSN n (h.1 45 9 - t)) (act := actN g n (h.1 45 9 - t)) (jd := true) (bad := bad) (one := one) (g := g) hn (fun s h q fr rs => ⟨by rw [fr.i 45 10]; exact rs.1, by rw [fr.i 45 11]; exact rs.2.1, fun i k hi hk => by rw [fr.l 45 12, fr.l 45 13]; exact rs.2.2 i k hi hk⟩) (fun r s h jn F d hd hS P R J rs hq => ⟨fun z => absurd z (by decide), fun _ => ok_judge hn hd hS J rs hq⟩)
    n 0 (fun _ => 0) 0 (0, fun _ _ => 0) _ 0 F (d - 1) (by omega) (by omega) (by omega) (f0.sd hS) (P.fr f0) (fun k hk => absurd hk (Nat.not_lt_zero _)) (fun p hp => absurd hp (Nat.not_lt_zero _)) JB.zero rfl ⟨by rw [hL_i, hL_i, hI_j (by decide), hI_k], by rw [hL_i, hL_i, hI_k]; rfl, fun i k _ _ => ⟨Nat.le_refl _, by rw [hL_j (by decide), hL_k, hb_0]; rfl, by rw [hL_k, hb_0]; rfl⟩⟩ fun q fr _ _ rs => hq q (Fr.tr (Fr.mono f0) (Fr.mono fr)) rs
end BESTC
