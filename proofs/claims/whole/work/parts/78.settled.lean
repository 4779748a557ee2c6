/-! the class settles its members -/
section SETTLE
variable {h : Hp} {d n : Nat} {X : String → Hp → Prop} {St : Type} {bad one : Nat → Nat → Bool} {g : Nat → Nat → Int32} {act : (Nat → Nat) → St → St} {RS : St → Hp → Prop} {jd : Bool}
/-- members, barred ones, ones that must be together, gains -/
def PLd (n : Nat) (bad one : Nat → Nat → Bool) (g : Nat → Nat → Int32) (h : Hp) : Prop :=
  h.1 45 1 = nI n ∧ (∀ i, i < n → ∀ k, bt (h.1 47 i) k = (decide (k < i) && bad i k) ∧ bt (h.1 48 i) k = (decide (k < i) && one i k)) ∧
  ∀ i, i < n → ∀ m, m < 2 ^ i → h.1 49 (2 ^ i + m) = gpt g i m i
theorem PLd.fr {q : Hp} {L : List Nat} {fs : List (Nat × Nat)} (P : PLd n bad one g h) (fr : Fr L fs h q) (hL : ∀ k, inW L fs 47 k = false ∧ inW L fs 48 k = false ∧ inW L fs 49 k = false := by exact fun _ => ⟨rfl, rfl, rfl⟩) (h1 : inW L fs 45 1 = false := by rfl) : PLd n bad one g q :=
  ⟨by rw [fr.i 45 1 h1]; exact P.1, fun i hi k => by rw [fr.i 47 i (hL i).1, fr.i 48 i (hL i).2.1]; exact P.2.1 i hi k, fun i hi m hm => by rw [fr.i 49 _ (hL _).2.2]; exact P.2.2 i hi m hm⟩
theorem vld_ok {r : Nat → Nat} {i p : Nat} {x y s : Int32} (hi : i < 9) (hr : r i = p) (hs : s = nI (pmk r p i)) (hx : ∀ k, bt x k = (decide (k < i) && bad i k)) (hy : ∀ k, bt y k = (decide (k < i) && one i k)) :
    okj bad one r i i = true ↔ s &&& x = 0 ∧ y &&& (s ^^^ (-1)) = 0 := by
  have bs : ∀ k, k < 32 → bt s k = decide (k < i ∧ r k = p) := fun k hk => by rw [hs, bt_nI hk, pmk_bit]
  have bx : ∀ k, k < 32 → bt (s ^^^ (-1)) k = !decide (k < i ∧ r k = p) := fun k hk => by
    rw [b_xor, bs k hk, b_m1 k hk]; cases decide (k < i ∧ r k = p) <;> rfl
  rw [okj_all]
  refine ⟨fun z => ⟨b_ext fun k hk => ?_, b_ext fun k hk => ?_⟩, fun z k hk => ?_⟩
  · rw [b_and, bs k hk, hx, b_0]
    by_cases hki : k < i ∧ r k = p
    · have := z k hki.1
      rw [pok, if_pos (by rw [hr, hki.2])] at this
      rw [decide_eq_true hki, decide_eq_true hki.1, Bool.true_and, Bool.true_and]
      cases e : bad i k
      · rfl
      · rw [e] at this; cases this
    · rw [decide_eq_false hki, Bool.false_and]
  · rw [b_and, bx k hk, hy, b_0]
    by_cases hki : k < i
    · by_cases e : r k = p
      · rw [decide_eq_true (p := k < i ∧ r k = p) ⟨hki, e⟩]; simp
      · have := z k hki
        rw [pok, if_neg (by rw [hr]; exact fun q => e q.symm)] at this
        cases e2 : one i k
        · simp
        · rw [e2] at this; cases this
    · rw [decide_eq_false hki, Bool.false_and, Bool.false_and]
  · have z1 := congrArg (bt · k) z.1
    have z2 := congrArg (bt · k) z.2
    rw [b_and, bs k (by omega), hx, b_0, decide_eq_true hk, Bool.true_and] at z1
    rw [b_and, bx k (by omega), hy, b_0, decide_eq_true hk, Bool.true_and] at z2
    rw [pok]
    by_cases e : r k = p
    · rw [decide_eq_true (p := k < i ∧ r k = p) ⟨hk, e⟩, Bool.true_and] at z1
      rw [if_pos (by rw [hr, e]), z1]; rfl
    · rw [decide_eq_false (p := k < i ∧ r k = p) (fun q => e q.2), Bool.not_false, Bool.and_true] at z2
      rw [if_neg (by rw [hr]; exact fun q => e q.symm), z2]; rfl
theorem ok_settle (hn : n ≤ 9)
    (hfr : ∀ s h q, Fr [50, 51] [] h q → RS s h → RS s q)
    (hbase : ∀ (r : Nat → Nat) (s : St) (h : Hp) (jn : Int64) (F : Hp → Prop) (d : Nat), 1 ≤ d → Std h.2.2 → PLd n bad one g h → (∀ k, k < n → h.1 51 k = nI (r k)) → JB r n jn → RS s h →
      (∀ q, Fr [52] [(45, 8), (45, 9), (45, 11), (45, 12), (45, 13)] h q → RS (act r s) q → F q) →
      ((bI jd = 0 → OKv d mX5_compare [.ref 45, .int (rwp g r n)] h (fun h4 => F h4) X) ∧ (¬ bI jd = 0 → OKv d mX5_judge [.ref 45, .int (rwp g r n), .long jn] h (fun h4 => F h4) X))) :
    ∀ (f i : Nat) (r : Nat → Nat) (u : Nat) (s : St) (h : Hp) (jn : Int64) (F : Hp → Prop) (d : Nat), i + f = n → f + 2 ≤ d → u ≤ i → Std h.2.2 → PLd n bad one g h → (∀ k, k < i → h.1 51 k = nI (r k) ∧ r k < u) → (∀ p, p < u → h.1 50 p = nI (pmk r p i)) → JB r i jn → okp bad one r i = true → RS s h →
      (∀ q, Fr [50, 51, 52] [(45, 8), (45, 9), (45, 11), (45, 12), (45, 13)] h q → (∀ p, p < u → q.1 50 p = h.1 50 p) → (∀ k, k < i → q.1 51 k = h.1 51 k) → RS (enumN (lfo bad one n act) f i r u s) q → F q) →
      OKv d mX5_settle [.ref 45, .int (nI i), .int (nI u), .int (rwp g r i), .long jn, .int (bI jd)] h F X := by
  intro f
  induction f with
  | zero =>
    intro i r u s h jn F d e hd hu hS P R Q J ok rs hq
    have : i = n := by omega
    subst this
    refine enX5_settle _ _ _ _ _ (d - 1) (by omega) (by omega) hS ⟨fun z => absurd z (by rw [P.1]; exact Int32.lt_irrefl), fun _ => ?_⟩
    refine hbase r s h jn F (d - 1) (by omega) hS P (fun k hk => (R k hk).1) J rs fun q fr rs2 => hq q (Fr.mono fr) (fun p _ => fr.i 50 p) (fun k _ => fr.i 51 k) ?_
    rw [enumN, lfo, ok, if_pos rfl]
    exact rs2
  | succ f ih =>
    intro i r u s h jn F d e hd hu hS P R Q J ok rs hq
    have hin : i < n := by omega
    refine enX5_settle _ _ _ _ _ (d - 1) (by omega) (by omega) hS ⟨fun _ => ?_, fun z => absurd (by rw [P.1]; exact nI_lt hin (by omega)) z⟩
    have inner : ∀ (m p : Nat) (q : Hp), p + m = u + 1 → Fr [50, 51, 52] [(45, 8), (45, 9), (45, 11), (45, 12), (45, 13)] h q → (∀ p, p < u → q.1 50 p = h.1 50 p) → (∀ k, k < i → q.1 51 k = h.1 51 k) →
        RS (itr (fun p s => enumN (lfo bad one n act) f (i + 1) (upr r i p) (max u (p + 1)) s) p s) q →
        E mX5_settle (d - 1) 0 0 32 [(0, .ref 45), (1, .int (nI i)), (2, .int (nI u)), (3, .int (rwp g r i)), (4, .long jn), (6, .int (bI jd)), (7, .int (nI p))] [] q (Qv F) X := by
      intro m
      induction m with
      | zero =>
        intro p q ep fr k50 k51 rsq
        have : p = u + 1 := by omega
        subst this
        refine sgX5_settle_32 _ _ _ _ _ _ (by omega) (fr.sd hS) ⟨fun _ => hq q fr k50 k51 ?_, fun z => absurd (nI_lt (by omega) (by omega)) z⟩
        rw [enumN]; exact rsq
      | succ m ih2 =>
        intro p q ep fr k50 k51 rsq
        have hpu : p ≤ u := by omega
        have hSq := fr.sd hS
        have Pq : PLd n bad one g q := P.fr fr
        have step : ∀ s0, s0 = nI (pmk r p i) → E mX5_settle (d - 1) 0 0 62 [(0, .ref 45), (1, .int (nI i)), (2, .int (nI u)), (3, .int (rwp g r i)), (4, .long jn), (6, .int (bI jd)), (7, .int (nI p))] [.int s0] q (Qv F) X := by
          intro s0 hs0
          have pc : pmk (upr r i p) p i = pmk r p i := pmk_cg fun k hk => by rw [upr_j (by omega)]
          have vo := vld_ok (bad := bad) (one := one) (r := upr r i p) (s := s0) (by omega) upr_k (by rw [pc]; exact hs0) (fun k => (Pq.2.1 i hin k).1) (fun k => (Pq.2.1 i hin k).2)
          have skip : okj bad one (upr r i p) i i = false → E mX5_settle (d - 1) 0 0 162 [(0, .ref 45), (1, .int (nI i)), (2, .int (nI u)), (3, .int (rwp g r i)), (4, .long jn), (6, .int (bI jd)), (7, .int (nI p))] [] q (Qv F) X := fun hz => by
            refine sgX5_settle_162 _ _ _ _ _ _ (by omega) hSq ?_
            rw [nI_1]
            refine ih2 (p + 1) q (by omega) fr k50 k51 ?_
            rw [itr, enum_bad (n := n) f (i + 1) _ _ _ (by omega) (by rw [okp, hz, Bool.and_false])]
            exact rsq
          have pl := pmk_lt (r := r) (p := p) i
          have p9 : 2 ^ i ≤ 2 ^ 8 := Nat.pow_le_pow_right (by decide) (by omega)
          have e1 : (1 : Int32) <<< (nI i &&& 31) = nI (2 ^ i) := by
            have := pk_shlN (n := 1) (nI i &&& 31) i (s_l i (by omega)) (by omega)
            rw [Nat.one_mul] at this
            exact this
          refine sgX5_settle_62 _ _ _ _ _ _ _ (by omega) hSq ⟨vin (by omega), fun z => ⟨vin (by omega), fun z2 => ?_, fun z2 => skip ?_⟩, fun z => skip ?_⟩
          · rw [nI_clamp (by omega)] at z z2
            have okv := vo.mpr ⟨z, z2⟩
            have eg : (1 : Int32) <<< (nI i &&& 31) + s0 = nI (2 ^ i + pmk r p i) := by rw [e1, hs0, nI_add]
            have eo : s0 ||| (1 : Int32) <<< (nI i &&& 31) = nI (pmk (upr r i p) p (i + 1)) := by
              rw [pmk, pc, upr_k, if_pos rfl, e1, hs0, fa_or, Nat.or_comm, Nat.add_comm]
              have := Nat.two_pow_add_eq_or_of_lt pl 1
              rw [Nat.mul_one] at this
              rw [this]
            rw [eg, eo, nI_clamp (by omega), nI_clamp (by omega), nI_clamp (by omega), Pq.2.2 i hin _ pl]
            refine ⟨vin (by omega), vin (by omega), vin (by omega), enX5_firstPair _ (by omega) hSq ?_⟩
            rw [fp_i32 i (by omega), nI_1, nI_1, hs0]
            have em : (if nI u < nI (p + 1) then nI (p + 1) else nI u) = nI (max u (p + 1)) := nI_max (by omega) (by omega)
            have ew : rwp g r i + gpt g i (pmk r p i) i = rwp g (upr r i p) (i + 1) := by
              rw [rwp, rwp_cg (q := r) (fun k hk => upr_j (by omega)), ← pc, gpt_gsm upr_k (Nat.le_refl _)]
            rw [em, ew]
            have f2 : Fr [50, 51] [] q (hI (hI q 50 p (nI (pmk (upr r i p) p (i + 1)))) 51 i (nI p)) := Fr.tr Fr.pI Fr.pI
            refine ih (i + 1) (upr r i p) (max u (p + 1)) (itr (fun p s => enumN (lfo bad one n act) f (i + 1) (upr r i p) (max u (p + 1)) s) p s) _ _ _ (d - 1) (by omega) (by omega) (by omega) (f2.sd hSq) (Pq.fr f2) (fun k hk => ?_) (fun p' hp' => ?_) (J.put (by omega)) (by rw [okp, okp_cg (q := r) (fun k hk => upr_j (by omega)), ok, okv]; rfl) (hfr _ _ _ f2 rsq) fun q2 fr2 l50 l51 rs2 => ⟨vin (by omega), ?_⟩
            · rw [hI_if]
              by_cases hki : k = i
              · subst hki
                rw [if_pos rfl, upr_k]; exact ⟨rfl, by omega⟩
              · have := R k (by omega)
                rw [if_neg hki, upr_j hki, hI_c (by decide), k51 k (by omega)]
                exact ⟨this.1, by omega⟩
            · rw [hI_c (by decide), hI_if]
              by_cases hpp : p' = p
              · rw [if_pos hpp, hpp]
              · have hpu' : p' < u := by omega
                rw [if_neg hpp, k50 p' hpu', Q p' hpu', pmk, upr_k, if_neg (fun z => hpp z.symm), Nat.add_zero]
                congr 1
                exact pmk_cg fun k hk => by rw [upr_j (by omega)]
            · refine sgX5_settle_162 _ _ _ _ _ _ (by omega) (Fr.sd (Fr.pI (L := [50]) (fs := [])) (fr2.sd (f2.sd hSq))) ?_
              rw [nI_1]
              have f3 : Fr [50, 51, 52] [(45, 8), (45, 9), (45, 11), (45, 12), (45, 13)] h (hI q2 50 p (nI (pmk r p i))) := Fr.tr fr (Fr.tr (Fr.mono f2) (Fr.tr fr2 Fr.pI))
              refine ih2 (p + 1) _ (by omega) f3 (fun p' hp' => ?_) (fun k hk => ?_) ?_
              · rw [hI_if]
                by_cases hpp : p' = p
                · rw [if_pos hpp, hpp, Q p (by omega)]
                · rw [if_neg hpp, l50 p' (by omega), hI_c (by decide), hI_j hpp, k50 p' hp']
              · rw [hI_c (by decide), l51 k (by omega), hI_j (by omega), hI_c (by decide), k51 k hk]
              · refine hfr _ _ _ Fr.pI ?_
                rw [itr]
                exact rs2
          · rw [nI_clamp (by omega)] at z z2
            exact Bool.eq_false_iff.mpr fun q => z2 (vo.mp q).2
          · rw [nI_clamp (by omega)] at z
            exact Bool.eq_false_iff.mpr fun q => z (vo.mp q).1
        refine sgX5_settle_32 _ _ _ _ _ _ (by omega) hSq ⟨fun z => absurd z (Int32.not_lt.mpr (nI_le hpu (by omega))), fun _ => ⟨fun z => absurd z (nI_ge (a := p) (b := 9) (by omega) (by omega)), fun _ => ⟨fun z => step 0 ?_, fun z => ⟨vin (by omega), step _ ?_⟩⟩⟩⟩
        · have : u ≤ p := (nI_leI (by omega) (by omega)).mp z
          have e0 : pmk r p i = 0 := by
            refine Nat.eq_of_testBit_eq fun x => ?_
            rw [pmk_bit, Nat.zero_testBit]
            refine decide_eq_false fun q => ?_
            have := (R x q.1).2
            omega
          rw [e0]; rfl
        · have : p < u := by
            refine Classical.byContradiction fun q => z ?_
            exact (nI_leI (by omega) (by omega)).mpr (by omega)
          rw [nI_clamp (by omega), k50 p this, Q p this]
    exact inner (u + 1) 0 h (by omega) Fr.rf (fun _ _ => rfl) (fun _ _ => rfl) rs
end SETTLE
