/-! the likely places of a map -/
section LIKELY
variable {σ h : Hp} {d : Nat} {X : String → Hp → Prop} {s : Int32} {sh : Nat → Nat} {n : Nat}
def fre (S : Nat) (p : Nat) : Bool := !S.testBit p
def lks (n : Nat) (sh : Nat → Nat) (s : Nat) : Nat → Nat → Nat → Nat
  | 0, S, _ => S
  | f + 1, S, t => if s ≤ t then S else match bst (fre S) (fun p => nI (sh p)) n with
    | none => S
    | some p => lks n sh s f (S ||| 2 ^ p) (t + sh p)
def ltk (sh : Nat → Nat) (n S : Nat) : Nat := fb_sm (fun p => if S.testBit p = true then sh p else 0) n
/-- what holds on the way -/
def LKI (n : Nat) (sh : Nat → Nat) (f S t : Nat) : Prop := fb_ct (fre S) n ≤ f ∧ t = ltk sh n S ∧ S < 2 ^ 30
theorem LKI.bb {s f S t : Nat} (I : LKI n sh f S t) (hs : fb_sm sh n = 10000) (h1 : s ≤ 10000) (h2 : ¬ s ≤ t) : ∃ p, bst (fre S) (fun p => nI (sh p)) n = some p ∧ p < n ∧ fre S p = true := by
  cases e : bst (fre S) (fun p => nI (sh p)) n with
  | some p => exact ⟨p, rfl, bst_in e⟩
  | none =>
    have : ltk sh n S = fb_sm sh n := fb_sm_cong fun p hp => by
      have := bst_no e p hp
      rw [fre] at this
      have tb : S.testBit p = true := by
        cases y : S.testBit p
        · rw [y] at this; cases this
        · rfl
      rw [if_pos tb]
    have := I.2.1
    omega
theorem LKI.nx {f S t p : Nat} (I : LKI n sh (f + 1) S t) (hn : n ≤ 30) (hp : p < n) (hf : fre S p = true) : LKI n sh f (S ||| 2 ^ p) (t + sh p) := by
  have tb : S.testBit p = false := by
    rw [fre] at hf
    cases y : S.testBit p
    · rfl
    · rw [y] at hf; cases hf
  have te : ∀ k, (S ||| 2 ^ p).testBit k = if k = p then true else S.testBit k := fun k => by
    rw [fb_bit_set]
    by_cases y : k = p
    · rw [if_pos y, decide_eq_true y, Bool.or_true]
    · rw [if_neg y, decide_eq_false y, Bool.or_false]
  refine ⟨?_, ?_, Nat.or_lt_two_pow I.2.2 (Nat.pow_lt_pow_right (by omega) (by omega))⟩
  · have u := fb_ct_upd (fre S) false hp
    rw [hf, if_pos rfl, if_neg (by decide)] at u
    have : fb_ct (fre (S ||| 2 ^ p)) n = fb_ct (fun k => if k = p then false else fre S k) n := fb_ct_cong fun k _ => by
      rw [fre, te]
      by_cases y : k = p
      · rw [if_pos y, if_pos y]; rfl
      · rw [if_neg y, if_neg y]; rfl
    have := I.1
    omega
  · have u := fb_sm_upd (fun k => if S.testBit k = true then sh k else 0) (sh p) hp
    rw [tb, if_neg (show ¬ false = true by decide)] at u
    have : ltk sh n (S ||| 2 ^ p) = fb_sm (fun k => if k = p then sh p else (if S.testBit k = true then sh k else 0)) n := fb_sm_cong fun k _ => by
      rw [te]
      by_cases y : k = p
      · rw [if_pos y, if_pos y, if_pos rfl, y]
      · rw [if_neg y, if_neg y]
    have i2 := I.2.1
    have e3 : ltk sh n S = fb_sm (fun k => if S.testBit k = true then sh k else 0) n := rfl
    have u : fb_sm (fun k => if k = p then sh p else (if S.testBit k = true then sh k else 0)) n + 0 = fb_sm (fun k => if S.testBit k = true then sh k else 0) n + sh p := u
    omega
theorem LKI.st (hs : fb_sm sh n = 10000) : LKI n sh n 0 0 := by
  refine ⟨fb_ct_le _ _, ?_, by decide⟩
  have : ltk sh n 0 = fb_sm (fun _ => 0) n := fb_sm_cong fun k _ => by rw [Nat.zero_testBit, if_neg (by decide)]
  rw [this, fb_sm_const]; rfl
theorem set_nI (S : Nat) {p : Nat} (hp : p < 31) : nI S ||| ((1 : Int32) <<< (nI p &&& 31)) = nI (S ||| 2 ^ p) := by
  rw [nI_shl hp, fa_or]
theorem ltk_le (hs : fb_sm sh n = 10000) (S : Nat) : ltk sh n S ≤ 10000 := by
  rw [← hs]
  exact fb_sm_le fun k _ => by split <;> omega
theorem ok_likeliest {F : Int32 → Hp → Prop} {z : Nat} (hd : 2 ≤ d) (hS : Std h.2.2) (V : VS σ) (hp : h.1 1 1 = nI (nP σ)) (hv : ∀ p, p < nP σ → h.1 61 p = nI (sh p)) (hs : fb_sm sh (nP σ) = 10000) (hz : z ≤ 10000)
    (hq : F (nI (lks (nP σ) sh z (nP σ) 0 0)) h) : OKi d mX9_likeliest [.ref 57, .int (nI z)] h F X := by
  have hP := V.p.2
  have go : ∀ f k S t : Nat, k + f = nP σ → LKI (nP σ) sh f S t → F (nI (lks (nP σ) sh z f S t)) h → E mX9_likeliest 1 0 0 7 [(0, .ref 57), (1, .int (nI z)), (2, .int (nI S)), (3, .int (nI t)), (4, .int (nI k))] [] h (Qi F) X := by
    intro f
    induction f with
    | zero =>
      intro k S t e I hF
      refine sgX9_likeliest_7 _ _ _ _ (Nat.le_refl _) hS ⟨fun _ => hF, fun _ => ⟨fun _ => hF, fun y => ?_⟩⟩
      have tl := ltk_le hs S
      rw [← I.2.1] at tl
      have y2 : ¬ z ≤ t := fun w => y (nI_le w (by omega))
      obtain ⟨p, _, hp', hf⟩ := I.bb hs hz y2
      have := fb_ct_pos.mpr ⟨p, hp', hf⟩
      have := I.1
      omega
    | succ f ih =>
      intro k S t e I hF
      have tl := ltk_le hs S
      rw [← I.2.1] at tl
      refine sgX9_likeliest_7 _ _ _ _ (Nat.le_refl _) hS ⟨fun y => absurd y (nI_ge (a := k) (b := 30) (by omega) (by omega)), fun _ => ⟨fun y => ?_, fun y => ?_⟩⟩
      · rw [lks, if_pos ((nI_leI (by omega) (by omega)).mp y)] at hF
        exact hF
      · have y2 : ¬ z ≤ t := fun w => y (nI_le w (by omega))
        obtain ⟨p, eb, hp', hf⟩ := I.bb hs hz y2
        rw [lks, if_neg y2, eb] at hF
        refine ok_greatest (S := S) (ok := fre S) (v := fun p => nI (sh p)) ⟨sa_61, by decide⟩ (by omega) hS V hp hv (fun j hj => ?_) ?_
        · have l : sh j ≤ 10000 := by
            have := fb_sm_part sh hj
            omega
          have : -1 < nI (sh j) := by
            rw [fa_lt, nI_toInt (by omega)]
            have : (-1 : Int32).toInt = -1 := by decide
            omega
          rw [decide_eq_true this, Bool.and_true]; rfl
        · rw [eb]
          refine ⟨fun w => absurd w (nI_neg (by omega)), fun _ => ?_⟩
          show vp_in (nI p) 30 ∧ E mX9_likeliest 1 0 0 7 [(0, .ref 57), (1, .int (nI z)), (2, .int (nI S ||| ((1 : Int32) <<< (nI p &&& 31)))), (3, .int (nI t + (h.1 61 (nI p).toNatClampNeg))), (4, .int (nI k + 1))] [] h (Qi F) X
          rw [nI_clamp (by omega), hv p hp', set_nI S (by omega), nI_add, nI_1]
          exact ⟨vin (by omega), ih (k + 1) _ _ (by omega) (I.nx hP hp' hf) hF⟩
  exact enX9_likeliest _ hd hS (go _ 0 0 0 (by omega) (LKI.st hs) hq)
theorem ok_likelyOf {F : Int32 → Hp → Prop} {i z : Nat} (hd : 7 ≤ d) (hS : Std h.2.2) (V : VS σ) (mc : MC σ h) (hi : i < nD σ) (hz : z ≤ 10000)
    (hq : ∀ q, Kp scm h q → q.1 91 0 = h.1 91 0 → F (nI (lks (nP σ) (shF σ i s) z (nP σ) 0 0)) q) : OKi d mX12_likelyOf [.ref 91, .int (nI i), .int s, .int (nI z)] h F X := by
  have hP := V.p.2
  have di := V.de hi
  have h0 : 0 < nP σ := by omega
  have hs := shF_sum V i s h0
  refine enX12_likelyOf _ _ _ hd hS (ok_layMap (by omega) hS V mc hi fun q k e0 hv => ?_)
  have e2 : q.1 91 2 = nI (nP σ) := by rw [(mc.km k).i 91 2]; exact V.p.1
  have go : ∀ f S t : Nat, LKI (nP σ) (shF σ i s) f S t → F (nI (lks (nP σ) (shF σ i s) z f S t)) q → E mX12_likelyOf 6 0 0 12 [(0, .ref 91), (3, .int (nI z)), (4, .int (nI S)), (5, .int (nI t))] [] q (Qi F) X := by
    intro f
    induction f with
    | zero =>
      intro S t I hF
      refine sgX12_likelyOf_12 _ _ _ (Nat.le_refl _) k.1 ⟨fun _ => hF, fun y => ?_⟩
      have tl := ltk_le hs S
      rw [← I.2.1] at tl
      have y2 : ¬ z ≤ t := fun w => y (nI_le w (by omega))
      obtain ⟨p, _, hp', hf⟩ := I.bb hs hz y2
      have := fb_ct_pos.mpr ⟨p, hp', hf⟩
      have := I.1
      omega
    | succ f ih =>
      intro S t I hF
      have tl := ltk_le hs S
      rw [← I.2.1] at tl
      refine sgX12_likelyOf_12 _ _ _ (Nat.le_refl _) k.1 ⟨fun y => ?_, fun y => ?_⟩
      · rw [lks, if_pos ((nI_leI (by omega) (by omega)).mp y)] at hF
        exact hF
      · have y2 : ¬ z ≤ t := fun w => y (nI_le w (by omega))
        obtain ⟨p, eb, hp', hf⟩ := I.bb hs hz y2
        rw [lks, if_neg y2, eb] at hF
        have inner : ∀ m j : Nat, j + m = nP σ → E mX12_likelyOf 6 0 0 24 [(0, .ref 91), (3, .int (nI z)), (4, .int (nI S)), (5, .int (nI t)), (6, .int (enc (bst (fre S) (fun p => nI (shF σ i s p)) j))), (7, .int (nI j))] [] q (Qi F) X := by
          intro m
          induction m with
          | zero =>
            intro j ej
            have : j = nP σ := by omega
            subst this
            refine sgX12_likelyOf_24 _ _ _ _ _ (Nat.le_refl _) k.1 ⟨fun _ => ?_, fun w => absurd (by rw [e2]; exact Int32.le_refl _) w⟩
            rw [eb]
            show vp_in (nI p) 30 ∧ E mX12_likelyOf 6 0 0 12 [(0, .ref 91), (3, .int (nI z)), (4, .int (nI S ||| ((1 : Int32) <<< (nI p &&& 31)))), (5, .int (nI t + (q.1 129 (nI p).toNatClampNeg)))] [] q (Qi F) X
            rw [nI_clamp (by omega), hv p hp', set_nI S (by omega), nI_add]
            exact ⟨vin (by omega), ih _ _ (I.nx hP hp' hf) hF⟩
          | succ m ih2 =>
            intro j ej
            have hj : j < nP σ := by omega
            have nx := ih2 (j + 1) (by omega)
            refine sgX12_likelyOf_24 _ _ _ _ _ (Nat.le_refl _) k.1 ⟨fun w => absurd w (by rw [e2]; exact nI_ge hj (by omega)), fun _ => ?_⟩
            rw [bt_shr (by omega), bt_nI (by omega), nI_1]
            refine ⟨fun w => ?_, fun w => ?_⟩
            · have fj : fre S j = true := by rw [fre, bI_0.mp w]; rfl
              cases e1 : bst (fre S) (fun p => nI (shF σ i s p)) j with
              | none =>
                rw [bst_n e1, fj, if_pos rfl] at nx
                exact ⟨fun _ => nx, fun w2 => absurd rfl w2⟩
              | some b =>
                have bi := bst_in e1
                rw [bst_s e1, fj, Bool.true_and] at nx
                refine ⟨fun w2 => absurd w2 (nI_neg (n := b) (by omega)), fun _ => ?_⟩
                show vp_in (nI j) 30 ∧ (vp_in (nI b) 30 ∧ _)
                have nb : ∀ {P : Int32 → Prop}, P (nI b) → P (enc (some b)) := fun z => z
                refine ⟨vin (by omega), vin (by omega), fun w2 => ?_, fun w2 => ?_⟩
                · have w2 : q.1 129 (nI j).toNatClampNeg ≤ q.1 129 (nI b).toNatClampNeg := w2
                  rw [nI_clamp (by omega), nI_clamp (by omega), hv j hj, hv b (by omega)] at w2
                  rw [decide_eq_false (Int32.not_lt.mpr w2), if_neg (by decide)] at nx
                  exact nx
                · have w2 : ¬ q.1 129 (nI j).toNatClampNeg ≤ q.1 129 (nI b).toNatClampNeg := w2
                  rw [nI_clamp (by omega), nI_clamp (by omega), hv j hj, hv b (by omega)] at w2
                  rw [decide_eq_true (Int32.not_le.mp w2), if_pos rfl] at nx
                  exact nx
            · have fj : fre S j = false := by rw [fre, bI_n0.mp w]; rfl
              cases e1 : bst (fre S) (fun p => nI (shF σ i s p)) j with
              | none =>
                rw [bst_n e1, fj, if_neg (by decide)] at nx
                exact nx
              | some b =>
                rw [bst_s e1, fj, Bool.false_and, if_neg (by decide)] at nx
                exact nx
        exact inner _ 0 (Nat.zero_add _)
  exact go _ 0 0 (LKI.st hs) (hq q k e0)
/-! share, likely -/
variable {a b p : Int32}
def cdShare (σ : Hp) (a s p : Int32) : Nat := if isD σ a = true ∧ isN p (nP σ) = true then (if isW s 0 3 = true then 0 else 2) else 1
def vShare (σ : Hp) (a s p : Int32) : Int32 := nI (shF σ a.toNatClampNeg s p.toNatClampNeg)
theorem ok_needPlace {F : Hp → Prop} {x : Int32} (hd : 7 ≤ d) (hS : Std h.2.2) (hm : h.1 1 1 = nI (nP σ)) (hq : isN x (nP σ) = true → F h) (hx : isN x (nP σ) = false → X nse h) : OKv d mX11_needPlace [.ref 0, .int x] h F X := by
  refine enX11_needPlace _ hd hS ⟨fun z => hx (isN_ng z), fun z => ?_⟩
  rw [hm]
  exact ⟨fun z2 => hq (by rw [isN_lt z, decide_eq_true z2]), fun z2 => hx (by rw [isN_lt z, decide_eq_false z2])⟩
theorem ok_shareC {F : Int32 → Hp → Prop} (hd : 8 ≤ d) (hS : Std h.2.2) (V : VS σ) (c : CS σ h) (hq : CR h (cdShare σ a s p) (vShare σ a s p) (t2 nse iae) F X) : OKi d mX11_share [.ref 0, .int a, .int s, .int p] h F X := by
  have hD := V.d.2
  have hP := V.p.2
  have no : ¬ (isD σ a = true ∧ isN p (nP σ) = true) → X nse h := fun z => by
    have e : cdShare σ a s p = 1 := if_neg z
    rw [e] at hq
    exact hq.2 (by decide) h (Kp.rf hS)
  refine enX11_share _ _ _ hd hS (ok_needDeed (by omega) hS V c.1 (fun h1 => ok_needPlace (by omega) hS c.2.1.1 (fun h2 => ok_needSoon (by omega) hS (fun h3 => ?_) fun h3 => ?_) fun h2 => no fun z => absurd z.2 (by rw [h2]; decide)) fun h1 => no fun z => absurd z.1 (by rw [h1]; decide))
  · have e : cdShare σ a s p = 0 := by rw [cdShare, if_pos ⟨h1, h2⟩, if_pos h3]
    rw [e] at hq
    obtain ⟨i, _, em, hi⟩ := isD_t V h1
    obtain ⟨j, hj, ej⟩ := isN_t (by omega) h2
    subst em ej
    refine ok_draw (by omega) hS V c hi fun q k hv => ⟨vin (by omega), ?_⟩
    have := hq.1 rfl q k
    rw [vShare, nI_clamp (by omega), nI_clamp (by omega)] at this
    rw [nI_clamp (by omega), hv j hj]
    exact this
  · have e : cdShare σ a s p = 2 := by rw [cdShare, if_pos ⟨h1, h2⟩, h3]; rfl
    rw [e] at hq
    exact hq.2 (by decide) h (Kp.rf hS)
theorem ok_shareM {F : Int32 → Hp → Prop} (hd : 7 ≤ d) (hS : Std h.2.2) (V : VS σ) (mc : MC σ h) (hq : MR h (cdShare σ a s p) (vShare σ a s p) F) : OKi d mX12_share [.ref 91, .int a, .int s, .int p] h F X := by
  have hD := V.d.2
  have hP := V.p.2
  have kk : Kp scm h (hI h 91 0 0) := k0 (Kp.rf hS)
  have no : ¬ (isD σ a = true ∧ isN p (nP σ) = true) → cdShare σ a s p = 1 := fun z => if_neg z
  refine enX12_share _ _ _ hd hS (ok_isDeedM (by omega) kk.1 V (mc.km kk) ⟨fun z => ok_failsM (n := 1) (by omega) kk (no fun y => absurd y.1 (by rw [bI_0.mp z]; decide)) (by decide) hq, fun z => ok_isPlaceM (by omega) kk.1 V (mc.km kk) ⟨fun z2 => ok_failsM (n := 1) (by omega) kk (no fun y => absurd y.2 (by rw [bI_0.mp z2]; decide)) (by decide) hq, fun z2 => ok_isWM (a := 0) (b := 3) rfl rfl (by omega) kk.1 ⟨fun z3 => ok_failsM (n := 2) (by omega) kk (by rw [cdShare, if_pos ⟨bI_n0.mp z, bI_n0.mp z2⟩, bI_0.mp z3]; rfl) (by decide) hq, fun z3 => ?_⟩⟩⟩)
  have h1 := bI_n0.mp z
  have h2 := bI_n0.mp z2
  have e : cdShare σ a s p = 0 := by rw [cdShare, if_pos ⟨h1, h2⟩, if_pos (bI_n0.mp z3)]
  rw [e] at hq
  obtain ⟨i, _, em, hi⟩ := isD_t V h1
  obtain ⟨j, hj, ej⟩ := isN_t (by omega) h2
  subst em ej
  refine ok_layMap (by omega) kk.1 V (mc.km kk) hi fun q k e0 hv => ⟨vin (by omega), hq q _ (kk.tr k) (by rw [e0, hI_k]; rfl) fun _ => ?_⟩
  rw [nI_clamp (by omega), hv j hj, vShare, nI_clamp (by omega), nI_clamp (by omega)]
def cdMap (σ : Hp) (a s b : Int32) : Nat := if isD σ a = true then (if isW s 0 3 = true ∧ isW b 1 10000 = true then 0 else 2) else 1
def vLikely (σ : Hp) (a s b : Int32) : Int32 := nI (lks (nP σ) (shF σ a.toNatClampNeg s) b.toNatClampNeg (nP σ) 0 0)
theorem isW_1n {x : Int32} {n : Nat} (hn : n < 2 ^ 31) (h : isW x 1 (nI n) = true) : ∃ j, j ≤ n ∧ x = nI j := by
  simp only [isW, Bool.and_eq_true, decide_eq_true_eq] at h
  have h0 : 0 ≤ x := by
    have := h.1
    rw [fa_le] at this ⊢
    have e1 : (1 : Int32).toInt = 1 := by decide
    have e0 : (0 : Int32).toInt = 0 := by decide
    omega
  obtain ⟨j, hj, e⟩ := nI_nat h0
  rw [e] at h
  exact ⟨j, (nI_leI hj hn).mp h.2, e⟩
theorem ok_needMap {F : Hp → Prop} (hd : 8 ≤ d) (hS : Std h.2.2) (V : VS σ) (c : CS σ h) (hq : cdMap σ a s b = 0 → F h) (hx : cdMap σ a s b ≠ 0 → X (t2 nse iae (cdMap σ a s b)) h) : OKv d mX11_needMap [.ref 0, .int a, .int s, .int b] h F X := by
  refine enX11_needMap _ _ _ hd hS (ok_needDeed (by omega) hS V c.1 (fun h1 => ?_) fun h1 => ?_)
  · have no : ¬ (isW s 0 3 = true ∧ isW b 1 10000 = true) → X iae h := fun z => by
      have e : cdMap σ a s b = 2 := by rw [cdMap, if_pos h1, if_neg z]
      rw [e] at hx
      exact hx (by decide)
    refine ok_needSoon (by omega) hS (fun h2 => ok_isW (a := 1) (b := 10000) rfl rfl (by omega) hS ⟨fun z => no fun y => absurd y.2 (by rw [bI_0.mp z]; decide), fun z => hq ?_⟩) fun h2 => no fun y => absurd y.1 (by rw [h2]; decide)
    rw [cdMap, if_pos h1, if_pos ⟨h2, bI_n0.mp z⟩]
  · have e : cdMap σ a s b = 1 := by rw [cdMap, h1]; rfl
    rw [e] at hx
    exact hx (by decide)
theorem cdMap_0 (e : cdMap σ a s b = 0) : isD σ a = true ∧ isW s 0 3 = true ∧ isW b 1 10000 = true := by
  rw [cdMap] at e
  by_cases h1 : isD σ a = true
  · rw [if_pos h1] at e
    by_cases h2 : isW s 0 3 = true ∧ isW b 1 10000 = true
    · exact ⟨h1, h2⟩
    · rw [if_neg h2] at e; omega
  · rw [if_neg h1] at e; omega
theorem ok_likelyC {F : Int32 → Hp → Prop} (hd : 9 ≤ d) (hS : Std h.2.2) (V : VS σ) (c : CS σ h) (hq : CR h (cdMap σ a s b) (vLikely σ a s b) (t2 nse iae) F X) : OKi d mX11_likely [.ref 0, .int a, .int s, .int b] h F X := by
  have hD := V.d.2
  have hP := V.p.2
  refine enX11_likely _ _ _ hd hS (ok_needMap (by omega) hS V c (fun e => ?_) fun e => hq.2 e h (Kp.rf hS))
  obtain ⟨h1, h2, h3⟩ := cdMap_0 e
  rw [e] at hq
  obtain ⟨i, _, em, hi⟩ := isD_t V h1
  obtain ⟨j, hj, ej⟩ := isW_1n (n := 10000) (by decide) h3
  subst em ej
  have di := V.de hi
  refine ok_draw (by omega) hS V c hi fun q k hv => ok_likeliest (by omega) k.1 V (c.kc k).2.1.1 hv (shF_sum V i s (by omega)) hj ?_
  have := hq.1 rfl q k
  rw [vLikely, nI_clamp (by omega), nI_clamp (by omega)] at this
  exact this
theorem ok_likelyM {F : Int32 → Hp → Prop} (hd : 8 ≤ d) (hS : Std h.2.2) (V : VS σ) (mc : MC σ h) (hq : MR h (cdMap σ a s b) (vLikely σ a s b) F) : OKi d mX12_likely [.ref 91, .int a, .int s, .int b] h F X := by
  have hD := V.d.2
  have kk : Kp scm h (hI h 91 0 0) := k0 (Kp.rf hS)
  refine enX12_likely _ _ _ hd hS (ok_isDeedM (by omega) kk.1 V (mc.km kk) ⟨fun z => ok_failsM (n := 1) (by omega) kk (by rw [cdMap, bI_0.mp z]; rfl) (by decide) hq, fun z => ?_⟩)
  have h1 := bI_n0.mp z
  have no : ¬ (isW s 0 3 = true ∧ isW b 1 10000 = true) → cdMap σ a s b = 2 := fun z => by rw [cdMap, if_pos h1, if_neg z]
  refine ok_isWM (a := 0) (b := 3) rfl rfl (by omega) kk.1 ⟨fun z2 => ok_failsM (n := 2) (by omega) kk (no fun y => absurd y.1 (by rw [bI_0.mp z2]; decide)) (by decide) hq, fun z2 => ok_isWM (a := 1) (b := 10000) rfl rfl (by omega) kk.1 ⟨fun z3 => ok_failsM (n := 2) (by omega) kk (no fun y => absurd y.2 (by rw [bI_0.mp z3]; decide)) (by decide) hq, fun z3 => ?_⟩⟩
  have e : cdMap σ a s b = 0 := by rw [cdMap, if_pos h1, if_pos ⟨bI_n0.mp z2, bI_n0.mp z3⟩]
  rw [e] at hq
  obtain ⟨i, _, em, hi⟩ := isD_t V h1
  obtain ⟨j, hj, ej⟩ := isW_1n (n := 10000) (by decide) (bI_n0.mp z3)
  subst em ej
  refine ok_likelyOf (by omega) kk.1 V (mc.km kk) hi hj fun q k e0 => hq q _ (kk.tr k) (by rw [e0, hI_k]; rfl) fun _ => ?_
  rw [vLikely, nI_clamp (by omega), nI_clamp (by omega)]
end LIKELY
