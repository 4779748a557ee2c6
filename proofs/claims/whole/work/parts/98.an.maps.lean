/-! the first of the greatest; maps -/
section MAPS
variable {σ h : Hp} {d : Nat} {X : String → Hp → Prop} {ok : Nat → Bool} {v : Nat → Int32}
def bst (ok : Nat → Bool) (v : Nat → Int32) : Nat → Option Nat
  | 0 => none
  | k + 1 => match bst ok v k with
    | none => if ok k = true then some k else none
    | some b => if (ok k && decide (v b < v k)) = true then some k else some b
def enc (o : Option Nat) : Int32 := match o with
  | none => -1
  | some b => nI b
def msv (v : Nat → Int32) (o : Option Nat) : Int32 := match o with
  | none => -1
  | some b => v b
theorem bst_n {k : Nat} (h : bst ok v k = none) : bst ok v (k + 1) = if ok k = true then some k else none := by rw [bst, h]
theorem bst_s {k b : Nat} (h : bst ok v k = some b) : bst ok v (k + 1) = if (ok k && decide (v b < v k)) = true then some k else some b := by rw [bst, h]
theorem bst_in : ∀ {k b : Nat}, bst ok v k = some b → b < k ∧ ok b = true
  | 0, b, h => by cases h
  | k + 1, b, h => by
    cases e : bst ok v k with
    | none =>
      rw [bst_n e] at h
      by_cases q : ok k = true
      · rw [if_pos q] at h
        cases h
        exact ⟨by omega, q⟩
      · rw [if_neg q] at h; cases h
    | some c =>
      have := bst_in e
      rw [bst_s e] at h
      by_cases q : (ok k && decide (v c < v k)) = true
      · rw [if_pos q] at h
        cases h
        simp only [Bool.and_eq_true] at q
        exact ⟨by omega, q.1⟩
      · rw [if_neg q] at h
        cases h
        exact ⟨by omega, this.2⟩
theorem bst_no : ∀ {k : Nat}, bst ok v k = none → ∀ j, j < k → ok j = false
  | 0, _, j, hj => absurd hj (Nat.not_lt_zero _)
  | k + 1, h, j, hj => by
    cases e : bst ok v k with
    | none =>
      rw [bst_n e] at h
      by_cases q : ok k = true
      · rw [if_pos q] at h; cases h
      · by_cases y : j = k
        · rw [y]; exact Bool.eq_false_iff.mpr q
        · exact bst_no e j (by omega)
    | some c =>
      rw [bst_s e] at h
      by_cases q : (ok k && decide (v c < v k)) = true
      · rw [if_pos q] at h; cases h
      · rw [if_neg q] at h; cases h
theorem bst_cg {ok' : Nat → Bool} {v' : Nat → Int32} : ∀ {k : Nat}, (∀ j, j < k → ok j = ok' j ∧ v j = v' j) → bst ok v k = bst ok' v' k
  | 0, _ => rfl
  | k + 1, h => by
    have ih := bst_cg (k := k) fun j hj => h j (by omega)
    have hk := h k (by omega)
    cases e : bst ok v k with
    | none =>
      rw [bst_n e, bst_n (ih ▸ e), hk.1]
    | some b =>
      have := bst_in e
      rw [bst_s e, bst_s (ih ▸ e), hk.1, hk.2, (h b (by omega)).2]
theorem ok_greatest {A S : Nat} {F : Int32 → Hp → Prop} (hA : SHP A = .inl (.int, 30) ∧ A < 147) (hd : 1 ≤ d) (hS : Std h.2.2) (V : VS σ) (hp : h.1 1 1 = nI (nP σ)) (hv : ∀ p, p < nP σ → h.1 A p = v p) (ho : ∀ p, p < nP σ → ok p = (!S.testBit p && decide (-1 < v p)))
    (hq : F (enc (bst ok v (nP σ))) h) : OKi d mX9_greatest [.ref 57, .ref A, .int (nI S)] h F X := by
  have hP := V.p.2
  have go : ∀ n k : Nat, k + n = nP σ → E mX9_greatest 0 0 0 8 [(0, .ref 57), (1, .ref A), (2, .int (nI S)), (3, .int (enc (bst ok v k))), (4, .int (msv v (bst ok v k))), (5, .int (nI k))] [] h (Qi F) X := by
    intro n
    induction n with
    | zero =>
      intro k e
      have : k = nP σ := by omega
      subst this
      exact sgX9_greatest_8 hA _ _ _ _ (Nat.le_refl _) hS ⟨fun _ => hq, fun z => absurd (by rw [hp]; exact Int32.le_refl _) z⟩
    | succ n ih =>
      intro k e
      have hk : k < nP σ := by omega
      have nx := ih (k + 1) (by omega)
      have hok := ho k hk
      have skip : bst ok v (k + 1) = bst ok v k → E mX9_greatest 0 0 0 8 [(0, .ref 57), (1, .ref A), (2, .int (nI S)), (3, .int (enc (bst ok v k))), (4, .int (msv v (bst ok v k))), (5, .int (nI (k + 1)))] [] h (Qi F) X := fun z => by
        rw [z] at nx; exact nx
      refine sgX9_greatest_8 hA _ _ _ _ (Nat.le_refl _) hS ⟨fun z => absurd z (by rw [hp]; exact nI_ge hk (by omega)), fun _ => ⟨vin (by omega), ?_⟩⟩
      rw [nI_clamp (by omega), hv k hk, nI_1 k, bt_shr (by omega), bt_nI (by omega)]
      have lt1 : ∀ b, bst ok v k = some b → -1 < v b := fun b hb' => by
        have i := bst_in hb'
        have := ho b (by omega)
        rw [i.2] at this
        have := this.symm
        rw [Bool.and_eq_true, decide_eq_true_eq] at this
        exact this.2
      refine ⟨fun z => skip ?_, fun z => ⟨fun z2 => ⟨vin (by omega), ?_⟩, fun z2 => skip ?_⟩⟩
      · cases e1 : bst ok v k with
        | none =>
          rw [e1] at z
          have z : v k ≤ -1 := z
          rw [bst_n e1, hok, decide_eq_false (Int32.not_lt.mpr z), Bool.and_false, if_neg (by decide)]
        | some b =>
          rw [e1] at z
          have z : v k ≤ v b := z
          rw [bst_s e1, decide_eq_false (Int32.not_lt.mpr z), Bool.and_false, if_neg (by decide)]
      · have tb := bI_0.mp z2
        rw [tb] at hok
        cases e1 : bst ok v k with
        | none =>
          rw [e1] at z
          have z : ¬ v k ≤ -1 := z
          rw [bst_n e1, hok, decide_eq_true (Int32.not_le.mp z), if_pos (show (!false && true) = true from rfl)] at nx
          exact nx
        | some b =>
          rw [e1] at z
          have z : ¬ v k ≤ v b := z
          have l1 := lt1 b e1
          have l2 : -1 < v k := by
            rw [fa_lt] at l1 ⊢
            rw [fa_le] at z
            omega
          rw [decide_eq_true l2] at hok
          rw [bst_s e1, hok, decide_eq_true (Int32.not_le.mp z), if_pos (show (!false && true && true) = true from rfl)] at nx
          exact nx
      · have tb := bI_n0.mp z2
        rw [tb] at hok
        have : ok k = false := hok
        cases e1 : bst ok v k with
        | none => rw [bst_n e1, this, if_neg (by decide)]
        | some b => rw [bst_s e1, this, Bool.false_and, if_neg (by decide)]
  exact enX9_greatest hA _ hd hS (go _ 0 (Nat.zero_add _))
/-- weights of a map, and its split -/
def wgt (σ : Hp) (i : Nat) (s : Int32) (p : Nat) : Nat := 1 + mvs σ (farI (dst σ (plc σ i) p)) s
def alW (σ : Hp) (i : Nat) (s : Int32) (n : Nat) : Nat := fb_sm (wgt σ i s) n
def sh0 (σ : Hp) (i : Nat) (s : Int32) (p : Nat) : Nat := 10000 * wgt σ i s p / alW σ i s (nP σ)
def rs0 (σ : Hp) (i : Nat) (s : Int32) (p : Nat) : Nat := 10000 * wgt σ i s p % alW σ i s (nP σ)
def lf0 (σ : Hp) (i : Nat) (s : Int32) (n : Nat) : Nat := 10000 - fb_sm (sh0 σ i s) n
abbrev SH : Type := (Nat → Nat) × (Nat → Int32)
def hdo1 (n : Nat) (s : SH) : SH := match bst (fun p => decide (-1 < s.2 p)) s.2 n with
  | none => s
  | some b => (fun p => if p = b then s.1 p + 1 else s.1 p, fun p => if p = b then -1 else s.2 p)
def hdo (n : Nat) (s : SH) : Nat → SH
  | 0 => s
  | k + 1 => hdo1 n (hdo n s k)
def hS0 (σ : Hp) (i : Nat) (s : Int32) : SH := (sh0 σ i s, fun p => nI (rs0 σ i s p))
def shF (σ : Hp) (i : Nat) (s : Int32) : Nat → Nat := (hdo (nP σ) (hS0 σ i s) (lf0 σ i s (nP σ))).1
theorem wgt_le (V : VS σ) (i : Nat) (s : Int32) (p : Nat) : 1 ≤ wgt σ i s p ∧ wgt σ i s p ≤ 121 := by
  have := sL_len V
  have h2 : mvs σ (farI (dst σ (plc σ i) p)) s ≤ (sL σ).length := fb_ct_le _ _
  unfold wgt; omega
theorem alW_le (V : VS σ) (i : Nat) (s : Int32) (n : Nat) : n ≤ alW σ i s n ∧ alW σ i s n ≤ n * 121 := by
  refine ⟨?_, fb_sm_bound fun k _ => (wgt_le V i s k).2⟩
  have : fb_sm (fun _ => 1) n ≤ alW σ i s n := fb_sm_le fun k _ => (wgt_le V i s k).1
  rw [fb_sm_const] at this; omega
theorem sh_sum (i : Nat) (s : Int32) : ∀ n, fb_sm (sh0 σ i s) n * alW σ i s (nP σ) + fb_sm (rs0 σ i s) n = 10000 * alW σ i s n
  | 0 => by
    show 0 * alW σ i s (nP σ) + 0 = 10000 * 0
    rw [Nat.zero_mul]
  | n + 1 => by
    have ih := sh_sum i s n
    have e := Nat.div_add_mod (10000 * wgt σ i s n) (alW σ i s (nP σ))
    have ih : fb_sm (sh0 σ i s) n * alW σ i s (nP σ) + fb_sm (rs0 σ i s) n = 10000 * fb_sm (wgt σ i s) n := ih
    rw [fb_sm_succ, fb_sm_succ, show alW σ i s (n + 1) = fb_sm (wgt σ i s) n + wgt σ i s n from rfl, Nat.add_mul, Nat.mul_add 10000]
    have e2 : sh0 σ i s n * alW σ i s (nP σ) + rs0 σ i s n = 10000 * wgt σ i s n := by
      rw [sh0, rs0, Nat.mul_comm]; exact e
    omega
theorem alW_mono (i : Nat) (s : Int32) {n m : Nat} (h : n ≤ m) : alW σ i s n ≤ alW σ i s m := by
  obtain ⟨k, rfl⟩ := Nat.exists_eq_add_of_le h
  exact fb_sm_mono _ _ _
theorem sh_le (V : VS σ) (i : Nat) (s : Int32) {n : Nat} (hn : n ≤ nP σ) (h0 : 0 < nP σ) : fb_sm (sh0 σ i s) n ≤ 10000 := by
  have a := sh_sum (σ := σ) i s n
  have b := alW_mono (σ := σ) i s hn
  have c := (alW_le V i s (nP σ)).1
  refine Nat.le_of_mul_le_mul_right (c := alW σ i s (nP σ)) ?_ (by omega)
  omega
theorem lf_lt (V : VS σ) (i : Nat) (s : Int32) (h0 : 0 < nP σ) : lf0 σ i s (nP σ) < nP σ := by
  have a := sh_sum (σ := σ) i s (nP σ)
  have c := (alW_le V i s (nP σ)).1
  have d1 := sh_le V i s (Nat.le_refl _) h0
  have hr : fb_sm (rs0 σ i s) (nP σ) < nP σ * alW σ i s (nP σ) := by
    have h1 : fb_sm (rs0 σ i s) (nP σ) ≤ nP σ * (alW σ i s (nP σ) - 1) := fb_sm_bound fun k _ => by
      have := Nat.mod_lt (10000 * wgt σ i s k) (y := alW σ i s (nP σ)) (by omega)
      unfold rs0; omega
    refine Nat.lt_of_le_of_lt h1 ?_
    exact Nat.mul_lt_mul_of_pos_left (by omega) h0
  have e : lf0 σ i s (nP σ) * alW σ i s (nP σ) = fb_sm (rs0 σ i s) (nP σ) := by
    rw [lf0, Nat.sub_mul]; omega
  exact Nat.lt_of_mul_lt_mul_right (a := alW σ i s (nP σ)) (by omega)
def okR (s : SH) (p : Nat) : Bool := decide (-1 < s.2 p)
theorem hdo1_n {n : Nat} {s : SH} (h : bst (okR s) s.2 n = none) : hdo1 n s = s := by
  have h' : bst (fun p => decide (-1 < s.2 p)) s.2 n = none := h
  rw [hdo1, h']
theorem hdo1_s {n b : Nat} {s : SH} (h : bst (okR s) s.2 n = some b) : hdo1 n s = (fun p => if p = b then s.1 p + 1 else s.1 p, fun p => if p = b then -1 else s.2 p) := by
  have h' : bst (fun p => decide (-1 < s.2 p)) s.2 n = some b := h
  rw [hdo1, h']
/-- while it is handed out some rest is left, and one more is given each time -/
theorem hdo_ct {n : Nat} {s : SH} (h0 : fb_ct (okR s) n = n) : ∀ k, k ≤ n → fb_ct (okR (hdo n s k)) n = n - k ∧ fb_sm (hdo n s k).1 n = fb_sm s.1 n + k
  | 0, _ => ⟨by rw [hdo, h0]; rfl, rfl⟩
  | k + 1, hk => by
    have ih := hdo_ct h0 k (by omega)
    cases e : bst (okR (hdo n s k)) (hdo n s k).2 n with
    | none =>
      have : fb_ct (okR (hdo n s k)) n = 0 := fb_ct_zero.mpr (bst_no e)
      omega
    | some b =>
      have i := bst_in e
      rw [hdo, hdo1_s e]
      refine ⟨?_, ?_⟩
      · have u := fb_ct_upd (okR (hdo n s k)) false i.1
        rw [i.2, if_pos rfl, if_neg (by decide)] at u
        have : fb_ct (okR (fun p => if p = b then (hdo n s k).1 p + 1 else (hdo n s k).1 p, fun p => if p = b then -1 else (hdo n s k).2 p)) n = fb_ct (fun p => if p = b then false else okR (hdo n s k) p) n := fb_ct_cong fun p _ => by
          show decide (-1 < (if p = b then (-1 : Int32) else (hdo n s k).2 p)) = (if p = b then false else okR (hdo n s k) p)
          by_cases y : p = b
          · rw [if_pos y, if_pos y]; rfl
          · rw [if_neg y, if_neg y]; rfl
        rw [this]; omega
      · have u := fb_sm_upd (hdo n s k).1 ((hdo n s k).1 b + 1) i.1
        have : fb_sm (fun p => if p = b then (hdo n s k).1 p + 1 else (hdo n s k).1 p) n = fb_sm (fun p => if p = b then (hdo n s k).1 b + 1 else (hdo n s k).1 p) n := fb_sm_cong fun p _ => by
          by_cases y : p = b
          · rw [if_pos y, if_pos y, y]
          · rw [if_neg y, if_neg y]
        show fb_sm (fun p => if p = b then (hdo n s k).1 p + 1 else (hdo n s k).1 p) n = _
        rw [this]; omega
theorem hS0_ct (V : VS σ) (i : Nat) (s : Int32) (h0 : 0 < nP σ) : fb_ct (okR (hS0 σ i s)) (nP σ) = nP σ := fb_ct_all.mpr fun p _ => by
  have hP := V.p.2
  have a := alW_le V i s (nP σ)
  have := Nat.mod_lt (10000 * wgt σ i s p) (y := alW σ i s (nP σ)) (by omega)
  rw [okR]
  refine decide_eq_true ?_
  show -1 < nI (rs0 σ i s p)
  rw [fa_lt, nI_toInt (by unfold rs0; omega)]
  have : (-1 : Int32).toInt = -1 := by decide
  omega
theorem hdo_le (V : VS σ) (i : Nat) (s : Int32) (h0 : 0 < nP σ) {k : Nat} (hk : k ≤ lf0 σ i s (nP σ)) {p : Nat} (hp : p < nP σ) : (hdo (nP σ) (hS0 σ i s) k).1 p ≤ 10000 := by
  have lf := lf_lt V i s h0
  have c := (hdo_ct (hS0_ct V i s h0) k (by omega)).2
  have d1 := sh_le V i s (Nat.le_refl _) h0
  have e : fb_sm (hS0 σ i s).1 (nP σ) = fb_sm (sh0 σ i s) (nP σ) := rfl
  have f := fb_sm_part (hdo (nP σ) (hS0 σ i s) k).1 hp
  have hl : lf0 σ i s (nP σ) = 10000 - fb_sm (sh0 σ i s) (nP σ) := rfl
  omega
theorem shF_sum (V : VS σ) (i : Nat) (s : Int32) (h0 : 0 < nP σ) : fb_sm (shF σ i s) (nP σ) = 10000 := by
  have lf := lf_lt V i s h0
  have c := (hdo_ct (hS0_ct V i s h0) (lf0 σ i s (nP σ)) (by omega)).2
  have d1 := sh_le V i s (Nat.le_refl _) h0
  have e : fb_sm (hS0 σ i s).1 (nP σ) = fb_sm (sh0 σ i s) (nP σ) := rfl
  have hl : lf0 σ i s (nP σ) = 10000 - fb_sm (sh0 σ i s) (nP σ) := rfl
  rw [shF]; omega
theorem SLc.fr {L : List (Nat × Nat)} {q : Hp} {M : List Nat} {fs : List (Nat × Nat)} (S : SLc L h) (f : Fr M fs h q) (h1 : inW M fs 57 2 = false := by rfl) (h2 : ∀ k, inW M fs 58 k = false ∧ inW M fs 59 k = false := by exact fun _ => ⟨rfl, rfl⟩) : SLc L q :=
  ⟨by rw [f.i 57 2 h1]; exact S.1, fun i hi => by rw [f.i 58 i (h2 i).1, f.i 59 i (h2 i).2]; exact S.2 i hi⟩
theorem SLm.fr {L : List (Nat × Nat)} {q : Hp} {M : List Nat} {fs : List (Nat × Nat)} (S : SLm L h) (f : Fr M fs h q) (h1 : inW M fs 91 54 = false := by rfl) (h2 : ∀ k, inW M fs 127 k = false ∧ inW M fs 128 k = false := by exact fun _ => ⟨rfl, rfl⟩) : SLm L q :=
  ⟨by rw [f.i 91 54 h1]; exact S.1, fun i hi => by rw [f.i 127 i (h2 i).1, f.i 128 i (h2 i).2]; exact S.2 i hi⟩
theorem quo_nI {a b : Nat} (ha : a < 2 ^ 31) (h0 : 0 < b) (hb' : b < 2 ^ 31) : quo (nI a) (nI b) = nI (a / b) := by
  rw [quo, if_neg (nI_nle h0 hb'), pk_div ha h0 hb']
theorem rest_nI {a b : Nat} (ha : a < 2 ^ 31) (h0 : 0 < b) (hb' : b < 2 ^ 31) : nI a - nI (a / b) * nI b = nI (a % b) := by
  rw [← pk_div ha h0 hb']; exact pk_rem ha h0 hb'
theorem lit_w (n : Nat) : (10000 : Int32) * nI n = nI (10000 * n) := by rw [lit_nI 10000, pk_mul]
theorem lit_1w (n : Nat) : (1 : Int32) + nI n = nI (1 + n) := by rw [lit_nI 1, nI_add]
theorem lf_s (V : VS σ) (i : Nat) (s : Int32) (h0 : 0 < nP σ) {p : Nat} (hp : p < nP σ) : nI (lf0 σ i s p) - nI (sh0 σ i s p) = nI (lf0 σ i s (p + 1)) := by
  have d1 := sh_le V i s (n := p + 1) (by omega) h0
  rw [fb_sm_succ] at d1
  rw [pk_sub (by unfold lf0; omega)]
  congr 1
  rw [lf0, lf0, fb_sm_succ]; omega
end MAPS
