/-! the reference's whole state; what calls leave alone -/
/-- with what is used while a text is read -/
def sct (c k : Nat) : Bool := scm c k || (decide (c = 137) || decide (c = 139) || (decide (c = 91) && ((decide (68 ≤ k) && decide (k ≤ 74)) || decide (k = 77) || decide (k = 78))))
theorem sct_m {c k : Nat} (h : sct c k = false) : scm c k = false := by
  rw [sct, Bool.or_eq_false_iff] at h; exact h.1
def MA (σ h : Hp) : Prop := ∀ c k, 91 ≤ c → sct c k = false → h.1 c k = σ.1 c k ∧ h.2.1 c k = σ.2.1 c k
theorem core_ge {c k : Nat} (z : core c k = true) : 91 ≤ c := by
  simp only [core, Bool.or_eq_true, Bool.and_eq_true, beq_iff_eq, List.contains_eq_mem, decide_eq_true_eq] at z
  obtain z | z := z
  · omega
  · revert z; revert c; decide
section MAS
variable {σ h q : Hp}
theorem MA.rf : MA σ σ := fun _ _ _ _ => ⟨rfl, rfl⟩
theorem core_sct {c k : Nat} (z : core c k = true) : sct c k = false := by
  rw [sct, core_scm z, Bool.false_or]
  simp only [core, Bool.or_eq_true, Bool.and_eq_true, beq_iff_eq, List.contains_eq_mem, decide_eq_true_eq] at z
  obtain ⟨rfl, z⟩ | z := z
  · revert z; revert k; decide
  · have : c ≤ 111 ∧ 92 ≤ c := by revert z; revert c; decide
    simp only [Bool.or_eq_false_iff, Bool.and_eq_false_iff, decide_eq_false_iff_not]
    exact ⟨⟨by omega, by omega⟩, Or.inl (by omega)⟩
theorem MA.mc (m : MA σ h) : MC σ h := fun c k z => (m c k (core_ge z) (core_sct z)).1
theorem MA.km (m : MA σ h) (k : Kp scm h q) : MA σ q := fun c j hc z => ⟨(k.2 c j (sct_m z)).1.trans (m c j hc z).1, (k.2 c j (sct_m z)).2.trans (m c j hc z).2⟩
theorem MA.kc (m : MA σ h) (k : Kp scr h q) : MA σ q := fun c j hc z => ⟨(k.2 c j (scr_hi hc)).1.trans (m c j hc z).1, (k.2 c j (scr_hi hc)).2.trans (m c j hc z).2⟩
theorem MA.i (m : MA σ h) (c k : Nat) (h1 : 91 ≤ c := by decide) (h2 : sct c k = false := by rfl) : h.1 c k = σ.1 c k := (m c k h1 h2).1
theorem MA.l (m : MA σ h) (c k : Nat) (h1 : 91 ≤ c := by decide) (h2 : sct c k = false := by rfl) : h.2.1 c k = σ.2.1 c k := (m c k h1 h2).2
theorem MA.hI (m : MA σ h) (c k : Nat) (v : Int32) : MA (hI σ c k v) (hI h c k v) := fun d j hd z => by
  refine ⟨?_, (m d j hd z).2⟩
  by_cases y : d = c
  · subst y; rw [hI_if, hI_if, (m d j hd z).1]
  · rw [hI_c y, hI_c y, (m d j hd z).1]
theorem hL_if {g : Hp} {c k j : Nat} {v : Int64} : (hL g c k v).2.1 c j = if j = k then v else g.2.1 c j := by
  by_cases y : j = k
  · rw [y, hL_k, if_pos rfl]
  · rw [hL_j y, if_neg y]
theorem MA.hL (m : MA σ h) (c k : Nat) (v : Int64) : MA (hL σ c k v) (hL h c k v) := fun d j hd z => by
  refine ⟨(m d j hd z).1, ?_⟩
  by_cases y : d = c
  · subst y; rw [hL_if, hL_if, (m d j hd z).2]
  · rw [hL_c y, hL_c y, (m d j hd z).2]
/-- a call of the reference leaves the class's cells alone, and the other way -/
def KM (h q : Hp) : Prop := Std q.2.2 ∧ ∀ c k, c < 91 → q.1 c k = h.1 c k ∧ q.2.1 c k = h.2.1 c k
def KC (h q : Hp) : Prop := Std q.2.2 ∧ ∀ c k, 91 ≤ c → q.1 c k = h.1 c k ∧ q.2.1 c k = h.2.1 c k
theorem KM.rf (hS : Std h.2.2) : KM h h := ⟨hS, fun _ _ _ => ⟨rfl, rfl⟩⟩
theorem KC.rf (hS : Std h.2.2) : KC h h := ⟨hS, fun _ _ _ => ⟨rfl, rfl⟩⟩
theorem KM.tr {r : Hp} (a : KM h q) (b : KM q r) : KM h r := ⟨b.1, fun c k z => ⟨(b.2 c k z).1.trans (a.2 c k z).1, (b.2 c k z).2.trans (a.2 c k z).2⟩⟩
theorem KC.tr {r : Hp} (a : KC h q) (b : KC q r) : KC h r := ⟨b.1, fun c k z => ⟨(b.2 c k z).1.trans (a.2 c k z).1, (b.2 c k z).2.trans (a.2 c k z).2⟩⟩
theorem Kp.m (k : Kp scm h q) : KM h q := ⟨k.1, fun c j z => k.2 c j (scm_lo z)⟩
theorem Kp.c (k : Kp scr h q) : KC h q := ⟨k.1, fun c j z => k.2 c j (scr_hi z)⟩
theorem Fr.m {L : List Nat} {fs : List (Nat × Nat)} (f : Fr L fs h q) (hS : Std h.2.2) (h1 : ∀ c ∈ L, 91 ≤ c := by decide) (h2 : ∀ p ∈ fs, 91 ≤ p.1 := by decide) : KM h q := ⟨f.sd hS, fun c k z => f.2 c k (by
  simp only [inW, Bool.or_eq_false_iff, List.contains_eq_mem, decide_eq_false_iff_not]
  exact ⟨fun y => absurd (h1 c y) (by omega), fun y => absurd (h2 _ y) (by simp only; omega)⟩)⟩
theorem Fr.c {L : List Nat} {fs : List (Nat × Nat)} (f : Fr L fs h q) (hS : Std h.2.2) (h1 : ∀ c ∈ L, c < 91 := by decide) (h2 : ∀ p ∈ fs, p.1 < 91 := by decide) : KC h q := ⟨f.sd hS, fun c k z => f.2 c k (by
  simp only [inW, Bool.or_eq_false_iff, List.contains_eq_mem, decide_eq_false_iff_not]
  exact ⟨fun y => absurd (h1 c y) (by omega), fun y => absurd (h2 _ y) (by simp only; omega)⟩)⟩
theorem MA.cc (m : MA σ h) (k : KC h q) : MA σ q := fun c j hc z => ⟨(k.2 c j hc).1.trans (m c j hc z).1, (k.2 c j hc).2.trans (m c j hc z).2⟩
end MAS
/-! maps that are kept -/
section KEEP
variable {σ h : Hp} {d : Nat} {X : String → Hp → Prop} {a s b : Int32}
def CMp (σ h : Hp) : Prop := h.1 57 8 = nI (nK σ) ∧ ∀ k, k < nK σ → h.1 63 k = σ.1 131 k ∧ h.1 64 k = σ.1 132 k
def rcX (is : Bool) : Int32 := if is then 1 else 2
def rcP (σ : Hp) (is : Bool) (k : Nat) : Bool := decide (σ.1 132 k = rcX is)
def vRecord (σ : Hp) (is : Bool) : Int32 := nI (fb_ct (rcP σ is) (nK σ))
theorem ok_recordC {F : Int32 → Hp → Prop} {is : Bool} (hd : 4 ≤ d) (hS : Std h.2.2) (V : VS σ) (c : CMp σ h) (hq : F (vRecord σ is) h) : OKi d mX11_record [.ref 0, .int (bI is)] h F X := by
  have hK := V.k.2
  have go : ∀ n k : Nat, k + n = nK σ → E mX9_endedBy 0 0 0 4 [(0, .ref 57), (1, .int (rcX is)), (2, .int (nI (fb_ct (rcP σ is) k))), (3, .int (nI k))] [] h (Qi F) X := by
    intro n
    induction n with
    | zero =>
      intro k e
      have : k = nK σ := by omega
      subst this
      exact sgX9_endedBy_4 _ _ _ (Nat.le_refl _) hS ⟨fun _ => hq, fun y => absurd (by rw [c.1]; exact Int32.le_refl _) y⟩
    | succ n ih =>
      intro k e
      have hk : k < nK σ := by omega
      have nx := ih (k + 1) (by omega)
      rw [fb_ct_succ] at nx
      refine sgX9_endedBy_4 _ _ _ (Nat.le_refl _) hS ⟨fun y => absurd y (by rw [c.1]; exact nI_ge hk (by omega)), fun _ => ?_⟩
      rw [nI_clamp (by omega), (c.2 k hk).2, nI_1 k]
      refine ⟨vin (by omega), fun y => ?_, fun y => ?_⟩
      · rw [rcP, decide_eq_true y, if_pos rfl, ← nI_1] at nx; exact nx
      · rw [rcP, decide_eq_false y, if_neg (by decide), Nat.add_zero] at nx; exact nx
  refine OKi.up hd (oki_of 3 (by decide +kernel) (Nat.le_of_ble_eq_true rfl) (sgX11_record_0 _ (Nat.le_of_ble_eq_true rfl) hS ?_))
  cases is
  · exact ⟨fun _ => enX9_endedBy _ (by omega) hS (go _ 0 (Nat.zero_add _)), fun y => absurd rfl y⟩
  · exact ⟨fun y => absurd y (by decide), fun _ => enX9_endedBy _ (by omega) hS (go _ 0 (Nat.zero_add _))⟩
theorem ok_recordM {F : Int32 → Hp → Prop} {is : Bool} (hd : 4 ≤ d) (hS : Std h.2.2) (V : VS σ) (m : MA σ h) (hq : ∀ q, Kp scm h q → F (vRecord σ is) q) : OKi d mX12_record [.ref 91, .int (bI is)] h F X := by
  have hK := V.k.2
  have kk : Kp scm h (hI h 91 0 0) := k0 (Kp.rf hS)
  have m2 := m.km kk
  have e8 : (hI h 91 0 0).1 91 8 = nI (nK σ) := by rw [m2.i 91 8]; exact V.k.1
  have go : ∀ n k : Nat, k + n = nK σ → E mX12_record 3 0 0 9 [(0, .ref 91), (1, .int (bI is)), (2, .int (nI (fb_ct (rcP σ is) k))), (3, .int (nI k))] [] (hI h 91 0 0) (Qi F) X := by
    intro n
    induction n with
    | zero =>
      intro k e
      have : k = nK σ := by omega
      subst this
      exact sgX12_record_9 _ _ _ (Nat.le_of_ble_eq_true rfl) kk.1 ⟨fun _ => hq _ kk, fun y => absurd (by rw [e8]; exact Int32.le_refl _) y⟩
    | succ n ih =>
      intro k e
      have hk : k < nK σ := by omega
      have nx := ih (k + 1) (by omega)
      rw [fb_ct_succ] at nx
      refine sgX12_record_9 _ _ _ (Nat.le_of_ble_eq_true rfl) kk.1 ⟨fun y => absurd y (by rw [e8]; exact nI_ge hk (by omega)), fun _ => ?_⟩
      rw [nI_clamp (by omega), m2.i 132, nI_1 k]
      cases is
      · refine ⟨vin (by omega), fun _ => ⟨fun y => ?_, fun y => ?_⟩, fun y => absurd rfl y⟩
        · have y : σ.1 132 k = rcX false := y
          rw [rcP, decide_eq_true y, if_pos rfl, ← nI_1] at nx; exact nx
        · have y : ¬ σ.1 132 k = rcX false := y
          rw [rcP, decide_eq_false y, if_neg (by decide), Nat.add_zero] at nx
          rw [Int32.add_zero]; exact nx
      · refine ⟨vin (by omega), fun y => absurd y (by decide), fun _ => ⟨fun y => ?_, fun y => ?_⟩⟩
        · have y : σ.1 132 k = rcX true := y
          rw [rcP, decide_eq_true y, if_pos rfl, ← nI_1] at nx; exact nx
        · have y : ¬ σ.1 132 k = rcX true := y
          rw [rcP, decide_eq_false y, if_neg (by decide), Nat.add_zero] at nx
          rw [Int32.add_zero]; exact nx
  exact OKi.up hd (oki_of 3 (by decide +kernel) (Nat.le_of_ble_eq_true rfl) (sgX12_record_0 _ (Nat.le_of_ble_eq_true rfl) hS (go _ 0 (Nat.zero_add _))))
/-- a map more -/
def stKeep (σ : Hp) (v : Int32) : Hp := hI (hI (hI σ 131 (nK σ) v) 132 (nK σ) 0) 91 8 (nI (nK σ + 1))
theorem stKeep_n {v : Int32} (hk : nK σ < 20) : nK (stKeep σ v) = nK σ + 1 := by
  have : (stKeep σ v).1 91 8 = nI (nK σ + 1) := hI_k
  rw [nK, this, nI_clamp (by omega)]
theorem ok_keepMap {F : Int32 → Hp → Prop} {v : Int32} (hd : 1 ≤ d) (hS : Std h.2.2) (V : VS σ) (c : CMp σ h) (h0 : nK σ = 20 → F (-1) h) (h1 : nK σ < 20 → ∀ q, Fr [63, 64] [(57, 8)] h q → CMp (stKeep σ v) q → F (nI (nK σ)) q) : OKi d mX9_keepMap [.ref 57, .int v] h F X := by
  have hK := V.k.2
  refine enX9_keepMap _ hd hS ?_
  rw [c.1, lit_nI 20, nI_ltI (b := 20) (by omega) (by omega)]
  refine ⟨fun z => ⟨vin (by omega), vin (by omega), ?_⟩, fun z => h0 (by omega)⟩
  rw [nI_clamp (by omega), nI_1]
  refine h1 z _ (Fr.tr (Fr.tr Fr.pI Fr.pI) Fr.pI) ⟨by rw [hI_k, stKeep_n z], fun k hk => ?_⟩
  rw [stKeep_n z] at hk
  rw [hI_c (by decide), hI_c (by decide), hI_if, hI_c (by decide), hI_if, hI_c (by decide), stKeep, hI_c (by decide), hI_c (by decide), hI_if, hI_c (by decide), hI_if, hI_c (by decide)]
  by_cases y : k = nK σ
  · rw [if_pos y, if_pos y, if_pos y, if_pos y]; exact ⟨rfl, rfl⟩
  · rw [if_neg y, if_neg y, if_neg y, if_neg y]; exact c.2 k (by omega)
def vKeep (σ : Hp) : Int32 := if nK σ < 20 then nI (nK σ) else -1
def nxKeep (σ : Hp) (a s b : Int32) : Hp := if cdMap σ a s b = 0 ∧ nK σ < 20 then stKeep σ (vLikely σ a s b) else σ
/-- a Kp by the class, or what a write of some cells adds -/
theorem ok_keepC {F : Int32 → Hp → Prop} (hd : 9 ≤ d) (hS : Std h.2.2) (V : VS σ) (c : CS σ h) (cm : CMp σ h)
    (hq : cdMap σ a s b = 0 → ∀ q r, Kp scr h q → Fr [63, 64] [(57, 8)] q r → CMp (nxKeep σ a s b) r → F (vKeep σ) r) (hx : cdMap σ a s b ≠ 0 → X (t2 nse iae (cdMap σ a s b)) h) : OKi d mX11_keep [.ref 0, .int a, .int s, .int b] h F X := by
  have hD := V.d.2
  have hP := V.p.2
  have hK := V.k.2
  refine enX11_keep _ _ _ hd hS (ok_needMap (by omega) hS V c (fun e => ?_) hx)
  have hq := hq e
  obtain ⟨h1, h2, h3⟩ := cdMap_0 e
  obtain ⟨i, _, em, hi⟩ := isD_t V h1
  obtain ⟨j, hj, ej⟩ := isW_1n (n := 10000) (by decide) h3
  have ev : vLikely σ a s b = nI (lks (nP σ) (shF σ i s) j (nP σ) 0 0) := by rw [vLikely, em, ej, nI_clamp (by omega), nI_clamp (by omega)]
  rw [nxKeep, ev] at hq
  subst em ej
  have di := V.de hi
  refine ok_draw (by omega) hS V c hi fun q k hv => ok_likeliest (by omega) k.1 V (c.kc k).2.1.1 hv (shF_sum V i s (by omega)) hj ?_
  have cq : CMp σ q := ⟨by rw [k.i 57 8]; exact cm.1, fun x hx => by rw [k.i 63 x, k.i 64 x]; exact cm.2 x hx⟩
  refine ok_keepMap (by omega) k.1 V cq (fun z => ?_) fun z r f cr => ?_
  · have := hq q q k Fr.rf
    rw [if_neg (fun y => absurd y.2 (by omega)), vKeep, if_neg (by omega)] at this
    exact this cq
  · have := hq q r k f
    rw [if_pos ⟨e, z⟩, vKeep, if_pos z] at this
    exact this cr
theorem ok_keepM {F : Int32 → Hp → Prop} (hd : 8 ≤ d) (hS : Std h.2.2) (V : VS σ) (m : MA σ h)
    (hq : ∀ q r, KM h q → MA (nxKeep σ a s b) q → q.1 91 36 = h.1 91 36 → q.1 91 0 = nI (cdMap σ a s b) → (cdMap σ a s b = 0 → r = vKeep σ) → F r q) : OKi d mX12_keep [.ref 91, .int a, .int s, .int b] h F X := by
  have hD := V.d.2
  have hK := V.k.2
  have mc := m.mc
  have kk : Kp scm h (hI h 91 0 0) := k0 (Kp.rf hS)
  have no : ∀ n : Nat, cdMap σ a s b = n → n ≠ 0 → MR h n 0 F := fun n e hn q r k e0 hr => hq q r k.m (by
    rw [nxKeep, if_neg (fun y => hn (e.symm.trans y.1))]; exact m.km k) (k.i 91 36) (by rw [e]; exact e0) fun y => absurd (e.symm.trans y) hn
  refine enX12_keep _ _ _ hd hS (ok_isDeedM (by omega) kk.1 V (mc.km kk) ⟨fun z => ok_failsM (n := 1) (by omega) kk rfl (by decide) (no 1 (by rw [cdMap, bI_0.mp z]; rfl) (by decide)), fun z => ?_⟩)
  have h1 := bI_n0.mp z
  have n2 : ¬ (isW s 0 3 = true ∧ isW b 1 10000 = true) → cdMap σ a s b = 2 := fun z => by rw [cdMap, if_pos h1, if_neg z]
  refine ok_isWM (a := 0) (b := 3) rfl rfl (by omega) kk.1 ⟨fun z2 => ok_failsM (n := 2) (by omega) kk rfl (by decide) (no 2 (n2 fun y => absurd y.1 (by rw [bI_0.mp z2]; decide)) (by decide)), fun z2 => ok_isWM (a := 1) (b := 10000) rfl rfl (by omega) kk.1 ⟨fun z3 => ok_failsM (n := 2) (by omega) kk rfl (by decide) (no 2 (n2 fun y => absurd y.2 (by rw [bI_0.mp z3]; decide)) (by decide)), fun z3 => ?_⟩⟩
  have e : cdMap σ a s b = 0 := by rw [cdMap, if_pos h1, if_pos ⟨bI_n0.mp z2, bI_n0.mp z3⟩]
  obtain ⟨i, _, em, hi⟩ := isD_t V h1
  obtain ⟨j, hj, ej⟩ := isW_1n (n := 10000) (by decide) (bI_n0.mp z3)
  have ev : vLikely σ a s b = nI (lks (nP σ) (shF σ i s) j (nP σ) 0 0) := by rw [vLikely, em, ej, nI_clamp (by omega), nI_clamp (by omega)]
  rw [(m.km kk).i 91 8, V.k.1, lit_nI 20, nI_eq (b := 20) (by omega) (by omega)]
  rw [e, nxKeep, ev, vKeep] at hq
  subst em ej
  refine ⟨fun z4 => ?_, fun z4 => ok_likelyOf (by omega) kk.1 V (mc.km kk) hi hj fun q k e0 => ?_⟩
  · rw [if_neg (fun y => absurd y.2 (by omega)), if_neg (by omega)] at hq
    exact hq _ _ kk.m (m.km kk) (kk.i 91 36) hI_k fun _ => rfl
  · have hk2 : nK σ < 20 := by omega
    rw [if_pos ⟨e, hk2⟩, if_pos hk2] at hq
    have k2 := kk.tr k
    have mq := m.km k2
    rw [mq.i 91 8, V.k.1, nI_clamp (by omega), nI_1, nI_m1]
    refine ⟨vin (by omega), vin (by omega), hq _ _ (k2.m.tr (Fr.m (L := [131, 132]) (fs := [(91, 8)]) (Fr.tr (Fr.tr Fr.pI Fr.pI) Fr.pI) k2.1)) (((mq.hI _ _ _).hI _ _ _).hI _ _ _) ?_ ?_ fun _ => rfl⟩
    · rw [hI_j (by decide), hI_c (by decide), hI_c (by decide)]; exact k2.i 91 36
    · rw [hI_j (by decide), hI_c (by decide), hI_c (by decide), e0, hI_k]; rfl
/-! came -/
def cdCame (σ : Hp) (m a : Int32) : Nat := if isN m (nK σ) = true ∧ isD σ a = true then (if σ.1 132 m.toNatClampNeg = 0 then 0 else 2) else 1
def vCame (σ : Hp) (m a : Int32) : Bool := bt (σ.1 131 m.toNatClampNeg) (plc σ a.toNatClampNeg)
def nxCame (σ : Hp) (m a : Int32) : Hp := if cdCame σ m a = 0 then hI σ 132 m.toNatClampNeg (if vCame σ m a = true then 1 else 2) else σ
theorem ok_cameC {F : Int32 → Hp → Prop} {m : Int32} (hd : 8 ≤ d) (hS : Std h.2.2) (V : VS σ) (c : CS σ h) (cm : CMp σ h)
    (hq : cdCame σ m a = 0 → ∀ q, Fr [64] [] h q → CMp (nxCame σ m a) q → F (bI (vCame σ m a)) q) (hx : cdCame σ m a ≠ 0 → X (t2 nse ise (cdCame σ m a)) h) : OKi d mX11_came [.ref 0, .int m, .int a] h F X := by
  have hD := V.d.2
  have hP := V.p.2
  have hK := V.k.2
  have no : ¬ (isN m (nK σ) = true ∧ isD σ a = true) → X nse h := fun z => by
    have e : cdCame σ m a = 1 := if_neg z
    rw [e] at hx
    exact hx (by decide)
  refine OKi.up hd (oki_of 7 (by decide +kernel) (Nat.le_of_ble_eq_true rfl) (sgX11_came_0 _ _ (Nat.le_of_ble_eq_true rfl) hS ⟨fun z => no fun y => absurd y.1 (by rw [isN_ng z]; decide), fun z => ?_⟩))
  rw [cm.1]
  refine ⟨fun z2 => ok_needDeed (by omega) hS V c.1 (fun h2 => ?_) fun h2 => no fun y => absurd y.2 (by rw [h2]; decide), fun z2 => no fun y => absurd y.1 (by rw [isN_lt z, decide_eq_false z2]; decide)⟩
  have h1 : isN m (nK σ) = true := by rw [isN_lt z, decide_eq_true z2]
  obtain ⟨k, hk, ek⟩ := isN_t (by omega) h1
  obtain ⟨i, _, em, hi⟩ := isD_t V h2
  have di := V.de hi
  have ec : cdCame σ m a = if σ.1 132 k = 0 then 0 else 2 := by rw [cdCame, if_pos ⟨h1, h2⟩, ek, nI_clamp (by omega)]
  have ev : vCame σ m a = bt (σ.1 131 k) (plc σ i) := by rw [vCame, ek, em, nI_clamp (by omega), nI_clamp (by omega)]
  have en : m.toNatClampNeg = k := by rw [ek, nI_clamp (by omega)]
  rw [ec] at hx
  rw [nxCame, ev, ec, en] at hq
  subst ek em
  rw [nI_clamp (by omega), (cm.2 k hk).2]
  refine ⟨vin (by omega), fun z3 => ⟨vin (by omega), ?_⟩, fun z3 => ?_⟩
  · rw [if_pos z3, if_pos rfl] at hq
    have hq := hq rfl
    rw [nI_clamp (by omega), (c.1.de hi).1, di.1.1]
    refine enX9_endMap _ _ (by omega) hS ?_
    rw [nI_clamp (by omega), (cm.2 k hk).1, bt_shr (by omega)]
    have cw : ∀ v, CMp (hI σ 132 k v) (hI h 64 k v) := fun v => by
      have en : nK (hI σ 132 k v) = nK σ := by rw [nK, nK, hI_c (by decide)]
      refine ⟨by rw [hI_c (by decide), en]; exact cm.1, fun x hx => ?_⟩
      rw [en] at hx
      rw [hI_c (by decide), hI_c (by decide), hI_if, hI_if]
      have := cm.2 x hx
      exact ⟨this.1, by split; rfl; exact this.2⟩
    refine ⟨vin (by omega), fun y => ⟨fun _ => ⟨vin (by omega), Or.inl rfl, ?_⟩, fun w => absurd rfl w⟩, fun y => ⟨fun w => absurd w (by decide), fun _ => ⟨vin (by omega), Or.inr rfl, ?_⟩⟩⟩
    · rw [bI_0.mp y, if_neg (by decide)] at hq
      exact hq _ Fr.pI (cw _)
    · rw [bI_n0.mp y, if_pos rfl] at hq
      exact hq _ Fr.pI (cw _)
  · rw [if_neg z3] at hx
    exact hx (by decide)
theorem ok_cameM {F : Int32 → Hp → Prop} {m : Int32} (hd : 4 ≤ d) (hS : Std h.2.2) (V : VS σ) (ma : MA σ h)
    (hq : ∀ q r, KM h q → MA (nxCame σ m a) q → q.1 91 36 = h.1 91 36 → q.1 91 0 = nI (cdCame σ m a) → (cdCame σ m a = 0 → r = bI (vCame σ m a)) → F r q) : OKi d mX12_came [.ref 91, .int m, .int a] h F X := by
  have hD := V.d.2
  have hP := V.p.2
  have hK := V.k.2
  have no : ∀ n : Nat, cdCame σ m a = n → n ≠ 0 → F 0 (hI h 91 0 (nI n)) := fun n e hn => by
    have kk : Kp scm h (hI h 91 0 (nI n)) := k0 (Kp.rf hS)
    exact hq _ _ kk.m (by rw [nxCame, if_neg (by omega)]; exact ma.km kk) (kk.i 91 36) (by rw [hI_k, e]) fun y => absurd (e.symm.trans y) hn
  have s25 : ¬ (isN m (nK σ) = true ∧ isD σ a = true) → E mX12_came 3 0 0 25 [(0, .ref 91), (1, .int m), (2, .int a)] [.ref 91] h (Qi F) X := fun z => by
    refine sgX12_came_25 _ _ (Nat.le_of_ble_eq_true rfl) hS (sgX12_came_43 _ _ _ (Nat.le_of_ble_eq_true rfl) hS ⟨fun y => absurd y (by decide), fun _ => no 1 (if_neg z) (by decide)⟩)
  refine OKi.up hd (oki_of 3 (by decide +kernel) (Nat.le_of_ble_eq_true rfl) (sgX12_came_0 _ _ (Nat.le_of_ble_eq_true rfl) hS ?_))
  rw [ma.i 91 8, V.k.1]
  refine ok_within (by omega) hS ?_
  rw [isN_w (by omega)]
  refine ⟨fun z => s25 fun y => absurd y.1 (by rw [bI_0.mp z]; decide), fun z => ok_isDeedM (by omega) hS V ma.mc ⟨fun z2 => s25 fun y => absurd y.2 (by rw [bI_0.mp z2]; decide), fun z2 => ?_⟩⟩
  have h1 := bI_n0.mp z
  have h2 := bI_n0.mp z2
  obtain ⟨k, hk, ek⟩ := isN_t (by omega) h1
  obtain ⟨i, _, em, hi⟩ := isD_t V h2
  have di := V.de hi
  have ec : cdCame σ m a = if σ.1 132 k = 0 then 0 else 2 := by rw [cdCame, if_pos ⟨h1, h2⟩, ek, nI_clamp (by omega)]
  have ev : vCame σ m a = bt (σ.1 131 k) (plc σ i) := by rw [vCame, ek, em, nI_clamp (by omega), nI_clamp (by omega)]
  have en : m.toNatClampNeg = k := by rw [ek, nI_clamp (by omega)]
  subst ek em
  rw [nI_clamp (by omega), ma.i 132]
  refine ⟨vin (by omega), fun z3 => sgX12_came_43 _ _ _ (Nat.le_of_ble_eq_true rfl) hS ⟨fun _ => ?_, fun y => absurd (Int32.le_refl _) y⟩, fun z3 => sgX12_came_43 _ _ _ (Nat.le_of_ble_eq_true rfl) hS ⟨fun y => absurd y (by decide), fun _ => no 2 (by rw [ec, if_neg z3]) (by decide)⟩⟩
  rw [ec, if_pos z3, nxCame, ec, if_pos z3, if_pos rfl, ev, en] at hq
  rw [nI_clamp (by omega), nI_clamp (by omega), ma.i 131, ma.i 98, di.1.1, bt_shr (by omega)]
  have kk : Kp scm h (hI h 91 0 0) := k0 (Kp.rf hS)
  have s79 : ∀ v : Bool, v = bt (σ.1 131 k) (plc σ i) → E mX12_came 3 0 0 79 [(0, .ref 91), (1, .int (nI k))] [.int (bI v)] (hI h 91 0 0) (Qi F) X := fun v hv => by
    rw [← hv] at hq
    have fin : ∀ w, w = (if v = true then 1 else 2) → E mX12_came 3 0 0 94 [(3, .int (bI v))] [.int w, .int (nI k), .ref 132] (hI h 91 0 0) (Qi F) X := fun w hw => by
      refine sgX12_came_94 _ _ _ (Nat.le_of_ble_eq_true rfl) kk.1 ?_
      rw [nI_clamp (by omega)]
      refine ⟨vin (by omega), bI_01 _, hq _ _ (kk.m.tr (Fr.m (L := [132]) (fs := []) Fr.pI kk.1)) (by rw [hw]; exact (ma.km kk).hI _ _ _) ?_ ?_ fun _ => rfl⟩
      · rw [hI_c (by decide)]; exact kk.i 91 36
      · rw [hI_c (by decide), hI_k]; rfl
    refine sgX12_came_79 _ _ (Nat.le_of_ble_eq_true rfl) kk.1 ⟨fun y => fin 2 ?_, fun y => fin 1 ?_⟩
    · rw [bI_0.mp y]; rfl
    · rw [bI_n0.mp y]; rfl
  refine ⟨vin (by omega), vin (by omega), fun y => s79 true ?_, fun y => s79 false ?_⟩
  · cases e : bt (σ.1 131 k) (plc σ i)
    · rw [e] at y; exact absurd y (by decide)
    · rfl
  · cases e : bt (σ.1 131 k) (plc σ i)
    · rfl
    · rw [e] at y; exact absurd rfl y
end KEEP
