/-! rights read: the reference's reader -/
section READR
variable {K V : Nat → Int32} {P B : Nat → Nat} {Y : Hp → Nat → Prop} {h q g : Hp} {d k b op kind : Nat} {X : String → Hp → Prop} {F : Int32 → Hp → Prop} {G : Hp → Prop}
def ty (s : Int32) : Int32 := if s = 16 then 0 else if s = 17 then 4 else if s = 15 then 2 else if s < 15 then 1 else 3
def wtab : List (Nat × Int32) := [(37, 7), (38, 8), (39, 9), (40, 10), (41, 11), (42, 12), (43, 13), (34, 0), (35, 1), (36, 2), (44, 3), (45, 6), (46, 5), (47, 4)]
/-- what is asked of tokens: they're told apart, and the next comes -/
def YOK (K V : Nat → Int32) (B : Nat → Nat) (Y : Hp → Nat → Prop) : Prop :=
  (∀ h k, Y h k → h.1 91 71 = ty (K k) ∧ (K k = 15 → h.1 91 72 = V k) ∧ (ty (K k) = 3 → h.1 91 72 = K k) ∧ h.1 91 70 = nI (B k)) ∧
  (∀ h q k, Y h k → Fr [137, 139] [(91, 73), (91, 74), (91, 77), (91, 78)] h q → Y q k) ∧
  (∀ h k d (G : Hp → Prop) X, 2 ≤ d → Std h.2.2 → Y h k → OKk K (k + 1) → (∀ q, Fr [] [(91, 69), (91, 70), (91, 71), (91, 72)] h q → Y q (k + 1) → G q) → OKv d mX12_next [.ref 91] h G X) ∧
  (∀ h k d (F : Int32 → Hp → Prop) X i w, 9 ≤ d → Std h.2.2 → Y h k → h.1 91 73 = 0 → (i, w) ∈ wtab → F (bI (decide (K k = w))) h → OKi d mX12_is [.ref 91, .ref (1000 + i)] h F X) ∧
  (∀ h d (F : Int32 → Hp → Prop) X i w, 9 ≤ d → Std h.2.2 → h.1 91 73 ≠ 0 → (i, w) ∈ wtab → F 0 h → OKi d mX12_is [.ref 91, .ref (1000 + i)] h F X)
def RSt (Y : Hp → Nat → Prop) (h : Hp) (k cb op : Nat) : Prop := Y h k ∧ h.1 91 73 = 0 ∧ h.1 91 77 = nI cb ∧ h.1 91 78 = nI op
def RFd (B : Nat → Nat) (h : Hp) (kind k : Nat) : Prop := h.1 91 73 = nI kind ∧ (kind ≠ 0 ∧ kind ≤ 4) ∧ h.1 91 74 = nI (B k)
def FM (h q : Hp) : Prop := Fr [137] [(91, 69), (91, 70), (91, 71), (91, 72), (91, 73), (91, 74), (91, 77), (91, 78)] h q
theorem RFd.ne0 {k : Nat} (f : RFd B h kind k) : ¬ h.1 91 73 = 0 := fun z => f.2.1.1 (nI_inj (b := 0) (by have := f.2.1.2; omega) (by omega) (f.1.symm.trans z))
theorem ty_4 {s : Int32} : ty s = 4 ↔ s = 17 := by
  unfold ty
  by_cases h1 : s = 16
  · rw [if_pos h1, h1]; decide
  rw [if_neg h1]
  by_cases h2 : s = 17
  · rw [if_pos h2]; exact ⟨fun _ => h2, fun _ => rfl⟩
  rw [if_neg h2]
  by_cases h3 : s = 15
  · rw [if_pos h3, h3]; decide
  rw [if_neg h3]
  by_cases h4 : s < 15
  · rw [if_pos h4]; exact ⟨fun z => absurd z (by decide), fun z => absurd z h2⟩
  · rw [if_neg h4]; exact ⟨fun z => absurd z (by decide), fun z => absurd z h2⟩
theorem ty_2 {s : Int32} : ty s = 2 ↔ s = 15 := by
  unfold ty
  by_cases h1 : s = 16
  · rw [if_pos h1, h1]; decide
  rw [if_neg h1]
  by_cases h2 : s = 17
  · rw [if_pos h2, h2]; decide
  rw [if_neg h2]
  by_cases h3 : s = 15
  · rw [if_pos h3]; exact ⟨fun _ => h3, fun _ => rfl⟩
  rw [if_neg h3]
  by_cases h4 : s < 15
  · rw [if_pos h4]; exact ⟨fun z => absurd z (by decide), fun z => absurd z h3⟩
  · rw [if_neg h4]; exact ⟨fun z => absurd z (by decide), fun z => absurd z h3⟩
theorem ok_wrongR {kd : Nat} (W : YOK K V B Y) (hd : 1 ≤ d) (hS : Std h.2.2) (hk : kd ≠ 0 ∧ kd ≤ 4) (s : Y h k ∧ h.1 91 73 = 0) (hq : ∀ q, Fr [] [(91, 73), (91, 74)] h q → RFd B q (flR K k kd).1 k → G q) : OKv d mX12_wrong [.ref 91, .int (nI kd)] h G X := by
  obtain ⟨y1, y2, y3, y4⟩ := W.1 h k s.1
  refine enX12_wrong _ hd hS ⟨fun _ => ⟨fun w => ?_, fun w => ?_⟩, fun w => absurd s.2 w⟩
  · have e : K k = 17 := ty_4.mp (y1.symm.trans w)
    have f : Fr [] [(91, 73), (91, 74)] h (hI (hI h 91 73 1) 91 74 (h.1 91 70)) := Fr.tr Fr.pI Fr.pI
    refine hq _ f ?_
    have e2 : (flR K k kd).1 = 1 := if_pos e
    rw [e2, y4]; exact ⟨rfl, by decide, rfl⟩
  · have e : K k ≠ 17 := fun z => w (y1.trans (ty_4.mpr z))
    have f : Fr [] [(91, 73), (91, 74)] h (hI (hI h 91 73 (nI kd)) 91 74 (h.1 91 70)) := Fr.tr Fr.pI Fr.pI
    refine hq _ f ?_
    have e2 : (flR K k kd).1 = kd := if_neg e
    rw [e2, y4]; exact ⟨rfl, hk, rfl⟩
theorem ok_wrongF {x : Int32} (hd : 1 ≤ d) (hS : Std h.2.2) (f : RFd B h kind k) (hq : G h) : OKv d mX12_wrong [.ref 91, .int x] h G X :=
  enX12_wrong _ hd hS ⟨fun w => absurd w f.ne0, fun _ => hq⟩
theorem ok_isSignR {c : Int32} (W : YOK K V B Y) (hd : 1 ≤ d) (hS : Std h.2.2) (hc : ty c = 3) (s : Y h k ∧ h.1 91 73 = 0) (hq : F (bI (decide (K k = c))) h) : OKi d mX12_isSign [.ref 91, .int c] h F X := by
  obtain ⟨y1, y2, y3, y4⟩ := W.1 h k s.1
  have no : K k ≠ c → F 0 h := fun z => by rw [decide_eq_false z] at hq; exact hq
  refine enX12_isSign _ hd hS ⟨fun _ => ⟨fun w => ⟨fun w2 => ?_, fun w2 => no fun z => ?_⟩, fun w => no fun z => ?_⟩, fun w => absurd s.2 w⟩
  · rw [y3 (y1.symm.trans w)] at w2
    rw [decide_eq_true w2] at hq; exact hq
  · rw [y3 (y1.symm.trans w)] at w2; exact w2 z
  · exact w (y1.trans (by rw [z]; exact hc))
theorem ok_isSignF {c : Int32} (hd : 1 ≤ d) (hS : Std h.2.2) (f : RFd B h kind k) (hq : F 0 h) : OKi d mX12_isSign [.ref 91, .int c] h F X :=
  enX12_isSign _ hd hS ⟨fun w => absurd w f.ne0, fun _ => hq⟩
theorem ok_needR {c : Int32} (W : YOK K V B Y) (hd : 3 ≤ d) (hS : Std h.2.2) (hc : ty c = 3) (o : OKk K k) (s : Y h k ∧ h.1 91 73 = 0) (h1 : K k = c → ∀ q, Fr [] [(91, 69), (91, 70), (91, 71), (91, 72)] h q → Y q (k + 1) → G q) (h2 : K k ≠ c → ∀ q, Fr [] [(91, 73), (91, 74)] h q → RFd B q (flR K k 2).1 k → G q) : OKv d mX12_need [.ref 91, .int c] h G X := by
  refine enX12_need _ hd hS ⟨fun _ => ok_isSignR W (by omega) hS hc s ⟨fun w => ?_, fun w => ?_⟩, fun w => absurd s.2 w⟩
  · exact ok_wrongR (kd := 2) W (by omega) hS (by decide) s (h2 (of_decide_eq_false (bI_0.mp w)))
  · have w := of_decide_eq_true (bI_n0.mp w)
    have n16 : c ≠ 16 := fun z => by rw [z] at hc; exact absurd hc (by decide)
    have n17 : c ≠ 17 := fun z => by rw [z] at hc; exact absurd hc (by decide)
    exact W.2.2.1 h k _ G X (by omega) hS s.1 (o.s (by rw [w]; exact n16) (by rw [w]; exact n17)) (h1 w)
theorem ok_needF {c : Int32} (hd : 3 ≤ d) (hS : Std h.2.2) (f : RFd B h kind k) (hq : G h) : OKv d mX12_need [.ref 91, .int c] h G X :=
  enX12_need _ hd hS ⟨fun w => absurd w f.ne0, fun _ => hq⟩
theorem ok_emR {v : Int32} (W : YOK K V B Y) (hd : 1 ≤ d) (hS : Std h.2.2) (hb5 : b < 500) (s : RSt Y h k b op) (hq : ∀ q, Fr [137] [(91, 77)] h q → RSt Y q k (b + 1) op → q.1 137 b = v → (∀ i, i < b → q.1 137 i = h.1 137 i) → G q) : OKv d mX12_emit [.ref 91, .int v] h G X := by
  obtain ⟨y, s1, s2, s3⟩ := s
  refine enX12_emit _ hd hS ⟨fun _ => ?_, fun w => absurd s1 w⟩
  rw [s2, nI_clamp (by omega), nI_1]
  have f : Fr [137] [(91, 77)] h (hI (hI h 137 b v) 91 77 (nI (b + 1))) := Fr.tr Fr.pI Fr.pI
  refine ⟨vin hb5, hq _ f ⟨W.2.1 _ _ _ y f.mono, s1, rfl, s3⟩ ?_ fun i hi => ?_⟩
  · rw [hI_c (by decide), hI_k]
  · rw [hI_c (by decide), hI_j (by omega)]
theorem ok_emRF {v : Int32} (hd : 1 ≤ d) (hS : Std h.2.2) (f : RFd B h kind k) (hq : G h) : OKv d mX12_emit [.ref 91, .int v] h G X :=
  enX12_emit _ hd hS ⟨fun w => absurd w f.ne0, fun _ => hq⟩
theorem ok_nextR (W : YOK K V B Y) (hd : 2 ≤ d) (hS : Std h.2.2) (o : OKk K (k + 1)) (s : RSt Y h k b op) (hq : ∀ q, Fr [] [(91, 69), (91, 70), (91, 71), (91, 72)] h q → RSt Y q (k + 1) b op → G q) : OKv d mX12_next [.ref 91] h G X :=
  W.2.2.1 h k d G X hd hS s.1 o fun q f y => hq q f ⟨y, by rw [f.i 91 73]; exact s.2.1, by rw [f.i 91 77]; exact s.2.2.1, by rw [f.i 91 78]; exact s.2.2.2⟩
/-- what a reading leaves -/
def PMr (B : Nat → Nat) (Y : Hp → Nat → Prop) (h : Hp) (b op : Nat) (r : RP) (q : Hp) : Prop := FM h q ∧ (r.1 = 0 → RSt Y q r.2.1 (b + r.2.2.2.length) op ∧ (∀ i, i < r.2.2.2.length → q.1 137 (b + i) = r.2.2.2.getD i 0) ∧ ∀ i, i < b → q.1 137 i = h.1 137 i) ∧ (r.1 ≠ 0 → RFd B q r.1 r.2.1)
def NOK (K : Nat → Int32) (P B : Nat → Nat) (Y : Hp → Nat → Prop) (op d : Nat) (μ : MI) (A : Nat → Nat → RP) : Prop := ∀ (h : Hp) (G : Hp → Prop) (X : String → Hp → Prop), Std h.2.2 → (∀ k b, OKk K k → 2 * b ≤ 3 * P k + 2 → RSt Y h k b op → (∀ q, PMr B Y h b op (A k b) q → G q) → OKv d μ [.ref 91] h G X) ∧ (∀ kind k, RFd B h kind k → (∀ q, FM h q → RFd B q kind k → G q) → OKv d μ [.ref 91] h G X)
theorem NOK.up {d d' : Nat} {μ : MI} {A : Nat → Nat → RP} (M : NOK K P B Y op d μ A) (hd : d ≤ d') : NOK K P B Y op d' μ A := fun h G X hS => ⟨fun k b o hb2 c hq => OKv.up hd ((M h G X hS).1 k b o hb2 c hq), fun kind k f hq => OKv.up hd ((M h G X hS).2 kind k f hq)⟩
/-- names now -/
def nmN (s : Int32) : Int32 := if s = 7 then 0 else if s = 8 then 1 else if s = 9 then 2 else if s = 10 then 3 else if s = 11 then 4 else if s = 12 then 5 else if s = 13 then 6 else -1
theorem ok_nameNow (W : YOK K V B Y) (hd : 10 ≤ d) (hS : Std h.2.2) (s : Y h k ∧ h.1 91 73 = 0) (hq : F (nmN (K k)) h) : OKi d mX12_nameNow [.ref 91] h F X := by
  unfold nmN at hq
  have is := fun (F : Int32 → Hp → Prop) i w (m : (i, w) ∈ wtab) (hF : F (bI (decide (K k = w))) h) => W.2.2.2.1 h k 9 F X i w (Nat.le_refl _) hS s.1 s.2 m hF
  refine enX12_nameNow hd hS (is _ 37 7 (by decide) ⟨fun w => ?_, fun w => ?_⟩)
  · rw [if_neg (of_decide_eq_false (bI_0.mp w))] at hq
    refine is _ 38 8 (by decide) ⟨fun w => ?_, fun w => ?_⟩
    · rw [if_neg (of_decide_eq_false (bI_0.mp w))] at hq
      refine is _ 39 9 (by decide) ⟨fun w => ?_, fun w => ?_⟩
      · rw [if_neg (of_decide_eq_false (bI_0.mp w))] at hq
        refine is _ 40 10 (by decide) ⟨fun w => ?_, fun w => ?_⟩
        · rw [if_neg (of_decide_eq_false (bI_0.mp w))] at hq
          refine is _ 41 11 (by decide) ⟨fun w => ?_, fun w => ?_⟩
          · rw [if_neg (of_decide_eq_false (bI_0.mp w))] at hq
            refine is _ 42 12 (by decide) ⟨fun w => ?_, fun w => ?_⟩
            · rw [if_neg (of_decide_eq_false (bI_0.mp w))] at hq
              refine is _ 43 13 (by decide) ⟨fun w => ?_, fun w => ?_⟩
              · rw [if_neg (of_decide_eq_false (bI_0.mp w))] at hq; exact hq
              · rw [if_pos (of_decide_eq_true (bI_n0.mp w))] at hq; exact hq
            · rw [if_pos (of_decide_eq_true (bI_n0.mp w))] at hq; exact hq
          · rw [if_pos (of_decide_eq_true (bI_n0.mp w))] at hq; exact hq
        · rw [if_pos (of_decide_eq_true (bI_n0.mp w))] at hq; exact hq
      · rw [if_pos (of_decide_eq_true (bI_n0.mp w))] at hq; exact hq
    · rw [if_pos (of_decide_eq_true (bI_n0.mp w))] at hq; exact hq
  · rw [if_pos (of_decide_eq_true (bI_n0.mp w))] at hq; exact hq
theorem nmN_j : ∀ j, j < 7 → nmN (nI (7 + j)) = nI j ∧ nI j ≠ -1 ∧ (20 : Int32) + nI j = nI (20 + j) ∧ ty (nI (7 + j)) = 1 := by decide +kernel
theorem nmN_no {s : Int32} (h : ¬ (7 ≤ s ∧ s < 14)) : nmN s = -1 := by
  unfold nmN
  rw [if_neg (fun z => h (by rw [z]; decide)), if_neg (fun z => h (by rw [z]; decide)), if_neg (fun z => h (by rw [z]; decide)), if_neg (fun z => h (by rw [z]; decide)), if_neg (fun z => h (by rw [z]; decide)), if_neg (fun z => h (by rw [z]; decide)), if_neg (fun z => h (by rw [z]; decide))]
end READR
