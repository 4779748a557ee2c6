theorem w_name {α : Type} {P : α → Prop} (e : α) (h : ∀ x, x = e → P x) : P e := h e rfl
theorem std_lt {h : Hp} {c : Nat} (hS : Std h.2.2) (hc : Nat.blt c 147 = true) : c < h.2.2.2 := by
  rw [hS.2]
  exact Nat.blt_eq.mp hc
theorem std_lt2 {h : Hp} {c : Nat} (hS : Std h.2.2) (hc : c < 147) : c < h.2.2.2 := by
  rw [hS.2]
  exact hc
theorem std_R {h : Hp} {v : Option Nat} (hS : Std h.2.2) : Std (hR h 34 2 v).2.2 := by
  refine ⟨fun q hq => ?_, hS.2⟩
  have hne : ∀ q ∈ rfL, ¬ (q.1 = 34 ∧ q.2.1 = 2) := by decide +kernel
  have h1 := hne q hq
  show up2 h.2.2.1 34 2 v q.1 q.2.1 = some q.2.2
  by_cases hc : q.1 = 34
  · rw [hc, up2_nk (fun z => h1 ⟨hc, z⟩), ← hc]
    exact hS.1 q hq
  · rw [congrFun (up2_ne hc) q.2.1]
    exact hS.1 q hq
theorem shlt0 {S : Nat} (h : ShOK S) : S < 147 := by have := h.2.2.2.1; omega
theorem shlt1 {S : Nat} (h : ShOK S) : S + 1 < 147 := by have := h.2.2.2.1; omega
theorem shlt2 {S : Nat} (h : ShOK S) : S + 2 < 147 := by have := h.2.2.2.1; omega
theorem shlt3 {S : Nat} (h : ShOK S) : S + 3 < 147 := by have := h.2.2.2.1; omega
theorem rfo {s : String} : (∃ t, FieldType.object s = .object t) ∨ ∃ t, FieldType.object s = .array t := Or.inl ⟨s, rfl⟩
theorem rfa {s : FieldType} : (∃ t, FieldType.array s = .object t) ∨ ∃ t, FieldType.array s = .array t := Or.inr ⟨s, rfl⟩
theorem hR_same {h : Hp} {c k : Nat} {v : Option Nat} : (hR h c k v).2.2.1 c k = v := up2_kk
theorem zn_0 : narrow .boolean (.int 0) = .int 0 := by decide
theorem zn_1 : narrow .boolean (.int 1) = .int 1 := by decide
theorem zn_of {x : Int32} (h : x = 0 ∨ x = 1) : narrow .boolean (.int x) = .int x := by rcases h with rfl | rfl <;> decide
theorem zf_of {x : Int32} (h : x = 0 ∨ x = 1) : fits .boolean (.int x) = true := by rcases h with rfl | rfl <;> decide
theorem vz_0 : vp_nar .boolean 0 = 0 := by decide
theorem vz_1 : vp_nar .boolean 1 = 1 := by decide
theorem vz_of {x : Int32} (h : x = 0 ∨ x = 1) : vp_nar .boolean x = x := by rcases h with rfl | rfl <;> decide
theorem lc_gt {x y : Int64} : 0 < lg_cmp x y ↔ y < x := by
  unfold lg_cmp
  by_cases h : x > y
  · rw [if_pos h]; exact ⟨fun _ => h, fun _ => by decide⟩
  · rw [if_neg h]
    by_cases h2 : x = y
    · rw [if_pos h2]; exact ⟨fun q => absurd q (by decide), fun q => absurd q h⟩
    · rw [if_neg h2]; exact ⟨fun q => absurd q (by decide), fun q => absurd q h⟩
theorem lc_ge {x y : Int64} : 0 ≤ lg_cmp x y ↔ y ≤ x := lg_cmp_ge x y
theorem lc_lt {x y : Int64} : lg_cmp x y < 0 ↔ x < y := by
  have h := lc_ge (x := x) (y := y)
  rw [← Int32.not_le, ← Int64.not_le]
  exact not_congr h
theorem lc_le {x y : Int64} : lg_cmp x y ≤ 0 ↔ x ≤ y := by
  have h := lc_gt (x := x) (y := y)
  rw [← Int32.not_lt, ← Int64.not_lt]
  exact not_congr h
theorem lc_eq {x y : Int64} : lg_cmp x y = 0 ↔ x = y := by
  constructor
  · intro h
    have h1 := lc_le.mp (show lg_cmp x y ≤ 0 by rw [h]; decide)
    have h2 := lc_ge.mp (show 0 ≤ lg_cmp x y by rw [h]; decide)
    exact Int64.le_antisymm h1 h2
  · rintro rfl
    unfold lg_cmp
    rw [if_neg (show ¬ x > x from fun z => absurd z (Int64.not_lt.mpr (Int64.le_refl x))), if_pos rfl]
def OK (d : Nat) (μ : MI) (av : List Value) (h : Hp) (Q : Option Value → Hp → Prop) (X : String → Hp → Prop) : Prop := ∃ d', d' < d ∧ CallOK μ d' av h Q X
def Qi (F : Int32 → Hp → Prop) : Option Value → Hp → Prop := fun v h1 => ∃ r, v = some (.int r) ∧ F r h1
def Ql (F : Int64 → Hp → Prop) : Option Value → Hp → Prop := fun v h1 => ∃ r, v = some (.long r) ∧ F r h1
def Qr (F : Nat → Hp → Prop) : Option Value → Hp → Prop := fun v h1 => ∃ r, v = some (.ref r) ∧ F r h1
def Qv (F : Hp → Prop) : Option Value → Hp → Prop := fun v h1 => v = none ∧ F h1
def OKi (d : Nat) (μ : MI) (av : List Value) (h : Hp) (F : Int32 → Hp → Prop) (X : String → Hp → Prop) : Prop := OK d μ av h (Qi F) X
def OKl (d : Nat) (μ : MI) (av : List Value) (h : Hp) (F : Int64 → Hp → Prop) (X : String → Hp → Prop) : Prop := OK d μ av h (Ql F) X
def OKr (d : Nat) (μ : MI) (av : List Value) (h : Hp) (F : Nat → Hp → Prop) (X : String → Hp → Prop) : Prop := OK d μ av h (Qr F) X
def OKv (d : Nat) (μ : MI) (av : List Value) (h : Hp) (F : Hp → Prop) (X : String → Hp → Prop) : Prop := OK d μ av h (Qv F) X
theorem OK.up {d d1 : Nat} {μ : MI} {av : List Value} {h : Hp} {Q : Option Value → Hp → Prop} {X : String → Hp → Prop} (hd : d ≤ d1) (hq : OK d μ av h Q X) : OK d1 μ av h Q X := hq.elim fun d' z => ⟨d', Nat.lt_of_lt_of_le z.1 hd, z.2⟩
section MCALL
variable {C : Ctx} {μ μ' : MI} {d k n k2 n2 pc ix : Nat} {lv : List (Nat × Value)} {st : List Value} {h : Hp} {Q : Option Value → Hp → Prop} {X : String → Hp → Prop}
theorem vx_prop (hC : CxOK C μ) (hX : MX C μ d Q X) {E : String} (hq : X E h) (hS : μ.2.2.2.2.1 h.2.2) (hk : k ≤ μ.2.2.2.2.2.1) (hn : n ≤ μ.2.2.2.2.2.2) : VX C μ k n pc lv st h E := by
  obtain ⟨p, l, e, R, s, m, args, below, meth, c, D, g, A, ad0, n0, Qf⟩ := C
  obtain ⟨hx, hb, hml, hown, hts, hr0, hlk, hK, hA, hl9, hN, hT, hZ⟩ := hC
  obtain ⟨htab, hR, hCs, rfl⟩ := hX
  intro ad H locs ls q ce hW hlv hst hl hce hcv hcl
  obtain ⟨w1, w2, w3, w4, w5, w6, w7⟩ := id hW
  exact vx_out (fun x hx => absurd hx (fun z => htab x z)) hlk hce hcv hcl (fun t ht _ => ⟨⟨h, ad, hq, by rw [ht]; exact w1, w2, w4, w5, w6, w7, hS⟩, w3.F ht⟩) w3.2.2 hk hn
theorem rm_of (hX : MX C μ d Q X) {d' : Nat} (hd : d' < d) (hloc : μ'.2.2.1 ≤ 21) (h1 : k + μ'.2.2.2.2.2.1 ≤ μ.2.2.2.2.2.1) (h2 : n + μ'.2.2.2.2.2.2 ≤ μ.2.2.2.2.2.2) : RmOK C μ' d' k n := by
  obtain ⟨p, l, e, R, s, m, args, below, meth, c, D, g, A, ad0, n0, Qf⟩ := C
  obtain ⟨htab, hR, hCs, rfl⟩ := hX
  subst hR
  refine ⟨hd, ?_, h1, h2⟩
  show 8 + (μ'.2.2.1 + 11) + 40 * d' ≤ 40 * d
  omega
theorem cas_of (hX : MX C μ d Q X) : CasC C := by
  obtain ⟨p, l, e, R, s, m, args, below, meth, c, D, g, A, ad0, n0, Qf⟩ := C
  exact hX.2.2.1

theorem m_callVi {b : Nat} (avs rest : List Value) {F : Int32 → Hp → Prop} (hC : CxOK C μ) (hX : MX C μ d Q X) (hM : OKi d μ' (.ref b :: avs) h F X) (hk2 : k2 = k + μ'.2.2.2.2.2.1) (hn2 : n2 = n + μ'.2.2.2.2.2.2) (hk : k + μ'.2.2.2.2.2.1 ≤ μ.2.2.2.2.2.1) (hn : n + μ'.2.2.2.2.2.2 ≤ μ.2.2.2.2.2.2) (hloc : μ'.2.2.1 ≤ 21) (hd : decode μ.2.1 pc = .ok (.invokevirtual ix, 3)) (cl : CLV μ.1.cls ix μ' avs.length) (ob : OB b μ'.1.cls) (hb : b < h.2.2.2) (hs0 : st = avs.reverse ++ .ref b :: rest) (h8 : (rest.map fun v => v.category).sum ≤ 8) 
    (kk : ∀ (r : Int32) (h1 : Hp), F r h1 → μ'.2.2.2.2.1 h1.2.2 → WW C μ k2 n2 (pc + 3) lv (.int r :: rest) h1) (hP : ∀ r, μ'.2.2.2.2.1 r → μ.2.2.2.2.1 r := by exact fun _ q => q) : WW C μ k n pc lv st h := by
  obtain ⟨d', hdd, hM⟩ := hM
  subst hk2; subst hn2
  refine w_callV avs rest hC (cas_of hX) hM (rm_of hX hdd hloc hk hn) hd cl ob hb hs0 h8 (fun v h1 hq hs _ _ => ?_) (fun E h1 hq hs _ => vx_prop hC hX hq (hP _ hs) hk hn)
  · show WW C μ _ _ _ lv _ h1
    obtain ⟨r, rfl, hf⟩ := hq
    exact kk r h1 hf hs

theorem m_callVl {b : Nat} (avs rest : List Value) {F : Int64 → Hp → Prop} (hC : CxOK C μ) (hX : MX C μ d Q X) (hM : OKl d μ' (.ref b :: avs) h F X) (hk2 : k2 = k + μ'.2.2.2.2.2.1) (hn2 : n2 = n + μ'.2.2.2.2.2.2) (hk : k + μ'.2.2.2.2.2.1 ≤ μ.2.2.2.2.2.1) (hn : n + μ'.2.2.2.2.2.2 ≤ μ.2.2.2.2.2.2) (hloc : μ'.2.2.1 ≤ 21) (hd : decode μ.2.1 pc = .ok (.invokevirtual ix, 3)) (cl : CLV μ.1.cls ix μ' avs.length) (ob : OB b μ'.1.cls) (hb : b < h.2.2.2) (hs0 : st = avs.reverse ++ .ref b :: rest) (h8 : (rest.map fun v => v.category).sum ≤ 8) 
    (kk : ∀ (r : Int64) (h1 : Hp), F r h1 → μ'.2.2.2.2.1 h1.2.2 → WW C μ k2 n2 (pc + 3) lv (.long r :: rest) h1) (hP : ∀ r, μ'.2.2.2.2.1 r → μ.2.2.2.2.1 r := by exact fun _ q => q) : WW C μ k n pc lv st h := by
  obtain ⟨d', hdd, hM⟩ := hM
  subst hk2; subst hn2
  refine w_callV avs rest hC (cas_of hX) hM (rm_of hX hdd hloc hk hn) hd cl ob hb hs0 h8 (fun v h1 hq hs _ _ => ?_) (fun E h1 hq hs _ => vx_prop hC hX hq (hP _ hs) hk hn)
  · show WW C μ _ _ _ lv _ h1
    obtain ⟨r, rfl, hf⟩ := hq
    exact kk r h1 hf hs

theorem m_callVv {b : Nat} (avs rest : List Value) {F : Hp → Prop} (hC : CxOK C μ) (hX : MX C μ d Q X) (hM : OKv d μ' (.ref b :: avs) h F X) (hk2 : k2 = k + μ'.2.2.2.2.2.1) (hn2 : n2 = n + μ'.2.2.2.2.2.2) (hk : k + μ'.2.2.2.2.2.1 ≤ μ.2.2.2.2.2.1) (hn : n + μ'.2.2.2.2.2.2 ≤ μ.2.2.2.2.2.2) (hloc : μ'.2.2.1 ≤ 21) (hd : decode μ.2.1 pc = .ok (.invokevirtual ix, 3)) (cl : CLV μ.1.cls ix μ' avs.length) (ob : OB b μ'.1.cls) (hb : b < h.2.2.2) (hs0 : st = avs.reverse ++ .ref b :: rest) (h8 : (rest.map fun v => v.category).sum ≤ 8) 
    (kk : ∀ (h1 : Hp), F h1 → μ'.2.2.2.2.1 h1.2.2 → WW C μ k2 n2 (pc + 3) lv rest h1) (hP : ∀ r, μ'.2.2.2.2.1 r → μ.2.2.2.2.1 r := by exact fun _ q => q) : WW C μ k n pc lv st h := by
  obtain ⟨d', hdd, hM⟩ := hM
  subst hk2; subst hn2
  refine w_callV avs rest hC (cas_of hX) hM (rm_of hX hdd hloc hk hn) hd cl ob hb hs0 h8 (fun v h1 hq hs _ _ => ?_) (fun E h1 hq hs _ => vx_prop hC hX hq (hP _ hs) hk hn)
  · show WW C μ _ _ _ lv _ h1
    obtain ⟨rfl, hf⟩ := hq
    exact kk h1 hf hs

theorem m_callVr {b : Nat} (avs rest : List Value) {F : Nat → Hp → Prop} (hC : CxOK C μ) (hX : MX C μ d Q X) (hM : OKr d μ' (.ref b :: avs) h F X) (hk2 : k2 = k + μ'.2.2.2.2.2.1) (hn2 : n2 = n + μ'.2.2.2.2.2.2) (hk : k + μ'.2.2.2.2.2.1 ≤ μ.2.2.2.2.2.1) (hn : n + μ'.2.2.2.2.2.2 ≤ μ.2.2.2.2.2.2) (hloc : μ'.2.2.1 ≤ 21) (hd : decode μ.2.1 pc = .ok (.invokevirtual ix, 3)) (cl : CLV μ.1.cls ix μ' avs.length) (ob : OB b μ'.1.cls) (hb : b < h.2.2.2) (hs0 : st = avs.reverse ++ .ref b :: rest) (h8 : (rest.map fun v => v.category).sum ≤ 8) 
    (kk : ∀ (r : Nat) (h1 : Hp), F r h1 → μ'.2.2.2.2.1 h1.2.2 → WW C μ k2 n2 (pc + 3) lv (.ref r :: rest) h1) (hP : ∀ r, μ'.2.2.2.2.1 r → μ.2.2.2.2.1 r := by exact fun _ q => q) : WW C μ k n pc lv st h := by
  obtain ⟨d', hdd, hM⟩ := hM
  subst hk2; subst hn2
  refine w_callV avs rest hC (cas_of hX) hM (rm_of hX hdd hloc hk hn) hd cl ob hb hs0 h8 (fun v h1 hq hs _ _ => ?_) (fun E h1 hq hs _ => vx_prop hC hX hq (hP _ hs) hk hn)
  · show WW C μ _ _ _ lv _ h1
    obtain ⟨r, rfl, hf⟩ := hq
    exact kk r h1 hf hs

theorem m_callSi (avs rest : List Value) {F : Int32 → Hp → Prop} (hC : CxOK C μ) (hX : MX C μ d Q X) (hM : OKi d μ' avs h F X) (hk2 : k2 = k + μ'.2.2.2.2.2.1) (hn2 : n2 = n + μ'.2.2.2.2.2.2) (hk : k + μ'.2.2.2.2.2.1 ≤ μ.2.2.2.2.2.1) (hn : n + μ'.2.2.2.2.2.2 ≤ μ.2.2.2.2.2.2) (hloc : μ'.2.2.1 ≤ 21) (hd : decode μ.2.1 pc = .ok (.invokestatic ix, 3)) (cl : CLS μ.1.cls ix μ' avs.length) (hs0 : st = avs.reverse ++ rest) (h8 : (rest.map fun v => v.category).sum ≤ 8) 
    (kk : ∀ (r : Int32) (h1 : Hp), F r h1 → μ'.2.2.2.2.1 h1.2.2 → WW C μ k2 n2 (pc + 3) lv (.int r :: rest) h1) (hP : ∀ r, μ'.2.2.2.2.1 r → μ.2.2.2.2.1 r := by exact fun _ q => q) : WW C μ k n pc lv st h := by
  obtain ⟨d', hdd, hM⟩ := hM
  subst hk2; subst hn2
  refine w_callS avs rest hC (cas_of hX) hM (rm_of hX hdd hloc hk hn) hd cl hs0 h8 (fun v h1 hq hs _ _ => ?_) (fun E h1 hq hs _ => vx_prop hC hX hq (hP _ hs) hk hn)
  · show WW C μ _ _ _ lv _ h1
    obtain ⟨r, rfl, hf⟩ := hq
    exact kk r h1 hf hs

theorem m_callSl (avs rest : List Value) {F : Int64 → Hp → Prop} (hC : CxOK C μ) (hX : MX C μ d Q X) (hM : OKl d μ' avs h F X) (hk2 : k2 = k + μ'.2.2.2.2.2.1) (hn2 : n2 = n + μ'.2.2.2.2.2.2) (hk : k + μ'.2.2.2.2.2.1 ≤ μ.2.2.2.2.2.1) (hn : n + μ'.2.2.2.2.2.2 ≤ μ.2.2.2.2.2.2) (hloc : μ'.2.2.1 ≤ 21) (hd : decode μ.2.1 pc = .ok (.invokestatic ix, 3)) (cl : CLS μ.1.cls ix μ' avs.length) (hs0 : st = avs.reverse ++ rest) (h8 : (rest.map fun v => v.category).sum ≤ 8) 
    (kk : ∀ (r : Int64) (h1 : Hp), F r h1 → μ'.2.2.2.2.1 h1.2.2 → WW C μ k2 n2 (pc + 3) lv (.long r :: rest) h1) (hP : ∀ r, μ'.2.2.2.2.1 r → μ.2.2.2.2.1 r := by exact fun _ q => q) : WW C μ k n pc lv st h := by
  obtain ⟨d', hdd, hM⟩ := hM
  subst hk2; subst hn2
  refine w_callS avs rest hC (cas_of hX) hM (rm_of hX hdd hloc hk hn) hd cl hs0 h8 (fun v h1 hq hs _ _ => ?_) (fun E h1 hq hs _ => vx_prop hC hX hq (hP _ hs) hk hn)
  · show WW C μ _ _ _ lv _ h1
    obtain ⟨r, rfl, hf⟩ := hq
    exact kk r h1 hf hs

theorem m_callSv (avs rest : List Value) {F : Hp → Prop} (hC : CxOK C μ) (hX : MX C μ d Q X) (hM : OKv d μ' avs h F X) (hk2 : k2 = k + μ'.2.2.2.2.2.1) (hn2 : n2 = n + μ'.2.2.2.2.2.2) (hk : k + μ'.2.2.2.2.2.1 ≤ μ.2.2.2.2.2.1) (hn : n + μ'.2.2.2.2.2.2 ≤ μ.2.2.2.2.2.2) (hloc : μ'.2.2.1 ≤ 21) (hd : decode μ.2.1 pc = .ok (.invokestatic ix, 3)) (cl : CLS μ.1.cls ix μ' avs.length) (hs0 : st = avs.reverse ++ rest) (h8 : (rest.map fun v => v.category).sum ≤ 8) 
    (kk : ∀ (h1 : Hp), F h1 → μ'.2.2.2.2.1 h1.2.2 → WW C μ k2 n2 (pc + 3) lv rest h1) (hP : ∀ r, μ'.2.2.2.2.1 r → μ.2.2.2.2.1 r := by exact fun _ q => q) : WW C μ k n pc lv st h := by
  obtain ⟨d', hdd, hM⟩ := hM
  subst hk2; subst hn2
  refine w_callS avs rest hC (cas_of hX) hM (rm_of hX hdd hloc hk hn) hd cl hs0 h8 (fun v h1 hq hs _ _ => ?_) (fun E h1 hq hs _ => vx_prop hC hX hq (hP _ hs) hk hn)
  · show WW C μ _ _ _ lv _ h1
    obtain ⟨rfl, hf⟩ := hq
    exact kk h1 hf hs

theorem m_callSr (avs rest : List Value) {F : Nat → Hp → Prop} (hC : CxOK C μ) (hX : MX C μ d Q X) (hM : OKr d μ' avs h F X) (hk2 : k2 = k + μ'.2.2.2.2.2.1) (hn2 : n2 = n + μ'.2.2.2.2.2.2) (hk : k + μ'.2.2.2.2.2.1 ≤ μ.2.2.2.2.2.1) (hn : n + μ'.2.2.2.2.2.2 ≤ μ.2.2.2.2.2.2) (hloc : μ'.2.2.1 ≤ 21) (hd : decode μ.2.1 pc = .ok (.invokestatic ix, 3)) (cl : CLS μ.1.cls ix μ' avs.length) (hs0 : st = avs.reverse ++ rest) (h8 : (rest.map fun v => v.category).sum ≤ 8) 
    (kk : ∀ (r : Nat) (h1 : Hp), F r h1 → μ'.2.2.2.2.1 h1.2.2 → WW C μ k2 n2 (pc + 3) lv (.ref r :: rest) h1) (hP : ∀ r, μ'.2.2.2.2.1 r → μ.2.2.2.2.1 r := by exact fun _ q => q) : WW C μ k n pc lv st h := by
  obtain ⟨d', hdd, hM⟩ := hM
  subst hk2; subst hn2
  refine w_callS avs rest hC (cas_of hX) hM (rm_of hX hdd hloc hk hn) hd cl hs0 h8 (fun v h1 hq hs _ _ => ?_) (fun E h1 hq hs _ => vx_prop hC hX hq (hP _ hs) hk hn)
  · show WW C μ _ _ _ lv _ h1
    obtain ⟨r, rfl, hf⟩ := hq
    exact kk r h1 hf hs

theorem m_callNi (avs rest : List Value) {F : Int32 → Hp → Prop} (hC : CxOK C μ) (hX : MX C μ d Q X) (hM : OKi d μ' avs h F X) (hk2 : k2 = k + μ'.2.2.2.2.2.1) (hn2 : n2 = n + μ'.2.2.2.2.2.2) (hk : k + μ'.2.2.2.2.2.1 ≤ μ.2.2.2.2.2.1) (hn : n + μ'.2.2.2.2.2.2 ≤ μ.2.2.2.2.2.2) (hloc : μ'.2.2.1 ≤ 21) (hd : decode μ.2.1 pc = .ok (.invokestatic ix, 3)) (cl : CLN μ.1.cls ix μ' avs.length) (hs0 : st = avs.reverse ++ rest) (h8 : (rest.map fun v => v.category).sum ≤ 8) 
    (kk : ∀ (r : Int32) (h1 : Hp), F r h1 → μ'.2.2.2.2.1 h1.2.2 → WW C μ k2 n2 (pc + 3) lv (.int r :: rest) h1) (hP : ∀ r, μ'.2.2.2.2.1 r → μ.2.2.2.2.1 r := by exact fun _ q => q) : WW C μ k n pc lv st h := by
  obtain ⟨d', hdd, hM⟩ := hM
  subst hk2; subst hn2
  refine w_callN avs rest hC (cas_of hX) hM (rm_of hX hdd hloc hk hn) hd cl hs0 h8 (fun v h1 hq hs _ _ => ?_) (fun E h1 hq hs _ => vx_prop hC hX hq (hP _ hs) hk hn)
  · show WW C μ _ _ _ lv _ h1
    obtain ⟨r, rfl, hf⟩ := hq
    exact kk r h1 hf hs

theorem m_callNl (avs rest : List Value) {F : Int64 → Hp → Prop} (hC : CxOK C μ) (hX : MX C μ d Q X) (hM : OKl d μ' avs h F X) (hk2 : k2 = k + μ'.2.2.2.2.2.1) (hn2 : n2 = n + μ'.2.2.2.2.2.2) (hk : k + μ'.2.2.2.2.2.1 ≤ μ.2.2.2.2.2.1) (hn : n + μ'.2.2.2.2.2.2 ≤ μ.2.2.2.2.2.2) (hloc : μ'.2.2.1 ≤ 21) (hd : decode μ.2.1 pc = .ok (.invokestatic ix, 3)) (cl : CLN μ.1.cls ix μ' avs.length) (hs0 : st = avs.reverse ++ rest) (h8 : (rest.map fun v => v.category).sum ≤ 8) 
    (kk : ∀ (r : Int64) (h1 : Hp), F r h1 → μ'.2.2.2.2.1 h1.2.2 → WW C μ k2 n2 (pc + 3) lv (.long r :: rest) h1) (hP : ∀ r, μ'.2.2.2.2.1 r → μ.2.2.2.2.1 r := by exact fun _ q => q) : WW C μ k n pc lv st h := by
  obtain ⟨d', hdd, hM⟩ := hM
  subst hk2; subst hn2
  refine w_callN avs rest hC (cas_of hX) hM (rm_of hX hdd hloc hk hn) hd cl hs0 h8 (fun v h1 hq hs _ _ => ?_) (fun E h1 hq hs _ => vx_prop hC hX hq (hP _ hs) hk hn)
  · show WW C μ _ _ _ lv _ h1
    obtain ⟨r, rfl, hf⟩ := hq
    exact kk r h1 hf hs

theorem m_callNv (avs rest : List Value) {F : Hp → Prop} (hC : CxOK C μ) (hX : MX C μ d Q X) (hM : OKv d μ' avs h F X) (hk2 : k2 = k + μ'.2.2.2.2.2.1) (hn2 : n2 = n + μ'.2.2.2.2.2.2) (hk : k + μ'.2.2.2.2.2.1 ≤ μ.2.2.2.2.2.1) (hn : n + μ'.2.2.2.2.2.2 ≤ μ.2.2.2.2.2.2) (hloc : μ'.2.2.1 ≤ 21) (hd : decode μ.2.1 pc = .ok (.invokestatic ix, 3)) (cl : CLN μ.1.cls ix μ' avs.length) (hs0 : st = avs.reverse ++ rest) (h8 : (rest.map fun v => v.category).sum ≤ 8) 
    (kk : ∀ (h1 : Hp), F h1 → μ'.2.2.2.2.1 h1.2.2 → WW C μ k2 n2 (pc + 3) lv rest h1) (hP : ∀ r, μ'.2.2.2.2.1 r → μ.2.2.2.2.1 r := by exact fun _ q => q) : WW C μ k n pc lv st h := by
  obtain ⟨d', hdd, hM⟩ := hM
  subst hk2; subst hn2
  refine w_callN avs rest hC (cas_of hX) hM (rm_of hX hdd hloc hk hn) hd cl hs0 h8 (fun v h1 hq hs _ _ => ?_) (fun E h1 hq hs _ => vx_prop hC hX hq (hP _ hs) hk hn)
  · show WW C μ _ _ _ lv _ h1
    obtain ⟨rfl, hf⟩ := hq
    exact kk h1 hf hs

theorem m_callNr (avs rest : List Value) {F : Nat → Hp → Prop} (hC : CxOK C μ) (hX : MX C μ d Q X) (hM : OKr d μ' avs h F X) (hk2 : k2 = k + μ'.2.2.2.2.2.1) (hn2 : n2 = n + μ'.2.2.2.2.2.2) (hk : k + μ'.2.2.2.2.2.1 ≤ μ.2.2.2.2.2.1) (hn : n + μ'.2.2.2.2.2.2 ≤ μ.2.2.2.2.2.2) (hloc : μ'.2.2.1 ≤ 21) (hd : decode μ.2.1 pc = .ok (.invokestatic ix, 3)) (cl : CLN μ.1.cls ix μ' avs.length) (hs0 : st = avs.reverse ++ rest) (h8 : (rest.map fun v => v.category).sum ≤ 8) 
    (kk : ∀ (r : Nat) (h1 : Hp), F r h1 → μ'.2.2.2.2.1 h1.2.2 → WW C μ k2 n2 (pc + 3) lv (.ref r :: rest) h1) (hP : ∀ r, μ'.2.2.2.2.1 r → μ.2.2.2.2.1 r := by exact fun _ q => q) : WW C μ k n pc lv st h := by
  obtain ⟨d', hdd, hM⟩ := hM
  subst hk2; subst hn2
  refine w_callN avs rest hC (cas_of hX) hM (rm_of hX hdd hloc hk hn) hd cl hs0 h8 (fun v h1 hq hs _ _ => ?_) (fun E h1 hq hs _ => vx_prop hC hX hq (hP _ hs) hk hn)
  · show WW C μ _ _ _ lv _ h1
    obtain ⟨r, rfl, hf⟩ := hq
    exact kk r h1 hf hs

theorem m_callIv {b : Nat} (avs rest : List Value) {F : Hp → Prop} (hC : CxOK C μ) (hX : MX C μ d Q X) (hM : OKv d μ' (.ref b :: avs) h F X) (hk2 : k2 = k + μ'.2.2.2.2.2.1) (hn2 : n2 = n + μ'.2.2.2.2.2.2) (hk : k + μ'.2.2.2.2.2.1 ≤ μ.2.2.2.2.2.1) (hn : n + μ'.2.2.2.2.2.2 ≤ μ.2.2.2.2.2.2) (hloc : μ'.2.2.1 ≤ 21) (hd : decode μ.2.1 pc = .ok (.invokespecial ix, 3)) (cl : CLI μ.1.cls ix μ' avs.length) (hs0 : st = avs.reverse ++ .ref b :: rest) (h8 : (rest.map fun v => v.category).sum ≤ 8) 
    (kk : ∀ (h1 : Hp), F h1 → μ'.2.2.2.2.1 h1.2.2 → WW C μ k2 n2 (pc + 3) lv rest h1) (hP : ∀ r, μ'.2.2.2.2.1 r → μ.2.2.2.2.1 r := by exact fun _ q => q) : WW C μ k n pc lv st h := by
  obtain ⟨d', hdd, hM⟩ := hM
  subst hk2; subst hn2
  refine w_callI avs rest hC (cas_of hX) hM (rm_of hX hdd hloc hk hn) hd cl hs0 h8 (fun v h1 hq hs _ _ => ?_) (fun E h1 hq hs _ => vx_prop hC hX hq (hP _ hs) hk hn)
  · show WW C μ _ _ _ lv _ h1
    obtain ⟨rfl, hf⟩ := hq
    exact kk h1 hf hs

theorem m_callJv {b : Nat} (avs rest : List Value) {F : Hp → Prop} (hC : CxOK C μ) (hX : MX C μ d Q X) (hM : OKv d μ' (.ref b :: avs) h F X) (hk2 : k2 = k + μ'.2.2.2.2.2.1) (hn2 : n2 = n + μ'.2.2.2.2.2.2) (hk : k + μ'.2.2.2.2.2.1 ≤ μ.2.2.2.2.2.1) (hn : n + μ'.2.2.2.2.2.2 ≤ μ.2.2.2.2.2.2) (hloc : μ'.2.2.1 ≤ 21) (hd : decode μ.2.1 pc = .ok (.invokespecial ix, 3)) (cl : CLJ μ.1.cls ix μ' avs.length) (hs0 : st = avs.reverse ++ .ref b :: rest) (h8 : (rest.map fun v => v.category).sum ≤ 8) 
    (kk : ∀ (h1 : Hp), F h1 → μ'.2.2.2.2.1 h1.2.2 → WW C μ k2 n2 (pc + 3) lv rest h1) (hP : ∀ r, μ'.2.2.2.2.1 r → μ.2.2.2.2.1 r := by exact fun _ q => q) : WW C μ k n pc lv st h := by
  obtain ⟨d', hdd, hM⟩ := hM
  subst hk2; subst hn2
  refine w_callJ avs rest hC (cas_of hX) hM (rm_of hX hdd hloc hk hn) hd cl hs0 h8 (fun v h1 hq hs _ _ => ?_) (fun E h1 hq hs _ => vx_prop hC hX hq (hP _ hs) hk hn)
  · show WW C μ _ _ _ lv _ h1
    obtain ⟨rfl, hf⟩ := hq
    exact kk h1 hf hs

end MCALL
theorem oki_of {μ : MI} (d : Nat) {av : List Value} {h : Hp} {F : Int32 → Hp → Prop} {X : String → Hp → Prop} (hy : plainName μ.1.cls = true) (hn : (lg_sl av).length ≤ μ.2.2.1) (hE : E μ d 0 0 0 (lv_args 0 av) [] h (Qi F) X) : OKi (d + 1) μ av h F X := ⟨d, Nat.lt_succ_self d, call_of hy hn hE⟩
theorem OKi.up {d d1 : Nat} {μ : MI} {av : List Value} {h : Hp} {F : Int32 → Hp → Prop} {X : String → Hp → Prop} (hd : d ≤ d1) (hq : OKi d μ av h F X) : OKi d1 μ av h F X := OK.up hd hq
theorem okl_of {μ : MI} (d : Nat) {av : List Value} {h : Hp} {F : Int64 → Hp → Prop} {X : String → Hp → Prop} (hy : plainName μ.1.cls = true) (hn : (lg_sl av).length ≤ μ.2.2.1) (hE : E μ d 0 0 0 (lv_args 0 av) [] h (Ql F) X) : OKl (d + 1) μ av h F X := ⟨d, Nat.lt_succ_self d, call_of hy hn hE⟩
theorem OKl.up {d d1 : Nat} {μ : MI} {av : List Value} {h : Hp} {F : Int64 → Hp → Prop} {X : String → Hp → Prop} (hd : d ≤ d1) (hq : OKl d μ av h F X) : OKl d1 μ av h F X := OK.up hd hq
theorem okr_of {μ : MI} (d : Nat) {av : List Value} {h : Hp} {F : Nat → Hp → Prop} {X : String → Hp → Prop} (hy : plainName μ.1.cls = true) (hn : (lg_sl av).length ≤ μ.2.2.1) (hE : E μ d 0 0 0 (lv_args 0 av) [] h (Qr F) X) : OKr (d + 1) μ av h F X := ⟨d, Nat.lt_succ_self d, call_of hy hn hE⟩
theorem OKr.up {d d1 : Nat} {μ : MI} {av : List Value} {h : Hp} {F : Nat → Hp → Prop} {X : String → Hp → Prop} (hd : d ≤ d1) (hq : OKr d μ av h F X) : OKr d1 μ av h F X := OK.up hd hq
theorem okv_of {μ : MI} (d : Nat) {av : List Value} {h : Hp} {F : Hp → Prop} {X : String → Hp → Prop} (hy : plainName μ.1.cls = true) (hn : (lg_sl av).length ≤ μ.2.2.1) (hE : E μ d 0 0 0 (lv_args 0 av) [] h (Qv F) X) : OKv (d + 1) μ av h F X := ⟨d, Nat.lt_succ_self d, call_of hy hn hE⟩
theorem OKv.up {d d1 : Nat} {μ : MI} {av : List Value} {h : Hp} {F : Hp → Prop} {X : String → Hp → Prop} (hd : d ≤ d1) (hq : OKv d μ av h F X) : OKv d1 μ av h F X := OK.up hd hq
theorem tsw_1 {x v : Int32} {lo : Int} (h : x = v) (hv : ¬ v.toInt < lo) : ¬ x.toInt < lo := by rw [h]; exact hv
theorem tsw_2 {x v : Int32} {hi : Int} (h : x = v) (hv : ¬ hi < v.toInt) : ¬ hi < x.toInt := by rw [h]; exact hv
theorem tsw_3 {x v : Int32} {lo off : Int} {offs : Array Int} (h : x = v) (hv : offs[(v.toInt - lo).toNat]? = some off) : offs[(x.toInt - lo).toNat]? = some off := by rw [h]; exact hv
theorem tsw_n {x v : Int32} {w : Int} (h : ¬ x = v) (hv : v.toInt = w) : x.toInt ≠ w := fun z => h (Int32.toInt_inj.mp (z.trans hv.symm))
theorem tsw_o {x : Int32} {lo hi : Int} (h : ∀ v : Int, lo ≤ v → v ≤ hi → x.toInt ≠ v) : x.toInt < lo ∨ hi < x.toInt := by
  by_cases h1 : x.toInt < lo
  · exact Or.inl h1
  · by_cases h2 : hi < x.toInt
    · exact Or.inr h2
    · exact absurd rfl (h x.toInt (by omega) (by omega))
theorem lsw_d {k d : Int} : ∀ {ps : List (Int × Int)}, (∀ p ∈ ps, p.1 ≠ k) → Op.lookupswitch.offset ps d k = d
  | [], _ => rfl
  | (a, o) :: r, h => by
    rw [Op.lookupswitch.offset_cons, if_neg (h (a, o) List.mem_cons_self)]
    exact lsw_d (fun p hp => h p (List.mem_cons_of_mem _ hp))
theorem lsw_1 {x v : Int32} {off d : Int} {ps : List (Int × Int)} (h : x = v) (hv : Op.lookupswitch.offset ps d v.toInt = off) : Op.lookupswitch.offset ps d x.toInt = off := by rw [h]; exact hv

theorem ic_m1 : Int32.ofInt (-1) = -1 := by decide
theorem ic_0 : Int32.ofInt (0) = 0 := by decide
theorem ic_1 : Int32.ofInt (1) = 1 := by decide
theorem ic_2 : Int32.ofInt (2) = 2 := by decide
theorem ic_3 : Int32.ofInt (3) = 3 := by decide
theorem ic_4 : Int32.ofInt (4) = 4 := by decide
theorem ic_5 : Int32.ofInt (5) = 5 := by decide
theorem bp_m42 : (Int8.ofInt (-42)).toInt32 = -42 := by decide
theorem bp_m22 : (Int8.ofInt (-22)).toInt32 = -22 := by decide
theorem bp_m21 : (Int8.ofInt (-21)).toInt32 = -21 := by decide
theorem bp_m20 : (Int8.ofInt (-20)).toInt32 = -20 := by decide
theorem bp_m10 : (Int8.ofInt (-10)).toInt32 = -10 := by decide
theorem bp_m7 : (Int8.ofInt (-7)).toInt32 = -7 := by decide
theorem bp_m3 : (Int8.ofInt (-3)).toInt32 = -3 := by decide
theorem bp_m2 : (Int8.ofInt (-2)).toInt32 = -2 := by decide
theorem bp_6 : (Int8.ofInt (6)).toInt32 = 6 := by decide
theorem bp_7 : (Int8.ofInt (7)).toInt32 = 7 := by decide
theorem bp_8 : (Int8.ofInt (8)).toInt32 = 8 := by decide
theorem bp_9 : (Int8.ofInt (9)).toInt32 = 9 := by decide
theorem bp_10 : (Int8.ofInt (10)).toInt32 = 10 := by decide
theorem bp_11 : (Int8.ofInt (11)).toInt32 = 11 := by decide
theorem bp_12 : (Int8.ofInt (12)).toInt32 = 12 := by decide
theorem bp_14 : (Int8.ofInt (14)).toInt32 = 14 := by decide
theorem bp_15 : (Int8.ofInt (15)).toInt32 = 15 := by decide
theorem bp_16 : (Int8.ofInt (16)).toInt32 = 16 := by decide
theorem bp_17 : (Int8.ofInt (17)).toInt32 = 17 := by decide
theorem bp_18 : (Int8.ofInt (18)).toInt32 = 18 := by decide
theorem bp_20 : (Int8.ofInt (20)).toInt32 = 20 := by decide
theorem bp_24 : (Int8.ofInt (24)).toInt32 = 24 := by decide
theorem bp_30 : (Int8.ofInt (30)).toInt32 = 30 := by decide
theorem bp_32 : (Int8.ofInt (32)).toInt32 = 32 := by decide
theorem bp_40 : (Int8.ofInt (40)).toInt32 = 40 := by decide
theorem bp_41 : (Int8.ofInt (41)).toInt32 = 41 := by decide
theorem bp_42 : (Int8.ofInt (42)).toInt32 = 42 := by decide
theorem bp_43 : (Int8.ofInt (43)).toInt32 = 43 := by decide
theorem bp_45 : (Int8.ofInt (45)).toInt32 = 45 := by decide
theorem bp_48 : (Int8.ofInt (48)).toInt32 = 48 := by decide
theorem bp_50 : (Int8.ofInt (50)).toInt32 = 50 := by decide
theorem bp_57 : (Int8.ofInt (57)).toInt32 = 57 := by decide
theorem bp_59 : (Int8.ofInt (59)).toInt32 = 59 := by decide
theorem bp_60 : (Int8.ofInt (60)).toInt32 = 60 := by decide
theorem bp_61 : (Int8.ofInt (61)).toInt32 = 61 := by decide
theorem bp_62 : (Int8.ofInt (62)).toInt32 = 62 := by decide
theorem bp_63 : (Int8.ofInt (63)).toInt32 = 63 := by decide
theorem bp_64 : (Int8.ofInt (64)).toInt32 = 64 := by decide
theorem bp_81 : (Int8.ofInt (81)).toInt32 = 81 := by decide
theorem bp_91 : (Int8.ofInt (91)).toInt32 = 91 := by decide
theorem bp_93 : (Int8.ofInt (93)).toInt32 = 93 := by decide
theorem bp_97 : (Int8.ofInt (97)).toInt32 = 97 := by decide
theorem bp_120 : (Int8.ofInt (120)).toInt32 = 120 := by decide
theorem bp_122 : (Int8.ofInt (122)).toInt32 = 122 := by decide
theorem sp_160 : (Int16.ofInt (160)).toInt32 = 160 := by decide
theorem sp_168 : (Int16.ofInt (168)).toInt32 = 168 := by decide
theorem sp_192 : (Int16.ofInt (192)).toInt32 = 192 := by decide
theorem sp_255 : (Int16.ofInt (255)).toInt32 = 255 := by decide
theorem sp_256 : (Int16.ofInt (256)).toInt32 = 256 := by decide
theorem sp_300 : (Int16.ofInt (300)).toInt32 = 300 := by decide
theorem sp_301 : (Int16.ofInt (301)).toInt32 = 301 := by decide
theorem sp_384 : (Int16.ofInt (384)).toInt32 = 384 := by decide
theorem sp_500 : (Int16.ofInt (500)).toInt32 = 500 := by decide
theorem sp_512 : (Int16.ofInt (512)).toInt32 = 512 := by decide
theorem sp_720 : (Int16.ofInt (720)).toInt32 = 720 := by decide
theorem sp_960 : (Int16.ofInt (960)).toInt32 = 960 := by decide
theorem sp_1000 : (Int16.ofInt (1000)).toInt32 = 1000 := by decide
theorem sp_3600 : (Int16.ofInt (3600)).toInt32 = 3600 := by decide
theorem sp_10000 : (Int16.ofInt (10000)).toInt32 = 10000 := by decide
theorem sp_20000 : (Int16.ofInt (20000)).toInt32 = 20000 := by decide
theorem lc_0 : Int64.ofNat (0 : Fin 2).val = 0 := by decide
theorem lc_1 : Int64.ofNat (1 : Fin 2).val = 1 := by decide
theorem ii_1 (x : Int32) : x + Int32.ofInt 1 = x + 1 := by rw [ic_1]
theorem ii_m1 (x : Int32) : x + Int32.ofInt (-1) = x + (-1) := by rw [ic_m1]
theorem ii_m8 (x : Int32) : x + Int32.ofInt (-8) = x + (-8) := by rw [show Int32.ofInt (-8) = -8 by decide]
theorem ii_7 (x : Int32) : x + Int32.ofInt (7) = x + (7) := by rw [show Int32.ofInt (7) = 7 by decide]
section MATHS
variable {C : Ctx} {μ : MI} {d k n pc ix : Nat} {lv : List (Nat × Value)} {st : List Value} {h : Hp} {Q : Option Value → Hp → Prop} {X : String → Hp → Prop}
theorem w_mmaxI {x y : Int32} (hC : CxOK C μ) (hX : MX C μ d Q X) (hd : decode μ.2.1 pc = .ok (.invokestatic ix, 3)) (hw : Cond.methodLink μ.1.cls ix Lib.Math.max.name ∈ BIG) (h1 : 1 ≤ d) (h8 : (st.map fun v => v.category).sum ≤ 8) (hk : k ≤ μ.2.2.2.2.2.1) (hn : n ≤ μ.2.2.2.2.2.2)
    (kk : WW C μ k n (pc + 3) lv (.int (if x < y then y else x) :: st) h) : WW C μ k n pc lv (.int y :: .int x :: st) h := by
  obtain ⟨p, l, e, R, s, m, args, below, meth, c, D, g, A, ad0, n0, Qf⟩ := C
  obtain ⟨hx, hb, hml, hown, hts, hr0, hlk, hK, hA, hl9, hN, hT, hZ⟩ := hC
  obtain ⟨htab, hR, hCs, rfl⟩ := hX
  subst hR
  intro ad H locs ls hW hlv hst hl
  exact va_mmax hx hb (hml.trans hl.1.symm) hown (hts _ hw) (hts _ b_3_169) (hts _ b_1_19) (hts _ b_3_170) (show 1 ≤ d from h1) (by rw [cat_cv]; show _ ≤ 40 * d; omega) hk hn hd (kk ad H locs ls hW hlv (fun v hv => (List.mem_cons.mp hv).elim (fun q => by rw [q]; trivial) (fun hv => hst v (List.mem_cons_of_mem _ (List.mem_cons_of_mem _ (hv))))) hl)

theorem w_mminI {x y : Int32} (hC : CxOK C μ) (hX : MX C μ d Q X) (hd : decode μ.2.1 pc = .ok (.invokestatic ix, 3)) (hw : Cond.methodLink μ.1.cls ix Lib.Math.min.name ∈ BIG) (h1 : 1 ≤ d) (h8 : (st.map fun v => v.category).sum ≤ 8) (hk : k ≤ μ.2.2.2.2.2.1) (hn : n ≤ μ.2.2.2.2.2.2)
    (kk : WW C μ k n (pc + 3) lv (.int (if y < x then y else x) :: st) h) : WW C μ k n pc lv (.int y :: .int x :: st) h := by
  obtain ⟨p, l, e, R, s, m, args, below, meth, c, D, g, A, ad0, n0, Qf⟩ := C
  obtain ⟨hx, hb, hml, hown, hts, hr0, hlk, hK, hA, hl9, hN, hT, hZ⟩ := hC
  obtain ⟨htab, hR, hCs, rfl⟩ := hX
  subst hR
  intro ad H locs ls hW hlv hst hl
  exact va_mmin hx hb (hml.trans hl.1.symm) hown (hts _ hw) (hts _ b_6_13) (hts _ b_1_19) (hts _ b_6_14) (show 1 ≤ d from h1) (by rw [cat_cv]; show _ ≤ 40 * d; omega) hk hn hd (kk ad H locs ls hW hlv (fun v hv => (List.mem_cons.mp hv).elim (fun q => by rw [q]; trivial) (fun hv => hst v (List.mem_cons_of_mem _ (List.mem_cons_of_mem _ (hv))))) hl)

theorem w_mabsI {x : Int32} (hC : CxOK C μ) (hX : MX C μ d Q X) (hd : decode μ.2.1 pc = .ok (.invokestatic ix, 3)) (hw : Cond.methodLink μ.1.cls ix Lib.Math.abs.name ∈ BIG) (h1 : 1 ≤ d) (h8 : (st.map fun v => v.category).sum ≤ 8) (hk : k ≤ μ.2.2.2.2.2.1) (hn : n ≤ μ.2.2.2.2.2.2)
    (kk : WW C μ k n (pc + 3) lv (.int (if 0 ≤ x then x else 0 - x) :: st) h) : WW C μ k n pc lv (.int x :: st) h := by
  obtain ⟨p, l, e, R, s, m, args, below, meth, c, D, g, A, ad0, n0, Qf⟩ := C
  obtain ⟨hx, hb, hml, hown, hts, hr0, hlk, hK, hA, hl9, hN, hT, hZ⟩ := hC
  obtain ⟨htab, hR, hCs, rfl⟩ := hX
  subst hR
  intro ad H locs ls hW hlv hst hl
  exact va_mabs hx hb (hml.trans hl.1.symm) hown (hts _ hw) (hts _ b_3_109) (hts _ b_1_19) (hts _ b_3_110) (show 1 ≤ d from h1) (by rw [cat_cv]; show _ ≤ 40 * d; omega) hk hn hd (kk ad H locs ls hW hlv (fun v hv => (List.mem_cons.mp hv).elim (fun q => by rw [q]; trivial) (fun hv => hst v (List.mem_cons_of_mem _ (hv)))) hl)

theorem w_mmaxL {x y : Int64} (hC : CxOK C μ) (hX : MX C μ d Q X) (hd : decode μ.2.1 pc = .ok (.invokestatic ix, 3)) (hw : Cond.methodLink μ.1.cls ix Lib.MathLoose.max_long.x ∈ BIG) (h1 : 1 ≤ d) (h8 : (st.map fun v => v.category).sum ≤ 8) (hk : k ≤ μ.2.2.2.2.2.1) (hn : n ≤ μ.2.2.2.2.2.2)
    (kk : WW C μ k n (pc + 3) lv (.long (if y < x then x else y) :: st) h) : WW C μ k n pc lv (.long y :: .long x :: st) h := by
  obtain ⟨p, l, e, R, s, m, args, below, meth, c, D, g, A, ad0, n0, Qf⟩ := C
  obtain ⟨hx, hb, hml, hown, hts, hr0, hlk, hK, hA, hl9, hN, hT, hZ⟩ := hC
  obtain ⟨htab, hR, hCs, rfl⟩ := hX
  subst hR
  intro ad H locs ls hW hlv hst hl
  exact va_mmax_long hx hb (hml.trans hl.1.symm) hown (hts _ hw) (hts _ b_4_123) (hts _ b_1_19) (hts _ b_4_124) (show 1 ≤ d from h1) (by rw [cat_cv]; show _ ≤ 40 * d; omega) hk hn hd (kk ad H locs ls hW hlv (fun v hv => (List.mem_cons.mp hv).elim (fun q => by rw [q]; trivial) (fun hv => hst v (List.mem_cons_of_mem _ (List.mem_cons_of_mem _ (hv))))) hl)

theorem w_mminL {x y : Int64} (hC : CxOK C μ) (hX : MX C μ d Q X) (hd : decode μ.2.1 pc = .ok (.invokestatic ix, 3)) (hw : Cond.methodLink μ.1.cls ix Lib.MathLoose.min_long.x ∈ BIG) (h1 : 1 ≤ d) (h8 : (st.map fun v => v.category).sum ≤ 8) (hk : k ≤ μ.2.2.2.2.2.1) (hn : n ≤ μ.2.2.2.2.2.2)
    (kk : WW C μ k n (pc + 3) lv (.long (if y < x then y else x) :: st) h) : WW C μ k n pc lv (.long y :: .long x :: st) h := by
  obtain ⟨p, l, e, R, s, m, args, below, meth, c, D, g, A, ad0, n0, Qf⟩ := C
  obtain ⟨hx, hb, hml, hown, hts, hr0, hlk, hK, hA, hl9, hN, hT, hZ⟩ := hC
  obtain ⟨htab, hR, hCs, rfl⟩ := hX
  subst hR
  intro ad H locs ls hW hlv hst hl
  exact va_mmin_long hx hb (hml.trans hl.1.symm) hown (hts _ hw) (hts _ b_4_120) (hts _ b_1_19) (hts _ b_4_121) (show 1 ≤ d from h1) (by rw [cat_cv]; show _ ≤ 40 * d; omega) hk hn hd (kk ad H locs ls hW hlv (fun v hv => (List.mem_cons.mp hv).elim (fun q => by rw [q]; trivial) (fun hv => hst v (List.mem_cons_of_mem _ (List.mem_cons_of_mem _ (hv))))) hl)

end MATHS
