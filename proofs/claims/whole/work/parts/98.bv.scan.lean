/-! tokens, by the class -/
section SCAN
def bg (t : Nat → Int32) (n p : Nat) : Nat := rnE isBl t n p
def tkE (t : Nat → Int32) (n p : Nat) : Nat := if n ≤ bg t n p then bg t n p else if isLt (t (bg t n p)) = true then rnE isLt t n (bg t n p) else if isDg (t (bg t n p)) = true then rnE isDg t n (bg t n p) else bg t n p + 1
def tkK (t : Nat → Int32) (n p : Nat) : Int32 := if n ≤ bg t n p then 16 else if isLt (t (bg t n p)) = true then wdF t (bg t n p) (rnE isLt t n (bg t n p)) 14 else if isDg (t (bg t n p)) = true then (if rnE isDg t n (bg t n p) - bg t n p ≤ 5 then 15 else 17) else if isKn (t (bg t n p)) = true then t (bg t n p) else 17
def tkV (t : Nat → Int32) (n p : Nat) : Int32 := dgV t (bg t n p) (rnE isDg t n (bg t n p) - bg t n p)
variable {t : Nat → Int32} {n p b e w k : Nat} {h q g : Hp} {d : Nat} {X : String → Hp → Prop} {F : Int32 → Hp → Prop} {G : Hp → Prop}
theorem TxC.fr {L : List Nat} {fs : List (Nat × Nat)} (T : TxC t h) (f : Fr L fs h q) (hn : ∀ j, inW L fs 89 j = false := by exact fun _ => rfl) : TxC t q := fun i hi => by rw [f.i 89 i (hn i)]; exact T i hi
theorem ok_scanWord (hd : 10 ≤ d) (hS : Std h.2.2) (ht : TxC t h) (h6 : h.1 73 6 = nI k) (hk : k ≤ 300) (hb : b < n) (hn : n ≤ 300) (hl : isLt (t b) = true) (hq : ∀ q, Fr [82] [] h q → (∀ j, j ≠ k → q.1 82 j = h.1 82 j) → q.1 82 k = wdF t b (rnE isLt t n b) 14 → F (nI (rnE isLt t n b)) q) : OKi d mX6_scanWord [.ref 73, .ref 89, .int (nI n), .int (nI b)] h F X := by
  have eb : b + 1 ≤ rnE isLt t n b := by rw [rnE_s hb hl]; exact rnE_ge
  have en : rnE isLt t n b ≤ n := rnE_le (by omega)
  have s40 : ∀ (m w : Nat) (q : Hp), w + m = 14 → Fr [82] [] h q → (∀ j, j ≠ k → q.1 82 j = h.1 82 j) → q.1 82 k = wdF t b (rnE isLt t n b) w → E mX6_scanWord 9 0 0 40 [(0, .ref 73), (1, .ref 89), (3, .int (nI b)), (4, .int (nI (rnE isLt t n b))), (5, .int (nI w))] [] q (Qi F) X := by
    intro m
    induction m with
    | zero =>
      intro w q e1 f I J
      have : w = 14 := by omega
      subst this
      exact sgX6_scanWord_40 _ _ _ (Nat.le_refl _) (f.sd hS) ⟨fun _ => hq q f I J, fun z => absurd (by decide) z⟩
    | succ m ih =>
      intro w q e1 f I J
      refine sgX6_scanWord_40 _ _ _ (Nat.le_refl _) (f.sd hS) ⟨fun z => absurd z (by rw [lit_nI 14]; exact nI_ge (by omega) (by omega)), fun _ => ok_isWord (t := t) (by omega) (f.sd hS) (ht.fr f) (by omega) (by omega) (by omega) ⟨fun z => ?_, fun z => ?_⟩⟩
      · rw [nI_1]
        exact ih (w + 1) q (by omega) f I (by rw [wdF, bI_0.mp z, if_neg (by decide)]; exact J)
      · rw [f.i 73 6, h6, nI_clamp (by omega), nI_1]
        refine ⟨vin (by omega), ih (w + 1) _ (by omega) (f.tr Fr.pI) (fun j hj => by rw [hI_j hj]; exact I j hj) ?_⟩
        rw [hI_k, wdF, bI_n0.mp z, if_pos rfl]
  have s3 : ∀ (m p : Nat) (q : Hp), n - p = m → b ≤ p → p ≤ n → rnE isLt t n p = rnE isLt t n b → Fr [82] [] h q → (∀ j, j ≠ k → q.1 82 j = h.1 82 j) → (b < p → q.1 82 k = 14) → E mX6_scanWord 9 0 0 3 [(0, .ref 73), (1, .ref 89), (2, .int (nI n)), (3, .int (nI b)), (4, .int (nI p))] [] q (Qi F) X := by
    intro m
    induction m with
    | zero =>
      intro p q e1 bp pn ep f I J
      have pe : p = n := by omega
      have : rnE isLt t n p = p := rnE_e (by omega)
      have e2 : p = rnE isLt t n b := this.symm.trans ep
      refine sgX6_scanWord_3 _ _ _ (Nat.le_refl _) (f.sd hS) ⟨fun _ => ?_, fun z => absurd (by rw [pe]; exact Int32.le_refl _) z⟩
      have := s40 14 0 q rfl f I (J (by omega))
      rw [← e2] at this; exact this
    | succ m ih =>
      intro p q e1 bp pn ep f I J
      have lt : p < n := by omega
      refine sgX6_scanWord_3 _ _ _ (Nat.le_refl _) (f.sd hS) ⟨fun z => absurd z (nI_ge lt (by omega)), fun _ => ?_⟩
      rw [nI_clamp (by omega), (ht.fr f) p (by omega)]
      refine ⟨vin (by omega), ok_isLt (by omega) (f.sd hS) ⟨fun z => ?_, fun z => ?_⟩⟩
      · have : rnE isLt t n p = p := rnE_e (fun y => by rw [bI_0.mp z] at y; exact absurd y.2 (by decide))
        have e2 : p = rnE isLt t n b := this.symm.trans ep
        have := s40 14 0 q rfl f I (J (by omega))
        rw [← e2] at this; exact this
      · rw [f.i 73 6, h6, nI_clamp (by omega), nI_1]
        exact ⟨vin (by omega), ih (p + 1) _ (by omega) (by omega) (by omega) (by rw [← rnE_s lt (bI_n0.mp z)]; exact ep) (f.tr Fr.pI) (fun j hj => by rw [hI_j hj]; exact I j hj) fun _ => hI_k⟩
  exact enX6_scanWord _ _ hd hS (s3 _ b h rfl (Nat.le_refl _) (by omega) rfl Fr.rf (fun _ _ => rfl) fun z => absurd z (Nat.lt_irrefl _))
theorem ok_scanNumber (hd : 2 ≤ d) (hS : Std h.2.2) (ht : TxC t h) (h6 : h.1 73 6 = nI k) (hk : k ≤ 300) (hb : b ≤ n) (hn : n ≤ 300) (hq : ∀ q, Fr [82, 83] [] h q → (∀ j, j ≠ k → q.1 82 j = h.1 82 j ∧ q.1 83 j = h.1 83 j) → q.1 82 k = (if rnE isDg t n b - b ≤ 5 then 15 else 17) → q.1 83 k = dgV t b (rnE isDg t n b - b) → F (nI (rnE isDg t n b)) q) : OKi d mX6_scanNumber [.ref 73, .ref 89, .int (nI n), .int (nI b)] h F X := by
  have en : rnE isDg t n b ≤ n := rnE_le hb
  have eb : b ≤ rnE isDg t n b := rnE_ge
  have fin : ∀ x : Int32, x = (if rnE isDg t n b - b ≤ 5 then 15 else 17) → F (nI (rnE isDg t n b)) (hI (hI h 82 k x) 83 k (dgV t b (rnE isDg t n b - b))) := fun x ex => hq _ (Fr.tr Fr.pI Fr.pI) (fun j hj => ⟨by rw [hI_c (by decide), hI_j hj], by rw [hI_j hj, hI_c (by decide)]⟩) (by rw [hI_c (by decide), hI_k, ex]) hI_k
  have both : ∀ m, b + m = rnE isDg t n b → (((nI (rnE isDg t n b) - nI b) ≤ 5 → (vp_in (h.1 73 6) 301 ∧ (vp_in (h.1 73 6) 301 ∧ F (nI (rnE isDg t n b)) (hI (hI h 82 ((h.1 73 6).toNatClampNeg) 15) 83 ((h.1 73 6).toNatClampNeg) (dgV t b m))))) ∧ (¬ (nI (rnE isDg t n b) - nI b) ≤ 5 → (vp_in (h.1 73 6) 301 ∧ (vp_in (h.1 73 6) 301 ∧ F (nI (rnE isDg t n b)) (hI (hI h 82 ((h.1 73 6).toNatClampNeg) 17) 83 ((h.1 73 6).toNatClampNeg) (dgV t b m)))))) := fun m em => by
    have e2 : m = rnE isDg t n b - b := by omega
    rw [h6, nI_clamp (by omega), pk_sub eb, lit_nI 5, e2]
    refine ⟨fun z => ⟨vin (by omega), vin (by omega), fin 15 ?_⟩, fun z => ⟨vin (by omega), vin (by omega), fin 17 ?_⟩⟩
    · rw [if_pos ((nI_leI (by omega) (by omega)).mp z)]
    · rw [if_neg (fun y => z (nI_le y (by omega)))]
  have s6 : ∀ (m p j : Nat), n - p = m → p = b + j → p ≤ n → rnE isDg t n p = rnE isDg t n b → E mX6_scanNumber 1 0 0 6 [(0, .ref 73), (1, .ref 89), (2, .int (nI n)), (3, .int (nI b)), (4, .int (dgV t b j)), (5, .int (nI p))] [] h (Qi F) X := by
    intro m
    induction m with
    | zero =>
      intro p j e1 pj pn ep
      have pe : p = n := by omega
      have : rnE isDg t n p = p := rnE_e (by omega)
      have e2 : p = rnE isDg t n b := this.symm.trans ep
      rw [e2]
      exact sgX6_scanNumber_6 _ _ _ _ (Nat.le_refl _) hS ⟨fun _ => both j (by omega), fun z => absurd (by rw [← e2, pe]; exact Int32.le_refl _) z⟩
    | succ m ih =>
      intro p j e1 pj pn ep
      have lt : p < n := by omega
      refine sgX6_scanNumber_6 _ _ _ _ (Nat.le_refl _) hS ⟨fun z => absurd z (nI_ge lt (by omega)), fun _ => ?_⟩
      rw [nI_clamp (by omega), ht p (by omega)]
      refine ⟨vin (by omega), ok_isDg (by omega) hS ⟨fun z => ?_, fun z => ?_⟩⟩
      · have : rnE isDg t n p = p := rnE_e (fun y => by rw [bI_0.mp z] at y; exact absurd y.2 (by decide))
        have e2 : p = rnE isDg t n b := this.symm.trans ep
        rw [e2]; exact both j (by omega)
      · have nx := fun v (ev : v = dgV t b (j + 1)) => ih (p + 1) (j + 1) (by omega) (by omega) (by omega) (by rw [← rnE_s lt (bI_n0.mp z)]; exact ep)
        rw [pk_sub (by omega), lit_nI 5, show p - b = j by omega, nI_1]
        refine ⟨fun y => ?_, fun y => ⟨vin (by omega), ?_⟩⟩
        · have y := (nI_leI (by omega) (by omega)).mp y
          have := nx _ rfl
          rw [dgV, if_neg (by omega)] at this
          exact this
        · have j5 : j < 5 := Nat.not_le.mp fun x => y (nI_le x (by omega))
          have := nx _ rfl
          rw [dgV, if_pos j5, ← pj] at this
          rw [ht p (by omega)]
          exact this
  exact enX6_scanNumber _ _ hd hS (s6 _ b 0 rfl rfl hb rfl)
theorem ok_scanSign {c : Int32} (hd : 1 ≤ d) (hS : Std h.2.2) (h6 : h.1 73 6 = nI k) (hk : k ≤ 300) (hq : F (nI (b + 1)) (hI h 82 k (if isKn c = true then c else 17))) : OKi d mX6_scanSign [.ref 73, .int c, .int (nI b)] h F X := by
  have kn : isKn c = true → F (nI (b + 1)) (hI h 82 k c) := fun z => by rw [if_pos z] at hq; exact hq
  refine enX6_scanSign _ _ hd hS ?_
  rw [h6, nI_clamp (by omega), nI_1]
  have v : vp_in (nI k) 301 := vin (by omega)
  refine ⟨fun z => ⟨v, kn (by rw [z]; decide)⟩, fun z => ⟨v, kn (by rw [z]; decide)⟩, fun z => ⟨v, kn (by rw [z]; decide)⟩, fun z => ⟨v, kn (by rw [z]; decide)⟩, fun z => ⟨v, kn (by rw [z]; decide)⟩, fun z => ⟨v, kn (by rw [z]; decide)⟩, fun z => ⟨v, kn (by rw [z]; decide)⟩, fun z => ⟨v, kn (by rw [z]; decide)⟩, fun z => ⟨v, kn (by rw [z]; decide)⟩, fun z => ⟨v, kn (by rw [z]; decide)⟩, fun z => ⟨v, kn (by rw [z]; decide)⟩, fun z1 z2 z3 z4 z5 z6 z7 z8 z9 z10 z11 => ⟨v, ?_⟩⟩
  rw [isKn, decide_eq_false z1, decide_eq_false z2, decide_eq_false z3, decide_eq_false z4, decide_eq_false z5, decide_eq_false z6, decide_eq_false z7, decide_eq_false z8, decide_eq_false z9, decide_eq_false z10, decide_eq_false z11, if_neg (by decide)] at hq
  exact hq
end SCAN
