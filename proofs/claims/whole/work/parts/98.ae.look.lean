/-! look: the class -/
set_option maxRecDepth 100000 in
theorem sgX12_look_104b (x1 : Int64) (x3 : Int32) (x4 : Int32) (x5 : Int32) (x6 : Int32) (x7 : Int32) (x8 : Int32) (x9 : Int32) {h : Hp} {d : Nat} {F : Int32 → Hp → Prop} {X : String → Hp → Prop} (hd : 9 ≤ d) (hS : Std h.2.2) (hv : (vp_in (((16 : Int32) * x8) + x9) 960 ∧ (((h.1 107 ((((16 : Int32) * x8) + x9).toNatClampNeg)) = 0 → OKi d mX12_open [.ref 91, .long x1, .int x3, .int x4] (hI (hI (hI h 91 36 x8) 91 37 x9) 91 38 1) (fun (r2 : Int32) (h3 : Hp) => OKi d mX12_open [.ref 91, .long x1, .int x3, .int x4] (hI h3 91 38 2) (fun (r6 : Int32) (h7 : Hp) => ((x6 = (-1) → E mX12_look d 0 0 187 [(0, .ref 91), (1, .long x1), (3, .int x3), (4, .int x4), (5, .int x5), (8, .int x8), (9, .int x9), (10, .int (if r2 < r6 then r6 else r2))] [] (hI h7 91 36 (-1)) (Qi F) X) ∧ (¬ x6 = (-1) → (((if r2 < r6 then r6 else r2) < x7 → E mX12_look d 0 0 187 [(0, .ref 91), (1, .long x1), (3, .int x3), (4, .int x4), (5, .int x5), (8, .int x8), (9, .int x9), (10, .int (if r2 < r6 then r6 else r2))] [] (hI h7 91 36 (-1)) (Qi F) X) ∧ (¬ (if r2 < r6 then r6 else r2) < x7 → E mX12_look d 0 0 201 [(0, .ref 91), (1, .long x1), (3, .int x3), (4, .int x4), (5, .int x5), (6, .int x6), (7, .int x7), (8, .int x8), (9, .int x9)] [] (hI h7 91 36 (-1)) (Qi F) X))))) X) X) ∧ (¬ (h.1 107 ((((16 : Int32) * x8) + x9).toNatClampNeg)) = 0 → E mX12_look d 0 0 201 [(0, .ref 91), (1, .long x1), (3, .int x3), (4, .int x4), (5, .int x5), (6, .int x6), (7, .int x7), (8, .int x8), (9, .int x9)] [] h (Qi F) X)))) : E mX12_look d 0 0 104 [(0, .ref 91), (1, .long x1), (3, .int x3), (4, .int x4), (5, .int x5), (6, .int x6), (7, .int x7), (8, .int x8), (9, .int x9)] [.ref 107] h (Qi F) X := fun C hC hX =>
  (w_bipush (x := 16) hC dX12_look_104 bp_16 (w_iload hC dX12_look_106 7 rfl (w_imul hC dX12_look_108 (w_iload hC dX12_look_109 8 rfl (w_iadd hC dX12_look_111 (w_iald hC dX12_look_112 sa_107 (std_lt hS rfl) hv.1 (w_if_eq hC dX12_look_113 (tgt := 119) (by decide) (fun c1 => (w_aload_n hC dX12_look_119 rfl 0 rfl (w_iload hC dX12_look_120 7 rfl (w_putI hC dX12_look_122 fl_X12_91 sf_91_36 (std_lt hS rfl) (w_aload_n hC dX12_look_125 rfl 0 rfl (w_iload hC dX12_look_126 8 rfl (w_putI hC dX12_look_128 fl_X12_299 sf_91_37 (std_lt hS rfl) (w_aload_n hC dX12_look_131 rfl 0 rfl (w_iconst (x := 1) hC dX12_look_132 ic_1 (w_putI hC dX12_look_133 fl_X12_302 sf_91_38 (std_lt hS rfl) (w_aload_n hC dX12_look_136 rfl 0 rfl (w_lload_n hC dX12_look_137 rfl 1 rfl (w_iload_n hC dX12_look_138 rfl 2 rfl (w_iload hC dX12_look_139 3 rfl (m_callVi (k2 := 0) (n2 := 0) [.long x1, .int x3, .int x4] [] hC hX (hv.2.1 c1) rfl rfl (by decide) (by decide) (by decide) dX12_look_141 cl_X12_450 ob_91 (std_lt hS rfl) rfl (Nat.le_of_ble_eq_true rfl) (fun r2 h3 q4 hS5 => (w_istore (lv' := [(0, .ref 91), (1, .long x1), (3, .int x3), (4, .int x4), (5, .int x5), (6, .int x6), (7, .int x7), (8, .int x8), (9, .int x9), (10, .int r2)]) hC dX12_look_144 (by decide) [1, 2, 3, 4, 5, 6, 7, 8, 9, 0] rfl (w_aload_n hC dX12_look_146 rfl 0 rfl (w_iconst (x := 2) hC dX12_look_147 ic_2 (w_putI hC dX12_look_148 fl_X12_302 sf_91_38 (std_lt hS5 rfl) (w_iload hC dX12_look_151 9 rfl (w_aload_n hC dX12_look_153 rfl 0 rfl (w_lload_n hC dX12_look_154 rfl 1 rfl (w_iload_n hC dX12_look_155 rfl 2 rfl (w_iload hC dX12_look_156 3 rfl (m_callVi (k2 := 0) (n2 := 0) [.long x1, .int x3, .int x4] [.int r2] hC hX q4 rfl rfl (by decide) (by decide) (by decide) dX12_look_158 cl_X12_450 ob_91 (std_lt hS5 rfl) rfl (Nat.le_of_ble_eq_true rfl) (fun r6 h7 q8 hS9 => (w_mmaxI hC hX dX12_look_161 b_9_152 (Nat.le_trans (by decide) hd) (Nat.le_of_ble_eq_true rfl) (by decide) (by decide) (w_istore (lv' := [(0, .ref 91), (1, .long x1), (3, .int x3), (4, .int x4), (5, .int x5), (6, .int x6), (7, .int x7), (8, .int x8), (9, .int x9), (10, .int (if r2 < r6 then r6 else r2))]) hC dX12_look_164 (by decide) [1, 2, 3, 4, 5, 6, 7, 8, 9, 0] rfl (w_aload_n hC dX12_look_166 rfl 0 rfl (w_iconst (x := -1) hC dX12_look_167 ic_m1 (w_putI hC dX12_look_168 fl_X12_91 sf_91_36 (std_lt hS9 rfl) (w_iload hC dX12_look_171 5 rfl (w_iconst (x := -1) hC dX12_look_173 ic_m1 (w_icmp_eq hC dX12_look_174 (tgt := 187) (by decide) (fun c10 => (w_drop [0, 1, 2, 3, 4, 7, 8, 9] rfl ((q8.1 c10) C hC hX))) (fun c10 => (w_iload hC dX12_look_177 9 rfl (w_iload hC dX12_look_179 6 rfl (w_icmp_lt hC dX12_look_181 (tgt := 187) (by decide) (fun c11 => (w_drop [0, 1, 2, 3, 4, 7, 8, 9] rfl (((q8.2 c10).1 c11) C hC hX))) (fun c11 => (w_goto hC dX12_look_184 (tgt := 201) (by decide) (w_drop [0, 1, 2, 3, 4, 5, 6, 7, 8] rfl (((q8.2 c10).2 c11) C hC hX))))))))))))))))))))))))))))))))))))))))))) (fun c1 => (w_goto hC dX12_look_116 (tgt := 201) (by decide) ((hv.2.2 c1) C hC hX))))))))))
section LOOK
variable {σ h : Hp} {d : Nat} {X : String → Hp → Prop} {x : Int64} {late : Bool} {t : Int32} {w : Nat → Nat → Int32}
theorem upw_twice {k j : Nat} {a b : Int32} : upw (upw w k j a) k j b = upw w k j b := funext fun p => funext fun q => by
  show (if p = k ∧ q = j then b else (if p = k ∧ q = j then a else w p q)) = (if p = k ∧ q = j then b else w p q)
  by_cases e : p = k ∧ q = j
  · rw [if_pos e, if_pos e]
  · rw [if_neg e, if_neg e, if_neg e]
theorem upw_same {k j : Nat} {a : Int32} (h : w k j = a) : upw w k j a = w := funext fun p => funext fun q => by
  show (if p = k ∧ q = j then a else w p q) = w p q
  by_cases e : p = k ∧ q = j
  · rw [if_pos e, e.1, e.2, h]
  · rw [if_neg e]
theorem upw_03 {k j : Nat} {a : Int32} (hw : ∀ p q, S03 (w p q)) (ha : S03 a) (p q : Nat) : S03 (upw w k j a p q) := by
  show S03 (if p = k ∧ q = j then a else w p q)
  split
  · exact ha
  · exact hw p q
/-- whether there is a parting doesn't hang on worths -/
theorem best_fnd {bad one : Nat → Nat → Bool} {g g' : Nat → Nat → Int32} {n : Nat} : (best0 bad one g n).1 = (best0 bad one g' n).1 := by
  have key : ∀ (f i : Nat) (r : Nat → Nat) (u : Nat) (s s' : SB), s.1 = s'.1 → (enumN (lfo bad one n (actB g n)) f i r u s).1 = (enumN (lfo bad one n (actB g' n)) f i r u s').1 := by
    intro f
    induction f with
    | zero =>
      intro i r u s s' e
      have a1 : ∀ (gg : Nat → Nat → Int32) (z : SB), (actB gg n r z).1 = true := fun gg z => by
        rw [actB]
        by_cases q : z.1 = false ∨ z.2.1 < rwp gg r n
        · rw [if_pos q]
        · rw [if_neg q]
          cases ez : z.1
          · exact absurd (Or.inl ez) q
          · rfl
      rw [enumN, enumN, lfo, lfo]
      by_cases q : okp bad one r n = true
      · rw [if_pos q, if_pos q, a1, a1]
      · rw [if_neg q, if_neg q]; exact e
    | succ f ih =>
      intro i r u s s' e
      rw [enumN, enumN]
      have go : ∀ k, (itr (fun p s => enumN (lfo bad one n (actB g n)) f (i + 1) (upr r i p) (max u (p + 1)) s) k s).1 = (itr (fun p s => enumN (lfo bad one n (actB g' n)) f (i + 1) (upr r i p) (max u (p + 1)) s) k s').1 := by
        intro k
        induction k with
        | zero => exact e
        | succ k ih2 => rw [itr, itr]; exact ih _ _ _ _ _ ih2
      exact go _
  exact key n 0 _ 0 _ _ rfl
/-- pairs that could be, were the answer so -/
def couV (σ : Hp) (w : Nat → Nat → Int32) (x : Int64) (t : Int32) (k j : Nat) (a : Int32) : Nat := cou (nerS σ (upw w k j a) (upw w k j a) x t) (cntb x)
theorem enX11_couldWithD (x1 : Int64) (x3 x4 x5 x6 : Int32) {F : Int32 → Hp → Prop} (d : Nat) {d1 : Nat} (hd : 6 ≤ d) (hd1 : d + 1 ≤ d1) (hS : Std h.2.2) (hv : OKv d mX8_put [.ref 30, .int x4, .int x5, .int x6] h (fun (h2 : Hp) => OKv d mX3_lay [.ref 34, .ref 30] h2 (fun (h6 : Hp) => OKv d mX5_load [.ref 45, .long x1, .ref 8, .ref 34, .ref 30] h6 (fun (h10 : Hp) => OKv d mX5_findBest [.ref 45] h10 (fun (h14 : Hp) => OKv d mX5_judgeNear [.ref 45, .int x3] h14 (fun (h18 : Hp) => OKi d mX5_pairsThatCould [.ref 45] h18 (fun (r21 : Int32) (h22 : Hp) => F r21 h22) X) X) X) X) X) X) : OKi d1 mX11_couldWith [.ref 0, .long x1, .int x3, .int x4, .int x5, .int x6] h F X := OKi.up hd1 (oki_of d (by decide +kernel) (Nat.le_of_ble_eq_true rfl) (sgX11_couldWith_0 x1 x3 x4 x5 x6 hd hS hv))
theorem ok_couldWith {F : Int32 → Hp → Prop} {k j : Nat} {a : Int32} (hd : 14 ≤ d) (hS : Std h.2.2) (V : VS σ) (c : CS σ h) (s : Shw w 30 h) (hw : ∀ p q, S03 (w p q)) (G : GS σ x 2 9) (hf : (bstS σ w w x).1 = true) (hk : k < 60) (hj : j < 16) (ha : S03 a)
    (hq : ∀ q, Kp scr h q → Shw (upw w k j a) 30 q → F (nI (couV σ w x t k j a)) q) : OKi d mX11_couldWith [.ref 0, .long x, .int t, .int (nI k), .int (nI j), .int a] h F X := by
  have c9 := G.2.2
  refine enX11_couldWithD _ _ _ _ _ (d - 1) (by omega) (by omega) hS (ok_put shok_30 (by omega) hS s hk hj ha fun q1 f1 s1 => ?_)
  have k1 : Kp scr h q1 := f1.kc hS
  have c1 := c.kc k1
  refine ok_layC (w := upw w k j a) shok_30 (by omega) k1.1 V c1.1 (c1.mk V) s1 fun q2 f2 L2 => ?_
  have k2 : Kp scr h q2 := k1.tr (kc_R shok_30 k1.1 f2)
  have c2 := c.kc k2
  refine ok_layfind (u := upw w k j a) shok_30 shok_30 (by omega) k2.1 V c2 L2 L2.2.2.2.2.2 (upw_03 hw ha) G fun q3 f3 L3 P3 => ?_
  have k3 := k2.tr (f3.kc k2.1)
  have hf' : (bstS σ (upw w k j a) (upw w k j a) x).1 = true := by rw [← hf]; exact best_fnd
  refine ok_judgeNear (n := cntb x) (t := t) c9 (by omega) k3.1 P3.1 fun q4 f4 r4 => ?_
  rw [(P3.2.2.2 hf').1] at r4
  change RSN (cntb x) _ (nerS σ (upw w k j a) (upw w k j a) x t) q4 at r4
  have k4 := k3.tr (f4.kc k3.1)
  exact ok_pairsThatCould c9 (by omega) k4.1 (by rw [f4.i 45 1]; exact P3.1.1) r4 (hq q4 k4 (L3.2.2.2.2.2.fw shok_30 f4))
abbrev LKo : Type := Option (Nat × Nat × Nat)
def lokV (σ : Hp) (w : Nat → Nat → Int32) (x : Int64) (t : Int32) (k j : Nat) : Nat := max (couV σ w x t k j 1) (couV σ w x t k j 2)
def loT (o : LKo) (k j v : Nat) : LKo := match o with
  | none => some (k, j, v)
  | some s => if v < s.2.2 then some (k, j, v) else some s
theorem loT_n {k j v : Nat} : loT none k j v = some (k, j, v) := rfl
theorem loT_s {s : Nat × Nat × Nat} {k j v : Nat} : loT (some s) k j v = if v < s.2.2 then some (k, j, v) else some s := rfl
def lo1 (σ : Hp) (w : Nat → Nat → Int32) (x : Int64) (t : Int32) (o : LKo) (k j : Nat) : LKo := if hb x k = true ∧ w k j = 0 then loT o k j (lokV σ w x t k j) else o
def loR (σ : Hp) (w : Nat → Nat → Int32) (x : Int64) (t : Int32) (o : LKo) (k : Nat) : Nat → LKo
  | 0 => o
  | j + 1 => lo1 σ w x t (loR σ w x t o k j) k j
def loA (σ : Hp) (w : Nat → Nat → Int32) (x : Int64) (t : Int32) : Nat → LKo
  | 0 => none
  | k + 1 => loR σ w x t (loA σ w x t k) k (nM σ)
def l6 (o : LKo) : Int32 := match o with | none => -1 | some s => nI s.1
def l7 (o : LKo) : Int32 := match o with | none => -1 | some s => nI s.2.1
def l8 (o : LKo) : Int32 := match o with | none => -1 | some s => nI s.2.2
theorem cou_le (s : SN) (n : Nat) : cou s n ≤ n * n := fb_sm_bound fun k _ => fb_ct_le _ _
theorem lok_lt (G : GS σ x 2 9) {k j : Nat} : lokV σ w x t k j < 2 ^ 31 := by
  have h1 : couV σ w x t k j 1 ≤ 81 := Nat.le_trans (cou_le _ _) (Nat.mul_le_mul G.2.2 G.2.2)
  have h2 : couV σ w x t k j 2 ≤ 81 := Nat.le_trans (cou_le _ _) (Nat.mul_le_mul G.2.2 G.2.2)
  rw [lokV]; omega
def LKb (o : LKo) : Prop := ∀ s, o = some s → s.1 < 60 ∧ s.2.1 < 16 ∧ s.2.2 < 2 ^ 31
theorem loR_off {o : LKo} {k : Nat} (h : hb x k = false) : ∀ j, loR σ w x t o k j = o
  | 0 => rfl
  | j + 1 => by rw [loR, loR_off h j, lo1, if_neg (fun z => by rw [h] at z; cases z.1)]
theorem lo1_b (G : GS σ x 2 9) {o : LKo} {k j : Nat} (hk : k < 60) (hj : j < 16) (h : LKb o) : LKb (lo1 σ w x t o k j) := by
  intro s e
  rw [lo1] at e
  by_cases q : hb x k = true ∧ w k j = 0
  · rw [if_pos q] at e
    have l := lok_lt (w := w) (t := t) G (k := k) (j := j)
    cases o with
    | none =>
      rw [loT_n] at e
      cases e; exact ⟨hk, hj, l⟩
    | some s' =>
      rw [loT_s] at e
      split at e
      · cases e; exact ⟨hk, hj, l⟩
      · cases e; exact h _ rfl
  · rw [if_neg q] at e; exact h s e
theorem loR_b (G : GS σ x 2 9) {o : LKo} {k : Nat} (hk : k < 60) (h : LKb o) : ∀ j, j ≤ 16 → LKb (loR σ w x t o k j)
  | 0, _ => h
  | j + 1, hj => lo1_b G hk (by omega) (loR_b G hk h j (by omega))
theorem loA_b (G : GS σ x 2 9) (V : VS σ) : ∀ k, k ≤ 60 → LKb (loA σ w x t k)
  | 0, _ => fun s e => by cases e
  | k + 1, hk => loR_b G (by omega) (loA_b G V k (by omega)) _ V.m.2
theorem lp_look82 {F : Int32 → Hp → Prop} {k : Nat} {o : LKo} {wh : Int32} (hd : 15 ≤ d) (V : VS σ) (c : CS σ h) (hw : ∀ p q, S03 (w p q)) (G : GS σ x 2 9) (hf : (bstS σ w w x).1 = true) (hk : k < nD σ) (ob : LKb o)
    (nx : ∀ q, Kp scr h q → Shw w 30 q → E mX11_look d 3 18 67 [(0, .ref 0), (1, .long x), (4, .int t), (5, .int wh), (6, .int (l6 (loR σ w x t o k (nM σ)))), (7, .int (l7 (loR σ w x t o k (nM σ)))), (8, .int (l8 (loR σ w x t o k (nM σ)))), (9, .int (nI (k + 1)))] [] q (Qi F) X) :
    ∀ (n j : Nat) (q : Hp), j + n = nM σ → Kp scr h q → Shw w 30 q → E mX11_look d 3 18 82 [(0, .ref 0), (1, .long x), (4, .int t), (5, .int wh), (6, .int (l6 (loR σ w x t o k j))), (7, .int (l7 (loR σ w x t o k j))), (8, .int (l8 (loR σ w x t o k j))), (9, .int (nI k)), (10, .int (nI j))] [] q (Qi F) X := by
  have hD := V.d.2
  have hM := V.m.2
  intro n
  induction n with
  | zero =>
    intro j q e kq s
    have : j = nM σ := by omega
    subst this
    refine sgX11_look_82k _ _ _ _ _ _ _ _ (by omega) kq.1 ⟨fun _ => ?_, fun z => absurd (by rw [(c.kc kq).mk V]; exact Int32.le_refl _) z⟩
    rw [nI_1]; exact nx q kq s
  | succ n ih =>
    intro j q e kq s
    have hj : j < nM σ := by omega
    have ck := c.kc kq
    have rb := loR_b (w := w) (t := t) G (o := o) (k := k) (by omega) ob j (by omega)
    have nx2 := fun q2 k2 s2 => ih (j + 1) q2 (by omega) k2 s2
    have lr : loR σ w x t o k (j + 1) = lo1 σ w x t (loR σ w x t o k j) k j := rfl
    rw [lr] at nx2
    refine sgX11_look_82k _ _ _ _ _ _ _ _ (by omega) kq.1 ⟨fun z => absurd z (by rw [ck.mk V]; exact nI_ge hj (by omega)), fun _ => ok_has (by omega) kq.1 (by omega) ?_⟩
    rw [nI_1]
    refine ⟨fun z => ?_, fun z => ok_stateOf shok_30 (by omega) kq.1 s (by omega) (by omega) (hw _ _) ⟨fun z2 => ?_, fun z2 => ?_⟩⟩
    · have := nx2 q kq s
      rw [lo1, if_neg (fun y => absurd y.1 (by rw [bI_0.mp z]; decide))] at this
      exact this
    · have on1 : lo1 σ w x t (loR σ w x t o k j) k j = loT (loR σ w x t o k j) k j (lokV σ w x t k j) := if_pos ⟨bI_n0.mp z, z2⟩
      rw [on1] at nx2
      refine ok_couldWith (w := w) (t := t) (by omega) kq.1 V ck s hw G hf (by omega) (by omega) (Or.inr (Or.inl rfl)) fun q1 k1 s1 => ?_
      have f1 : (bstS σ (upw w k j 1) (upw w k j 1) x).1 = true := by rw [← hf]; exact best_fnd
      refine ok_couldWith (w := upw w k j 1) (t := t) (by omega) k1.1 V (ck.kc k1) s1 (upw_03 hw (Or.inr (Or.inl rfl))) G f1 (by omega) (by omega) (Or.inr (Or.inr (Or.inl rfl))) fun q2 k2 s2 => ?_
      have e2 : couV σ (upw w k j 1) x t k j 2 = couV σ w x t k j 2 := by rw [couV, couV, upw_twice]
      rw [upw_twice] at s2
      refine ok_put shok_30 (by omega) k2.1 s2 (by omega) (by omega) (Or.inl rfl) fun q3 f3 s3 => ?_
      rw [upw_twice, upw_same z2] at s3
      have k3 : Kp scr h q3 := ((kq.tr k1).tr k2).tr (f3.kc k2.1)
      have l := lok_lt (w := w) (t := t) G (k := k) (j := j)
      have b1 : couV σ w x t k j 1 ≤ 81 := Nat.le_trans (cou_le _ _) (Nat.mul_le_mul G.2.2 G.2.2)
      have b2 : couV σ w x t k j 2 ≤ 81 := Nat.le_trans (cou_le _ _) (Nat.mul_le_mul G.2.2 G.2.2)
      rw [e2, nI_max (by omega) (by omega)]
      have nx3 := nx2 q3 k3 s3
      revert nx3 rb
      generalize loR σ w x t o k j = st
      intro rb nx3
      cases st with
      | none => exact ⟨fun _ => nx3, fun y => absurd rfl y⟩
      | some s' =>
        have sb := rb s' rfl
        have n8 : ¬ nI s'.2.2 = -1 := nI_neg sb.2.2
        refine ⟨fun y => absurd y n8, fun _ => ⟨fun y => ?_, fun y => ?_⟩⟩
        · have : ¬ lokV σ w x t k j < s'.2.2 := by
            have := (nI_leI sb.2.2 (by rw [lokV] at l; omega)).mp y
            rw [lokV]; omega
          rw [loT_s, if_neg this] at nx3
          exact nx3
        · have : lokV σ w x t k j < s'.2.2 := by
            refine Classical.byContradiction fun y2 => y ?_
            exact (nI_leI sb.2.2 (by rw [lokV] at l; omega)).mpr (by rw [lokV] at y2; omega)
          rw [loT_s, if_pos this] at nx3
          exact nx3
    · have := nx2 q kq s
      rw [lo1, if_neg (fun y => z2 y.2)] at this
      exact this
end LOOK
