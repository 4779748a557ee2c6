/-! a set parted: class and reference -/
section PARTSET
variable {σ h : Hp} {d : Nat} {X : String → Hp → Prop} {x : Int64} {late : Bool}
theorem ok_within32 {F : Int32 → Hp → Prop} {v a b : Int32} (hd : 1 ≤ d) (hS : Std h.2.2) (hq : F (bI (decide (a ≤ v) && decide (v ≤ b))) h) : OKi d mX11_isWithin [.long v.toInt64, .long a.toInt64, .long b.toInt64] h F X := by
  refine ok_isWithin hd hS ?_
  rw [wi_dec]
  exact hq
theorem ok_needSet {F : Hp → Prop} {l m : Nat} (hd : 7 ≤ d) (hS : Std h.2.2) (V : VS σ) (c : CD σ h) (hl : l < 2 ^ 31) (hm : m < 2 ^ 31) (hq : GS σ x l m → F h) (hx : ¬ GS σ x l m → X "java/lang/IllegalArgumentException" h) : OKv d mX11_needSet [.ref 0, .long x, .int (nI l), .int (nI m)] h F X := by
  refine enX11_needSet _ _ _ hd hS (ok_standing (by omega) hS V c fun r hr => ⟨fun z => ok_bitCount (by omega) hS (ok_within32 (by omega) hS ⟨fun z2 => hx fun g => ?_, fun z2 => hq ⟨fun k hk => ?_, ?_⟩⟩), fun z => hx fun g => z ?_⟩)
  · have c64 := fb_ct_le (hb x) 64
    have := bI_0.mp z2
    rw [decide_eq_true (nI_le g.2.1 (by unfold cntb at *; omega)), decide_eq_true (nI_le g.2.2 hm)] at this
    cases this
  · have hk64 : k < 64 := by
      refine Classical.byContradiction fun q => ?_
      rw [hb_big (by omega)] at hk; cases hk
    have := congrArg (hb · k) z
    rw [hb_0] at this
    have e : hb (x &&& (r ^^^ (-1))) k = (hb x k && !hb r k) := by rw [hb_and, hb_not hk64]
    rw [← hr k]
    rw [show hb (x &&& (r ^^^ (-1))) k = false from this] at e
    rw [hk, Bool.true_and] at e
    cases er : hb r k
    · rw [er] at e; cases e
    · rfl
  · have c64 : cntb x ≤ 64 := fb_ct_le (hb x) 64
    have := bI_n0.mp z2
    simp only [Bool.and_eq_true, decide_eq_true_eq] at this
    exact ⟨(nI_leI hl (by omega)).mp this.1, (nI_leI (by omega) hm).mp this.2⟩
  · refine hb_ext fun k hk => ?_
    rw [hb_and, hb_not hk, hb_0, hr]
    cases e : hb x k
    · rfl
    · rw [g.1 k e]; rfl
theorem enX11_partSetD (x1 : Int64) (x3 : Int32) {h : Hp} {F : Hp → Prop} {X : String → Hp → Prop} (d : Nat) {d1 : Nat} (hd : 6 ≤ d) (hd1 : d + 1 ≤ d1) (hS : Std h.2.2) (hv : OKr d mX11_sheet [.ref 0, .int x3] h (fun (r1 : Nat) (h2 : Hp) => ShOK r1 ∧ OKv d mX3_lay [.ref 34, .ref r1] h2 (fun (h6 : Hp) => OKv d mX5_load [.ref 45, .long x1, .ref 8, .ref 34, .ref r1] h6 (fun (h10 : Hp) => OKv d mX5_findBest [.ref 45] h10 (fun (h14 : Hp) => (((h14.1 45 8) = 0 → X "java/lang/IllegalStateException" h14) ∧ (¬ (h14.1 45 8) = 0 → F h14))) X) X) X) X) : OKv d1 mX11_partSet [.ref 0, .long x1, .int x3] h F X := OKv.up hd1 (okv_of d (by decide +kernel) (Nat.le_of_ble_eq_true rfl) (sgX11_partSet_0 x1 x3 hd hS hv))
/-- the best parting of a set, and the near ones -/
def bstS (σ : Hp) (w u : Nat → Nat → Int32) (x : Int64) : SB := best0 (badS σ (mbf x)) (oneS σ (mbf x)) (gnS σ w u (mbf x)) (cntb x)
def nerS (σ : Hp) (w u : Nat → Nat → Int32) (x : Int64) (t : Int32) : SN := near0 (badS σ (mbf x)) (oneS σ (mbf x)) (gnS σ w u (mbf x)) (cntb x) ((bstS σ w u x).2.1 - t)
/-- the class holds a set's members, and the best parting -/
def PSt (σ : Hp) (w u : Nat → Nat → Int32) (x : Int64) (q : Hp) : Prop := PLd (cntb x) (badS σ (mbf x)) (oneS σ (mbf x)) (gnS σ w u (mbf x)) q ∧ (∀ k, k < cntb x → q.1 46 k = nI (mbf x k)) ∧ RSB (cntb x) (bstS σ w u x) q
theorem ok_layfind {F : Hp → Prop} {S U l : Nat} {w u : Nat → Nat → Int32} (sh : ShOK S) (shU : ShOK U) (hd : 12 ≤ d) (hS : Std h.2.2) (V : VS σ) (c : CS σ h) (L : LK σ w S h) (su : Shw u U h) (hu : ∀ k j, S03 (u k j)) (G : GS σ x l 9)
    (hq : ∀ q, Fr [42, 43, 44, 46, 47, 48, 49, 50, 51, 52] [(45, 1), (45, 8), (45, 9), (45, 11), (45, 12), (45, 13)] h q → LK σ w S q → PSt σ w u x q → F q) : OKv d mX5_load [.ref 45, .long x, .ref 8, .ref 34, .ref U] h (fun h10 => OKv d mX5_findBest [.ref 45] h10 F X) X := by
  have c9 := G.2.2
  refine ok_load (u := u) (w := w) sh shU (by omega) hS V c.1 (c.mk V) L su hu G fun q1 f1 L1 m1 p1 => ?_
  refine ok_findBest (bad := badS σ (mbf x)) (one := oneS σ (mbf x)) (g := gnS σ w u (mbf x)) (n := cntb x) c9 (by omega) (f1.sd hS) p1 fun q2 f2 r2 => ?_
  exact hq q2 (Fr.tr (Fr.mono f1) (Fr.mono f2)) (L1.fr sh f2) ⟨p1.fr f2, fun k hk => by rw [f2.i 46 k]; exact m1 k hk, r2⟩
theorem ok_partSet {F : Hp → Prop} {l : Nat} (hd : 13 ≤ d) (hS : Std h.2.2) (V : VS σ) (c : CS σ h) (G : GS σ x l 9)
    (hq : (bstS σ (wS σ late) (wS σ late) x).1 = true → ∀ q, Kp scr h q → LK σ (wS σ late) (SR late) q → PSt σ (wS σ late) (wS σ late) x q → F q)
    (hx : (bstS σ (wS σ late) (wS σ late) x).1 = false → ∀ q, Kp scr h q → X "java/lang/IllegalStateException" q) : OKv d mX11_partSet [.ref 0, .long x, .int (bI late)] h F X := by
  have sh := SR_ok late
  refine enX11_partSetD _ _ (d - 1) (by omega) (by omega) hS (ok_sheet (by omega) hS ⟨sh, ok_layC (w := wS σ late) sh (by omega) hS V c.1 (c.mk V) (c.sr late) fun q1 f1 L1 => ?_⟩)
  have k1 : Kp scr h q1 := kc_R sh hS f1
  have c1 := c.kc k1
  refine ok_layfind (u := wS σ late) sh sh (by omega) k1.1 V c1 L1 (c1.sr late) (wS_03 V late) G fun q2 f2 L2 P2 => ?_
  have k12 := k1.tr (f2.kc k1.1)
  rw [P2.2.2.1]
  exact ⟨fun z => hx (bI_0.mp z) q2 k12, fun z => hq (bI_n0.mp z) q2 k12 L2 P2⟩
/-- the reference's members and best parting -/
def PSm (σ : Hp) (w : Nat → Nat → Int32) (x : Int64) (q : Hp) : Prop := MBd (cntb x) (mbf x) (badS σ (mbf x)) (oneS σ (mbf x)) q ∧ WHd (cntb x) (gnS σ w w (mbf x)) q ∧ RSM (cntb x) (bstS σ w w x) q
theorem ok_parts {F : Int32 → Hp → Prop} {w : Nat → Nat → Int32} {m : Nat} (hd : 8 ≤ d) (hS : Std h.2.2) (V : VS σ) (mc : MC σ h) (ak : Asked σ h late w) (hm9 : m ≤ 9)
    (hq : GS σ x 2 m → ∀ q, Kp scm h q → (q.1 91 37 = h.1 91 37 ∧ q.1 91 0 = h.1 91 0) → RLaid σ w q → PSm σ w x q → F (if (bstS σ w w x).1 then 0 else 2) q)
    (hx : ¬ GS σ x 2 m → ∀ q, Kp scm h q → F 1 q) : OKi d mX12_parts [.ref 91, .long x, .int (bI late), .int (nI m)] h F X := by
  have hD := V.d.2
  refine enX12_parts _ _ _ hd hS (ok_gathers (l := 2) (by omega) hS V mc hm9 (by decide) (fun g q f e42 e120 => ⟨fun z => absurd z (by decide), fun _ => ?_⟩) fun g q f => ⟨fun _ => hx g q (f.km hS), fun z => absurd rfl z⟩)
  have m1 := mc.fr f
  have ak1 : Asked σ q late w := by unfold Asked; rw [f.i 91 36, f.i 91 37, f.i 91 38]; exact ak
  refine ok_layM (by omega) (f.sd hS) V m1 ak1 fun q2 f2 R2 => ?_
  have s2 := f2.sd (f.sd hS)
  have m2 := m1.fr f2
  have c9 : cntb x ≤ 9 := Nat.le_trans g.2.2 hm9
  have inn : ∀ i, i < cntb x → mbf x i < nD σ := fun i hi => (stn_al (g.1 _ (mbf_in hi).1)).2
  have M2 : MBd (cntb x) (mbf x) (badS σ (mbf x)) (oneS σ (mbf x)) q2 := by
    refine ⟨by rw [f2.i 91 42]; exact e42, fun i hi => ⟨by rw [f2.i 120 i]; exact e120 i hi, by have := inn i hi; omega⟩, fun i k hi hk => ?_⟩
    have lt := mbf_lt hi hk
    rw [R2.2.1 _ _ (inn i hi) (inn k (by omega)) (by omega)]
    exact ⟨rfl, rfl⟩
  refine ok_seekBest (g := gnS σ w w (mbf x)) c9 (by have := g.2.1; omega) (by omega) s2 M2 (fun d a b q3 F hd' f3 ha hb' hF => ?_) fun q3 f3 W3 r3 => ?_
  · have R3 : RLaid σ w q3 := ⟨R2.1.fr f3 fun _ => rfl, fun i k hi hk hik => by rw [f3.i 113]; exact R2.2.1 i k hi hk hik, fun k hk => by rw [f3.i 114]; exact R2.2.2.1 k hk, fun i k o v h1 h2 h3 h4 => by rw [f3.i 115]; exact R2.2.2.2.1 i k o v h1 h2 h3 h4, fun k o v h1 h2 h3 => by rw [f3.i 116]; exact R2.2.2.2.2 k o v h1 h2 h3⟩
    exact ok_worthOfM hd' (f3.sd s2) V (by rw [f3.i 91 3, m2.i 91 3, V.m.1]) R3 (inn a ha) (inn b (by omega)) hF
  · have k1 : Kp scm h q3 := ((f.km hS).tr (f2.km (f.sd hS))).tr (f3.km s2)
    have R3 : RLaid σ w q3 := ⟨R2.1.fr f3 fun _ => rfl, fun i k hi hk hik => by rw [f3.i 113]; exact R2.2.1 i k hi hk hik, fun k hk => by rw [f3.i 114]; exact R2.2.2.1 k hk, fun i k o v h1 h2 h3 h4 => by rw [f3.i 115]; exact R2.2.2.2.1 i k o v h1 h2 h3 h4, fun k o v h1 h2 h3 => by rw [f3.i 116]; exact R2.2.2.2.2 k o v h1 h2 h3⟩
    have := hq g q3 k1 ⟨by rw [f3.i 91 37, f2.i 91 37, f.i 91 37], by rw [f3.i 91 0, f2.i 91 0, f.i 91 0]⟩ R3 ⟨M2.fr f3, W3, r3⟩
    rw [r3.1]
    refine ⟨fun z => ?_, fun z => ?_⟩
    · have e := bI_0.mp z
      rw [show (bstS σ w w x).1 = false from e, if_neg (by decide)] at this
      exact this
    · have e := bI_n0.mp z
      rw [show (bstS σ w w x).1 = true from e, if_pos rfl] at this
      exact this
end PARTSET
