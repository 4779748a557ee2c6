/-! a text taken: class and reference together -/
section TEXTOP2
variable {σ h g q : Hp} {d : Nat} {X : String → Hp → Prop} {F : Int32 → Hp → Prop} {x : Int32}
def txT (σ : Hp) : Nat → Int32 := fun i => σ.1 136 i
def cdText (σ : Hp) (x : Int32) : Nat := if isW x 0 (nI (nT σ)) = true then 0 else 1
def rrT (σ : Hp) (x : Int32) : Nat × Nat × List LI := rT (txT σ) x.toNatClampNeg (TT (txT σ) x.toNatClampNeg)
def vText (σ : Hp) (x : Int32) : Int32 := if (rrT σ x).1 = 0 then nI (rrT σ x).2.2.length else -10 - nI (rrT σ x).1
def bcT (σ : Hp) (x : Int32) : Int32 := nI (Bc (txT σ) x.toNatClampNeg (TT (txT σ) x.toNatClampNeg) (rrT σ x).2.1)
/-- the class behind a text -/
def PTx (σ h : Hp) (x : Int32) (q : Hp) : Prop := FTx h q ∧ q.1 0 14 = 0 ∧ ((rrT σ x).1 = 0 → q.1 73 1 = 0 ∧ q.1 73 2 = -1 ∧ LsR q (rrT σ x).2.2 ∧ ∃ K P, LsOK K P (rrT σ x).2.1 (rrT σ x).2.2 ∧ (rrT σ x).2.1 ≤ 300 ∧ P (rrT σ x).2.1 ≤ 300) ∧
  ((rrT σ x).1 ≠ 0 → q.1 73 1 = nI (rrT σ x).1 ∧ q.1 73 2 = bcT σ x ∧ q.1 65 0 = h.1 65 0 ∧ (∀ j, q.1 66 j = h.1 66 j ∧ q.1 67 j = h.1 67 j ∧ q.1 68 j = h.1 68 j ∧ q.1 69 j = h.1 69 j ∧ q.1 70 j = h.1 70 j))
/-- the reference behind a text -/
def QTx (σ g : Hp) (x : Int32) (q : Hp) : Prop := FTm g q ∧ q.1 91 0 = 0 ∧ q.1 91 67 = 0 ∧ ((rrT σ x).1 = 0 → q.1 91 75 = 0 ∧ q.1 91 76 = -1 ∧ q.1 91 79 = nI (rrT σ x).2.2.length ∧ LsM 138 140 q (rrT σ x).2.2) ∧
  ((rrT σ x).1 ≠ 0 → q.1 91 75 = nI (rrT σ x).1 ∧ q.1 91 76 = bcT σ x ∧ q.1 91 79 = g.1 91 79 ∧ (∀ j, q.1 138 j = g.1 138 j ∧ q.1 140 j = g.1 140 j))
theorem cdText_1 (T : VTp σ) (z : ¬ (0 ≤ x ∧ x ≤ nI (nT σ))) : cdText σ x = 1 := by
  rw [cdText, if_neg]
  intro w
  rw [isW, Bool.and_eq_true, decide_eq_true_eq, decide_eq_true_eq] at w
  exact z w
theorem cdText_0 {n : Nat} (h1 : x = nI n) (T : VTp σ) (nm : n ≤ nT σ) : cdText σ x = 0 ∧ x.toNatClampNeg = n := by
  have := T.2
  subst h1
  refine ⟨if_pos ?_, nI_clamp (by omega)⟩
  rw [isW, decide_eq_true (nI_ge0 (by omega)), decide_eq_true (nI_le nm (by omega))]; rfl
theorem ok_textC2 (hd : 29 ≤ d) (hS : Std h.2.2) (T : VTp σ) (ct : CTp σ h) (hq : cdText σ x = 0 → ∀ q, PTx σ h x q → F (vText σ x) q) (hx : cdText σ x ≠ 0 → X iae h) : OKi d mX11_text [.ref 0, .int x] h F X := by
  have n3 := T.2
  refine ok_textC (t := txT σ) (m := nT σ) hd hS ct.2.1 (by rw [ct.1, T.1]) T.2 (fun z => hx (by rw [cdText_1 T z]; decide)) fun n en nm q T' f S z14 => ?_
  obtain ⟨c0, cn⟩ := cdText_0 en T nm
  have eT : T' = TT (txT σ) n := TT_is S
  subst eT
  have fin := hq c0 q
  rw [vText, PTx, bcT, rrT, cn] at fin
  refine ⟨fun z w => ?_, fun z w => ?_⟩
  · obtain ⟨a, b, c, L, k3⟩ := w
    rw [if_pos z] at fin
    have := PT_le (t := txT σ) (n := n) (rT (txT σ) n (TT (txT σ) n)).2.1
    exact fin ⟨f, z14, fun _ => ⟨a, b, c, _, _, L, k3, by omega⟩, fun y => absurd z y⟩
  · rw [if_neg z] at fin
    exact fin ⟨f, z14, fun y => absurd y z, fun _ => w⟩
theorem ok_textM2 (hd : 33 ≤ d) (hS : Std g.2.2) (T : VTp σ) (ma : MA σ g) (h0 : cdText σ x = 0 → ∀ q, QTx σ g x q → F (vText σ x) q) (h1 : cdText σ x = 1 → ∀ q, KM g q → MA σ q → q.1 91 0 = 1 → F 0 q) : OKi d mX12_text [.ref 91, .int x] g F X := by
  have n3 := T.2
  refine ok_textM (t := txT σ) (m := nT σ) hd hS (fun i _ => ma.i 136 i) (by rw [ma.i 91 67, T.1]) T.2 (fun z q f e => ?_) fun n en nm => ⟨TT (txT σ) n, TT_ok, fun q f e0 e67 => ?_⟩
  · have k : Kp scm g q := f.km hS
    exact h1 (by rw [cdText, z]; rfl) q k.m (ma.km k) e
  · obtain ⟨c0, cn⟩ := cdText_0 en T nm
    have fin := h0 c0 q
    rw [vText, QTx, bcT, rrT, cn] at fin
    refine ⟨fun z w => ?_, fun z w => ?_⟩
    · rw [if_pos z] at fin
      exact fin ⟨f, e0, e67, fun _ => w, fun y => absurd z y⟩
    · rw [if_neg z] at fin
      exact fin ⟨f, e0, e67, fun y => absurd y z, fun _ => w⟩
/-- the state behind a text -/
def tW (c k : Nat) : Bool := inW [138, 140] [(91, 67), (91, 75), (91, 76), (91, 79)] c k
def stText (σ q : Hp) : Hp := (fun c k => if tW c k = true then q.1 c k else σ.1 c k, fun c k => if tW c k = true then q.2.1 c k else σ.2.1 c k, σ.2.2)
theorem stText_fr : Fr [138, 140] [(91, 67), (91, 75), (91, 76), (91, 79)] σ (stText σ q) := ⟨rfl, fun c k z => by
  have z : tW c k = false := z
  refine ⟨?_, ?_⟩
  · show (if tW c k = true then q.1 c k else σ.1 c k) = _
    rw [z, if_neg (by decide)]
  · show (if tW c k = true then q.2.1 c k else σ.2.1 c k) = _
    rw [z, if_neg (by decide)]⟩
theorem stText_i {c k : Nat} (z : tW c k = true) : (stText σ q).1 c k = q.1 c k := if_pos z
theorem VV_text (v : VV σ) (e : q.1 91 67 = 0) : VV (stText σ q) := by
  obtain ⟨V, N, Z, Y, T, ak⟩ := v
  have fr : Fr [138, 140] [(91, 67), (91, 75), (91, 76), (91, 79)] σ (stText σ q) := stText_fr
  have e67 : (stText σ q).1 91 67 = 0 := (stText_i rfl).trans e
  have eT : nT (stText σ q) = 0 := by rw [nT, e67]; rfl
  refine ⟨V.sg fr h92 h91V, VN_fr N fr, VZ_fr Z fr, fun i hi => ?_, ⟨?_, ?_⟩, ?_⟩
  · rw [fr.i 143, fr.i 144]; exact Y i hi
  · rw [eT, e67]; rfl
  · rw [eT]; exact Nat.zero_le _
  · rw [fr.i 91 36]; exact ak
theorem MA_text (m : MA σ g) (f : FTm g q) : MA (stText σ q) q := by
  intro c k hc z
  by_cases w : tW c k = true
  · exact ⟨(if_pos w).symm, (if_pos w).symm⟩
  · have w2 : tW c k = false := Bool.eq_false_iff.mpr w
    have fs := (stText_fr (σ := σ) (q := q)).2 c k w2
    have z2 := z
    have nf : inW [137, 138, 139, 140] [(91, 0), (91, 67), (91, 68), (91, 69), (91, 70), (91, 71), (91, 72), (91, 73), (91, 74), (91, 75), (91, 76), (91, 77), (91, 78), (91, 79)] c k = false := by
      simp only [sct, scm, smL, tW, inW, Bool.or_eq_false_iff, Bool.and_eq_false_iff, decide_eq_false_iff_not, List.contains_eq_mem, List.mem_cons, List.not_mem_nil, or_false, Prod.mk.injEq] at z2 w2 ⊢
      omega
    have a := f.2 c k nf
    have b := m c k hc z
    exact ⟨(a.1.trans b.1).trans fs.1.symm, (a.2.trans b.2).trans fs.2.symm⟩
theorem CC_text {h2 : Hp} (v : VV σ) (cc : CC σ h) (ma : MA σ g) (a : cdText σ x = 0) (p : PTx σ h x h2) (b : QTx σ g x q) (km : KM h2 q) : CC (stText σ q) q := by
  obtain ⟨V, N, Z, Y, T, ak⟩ := v
  obtain ⟨f1, p14, p0, p1⟩ := p
  obtain ⟨f2, b0, b67, q0, q1⟩ := b
  have fr : Fr [138, 140] [(91, 67), (91, 75), (91, 76), (91, 79)] σ (stText σ q) := stText_fr
  obtain ⟨c1, c2, c3, c4, c5⟩ := cc
  have eK : nK (stText σ q) = nK σ := by rw [nK, nK, fr.i 91 8]
  have km : ∀ c k, c < 91 → q.1 c k = h2.1 c k ∧ q.2.1 c k = h2.2.1 c k := km.2
  have f1 : Fr [66, 67, 68, 69, 70, 75, 76, 77, 78, 79, 82, 83, 84] [(65, 0), (65, 6), (73, 1), (73, 2), (73, 6), (73, 7), (73, 8), (74, 6), (74, 0), (0, 14)] h h2 := f1
  have e75 : q.1 73 1 = (stText σ q).1 91 75 ∧ q.1 73 2 = (stText σ q).1 91 76 := by
    rw [(km 73 1 (by decide)).1, (km 73 2 (by decide)).1, stText_i rfl, stText_i rfl]
    by_cases z : (rrT σ x).1 = 0
    · rw [(p0 z).1, (p0 z).2.1, (q0 z).1, (q0 z).2.1]; exact ⟨rfl, rfl⟩
    · rw [(p1 z).1, (p1 z).2.1, (q1 z).1, (q1 z).2.1]; exact ⟨rfl, rfl⟩
  refine ⟨(c1.lo1 fun c k h1 h3 => ?_).sg fr h92 h91, ⟨?_, fun k hk => ?_⟩, ⟨?_, fun i hi => ?_, e75.1, e75.2⟩, ?_, ⟨fun i hi => ?_, fun j hj => ?_⟩⟩
  · have nf : inW [66, 67, 68, 69, 70, 75, 76, 77, 78, 79, 82, 83, 84] [(65, 0), (65, 6), (73, 1), (73, 2), (73, 6), (73, 7), (73, 8), (74, 6), (74, 0), (0, 14)] c k = false := by
      simp only [inW, Bool.or_eq_false_iff, decide_eq_false_iff_not, List.contains_eq_mem, List.mem_cons, List.not_mem_nil, or_false, Prod.mk.injEq]
      omega
    have x1 := km c k (by omega)
    have x2 := f1.2 c k nf
    exact ⟨x1.1.trans x2.1, x1.2.trans x2.2⟩
  · rw [(km 57 8 (by decide)).1, f1.i 57 8, eK]; exact c2.1
  · rw [eK] at hk
    rw [(km 63 k (by decide)).1, (km 64 k (by decide)).1, f1.i 63, f1.i 64, fr.i 131, fr.i 132]; exact c2.2 k hk
  · rw [(km 0 14 (by decide)).1, p14, stText_i rfl, b67]
  · rw [(km 89 i (by decide)).1, f1.i 89, fr.i 136]; exact c3.2.1 i hi
  · by_cases z : (rrT σ x).1 = 0
    · obtain ⟨_, _, x3, K, P, L, k3, P3⟩ := p0 z
      obtain ⟨_, _, y3, M⟩ := q0 z
      refine CRt_of L k3 P3 (by rw [(km 65 0 (by decide)).1]; exact x3.1) (fun j l e => ?_) (fun i hi => by rw [(km 70 i (by decide)).1]; exact x3.2.2 i hi) ((stText_i rfl).trans y3) ⟨fun i hi => (stText_i rfl).trans (M.1 i hi), fun j l e => ?_⟩
      · rw [(km 66 j (by decide)).1, (km 67 j (by decide)).1, (km 68 j (by decide)).1, (km 69 j (by decide)).1]; exact x3.2.1 j l e
      · have := M.2 j l e
        rw [stText_i rfl, stText_i rfl, stText_i rfl, stText_i rfl]; exact this
    · obtain ⟨_, _, x3, x4⟩ := p1 z
      obtain ⟨_, _, y3, y4⟩ := q1 z
      refine (c4.sg (σ' := stText σ q) (by rw [stText_i rfl, y3, ma.i 91 79]) fun j => ⟨by rw [stText_i rfl, (y4 j).1, ma.i 138], by rw [stText_i rfl, (y4 j).2, ma.i 140]⟩).hc ?_ fun j => ?_
      · rw [(km 65 0 (by decide)).1, x3]
      · rw [(km 66 j (by decide)).1, (km 67 j (by decide)).1, (km 68 j (by decide)).1, (km 69 j (by decide)).1, (km 70 j (by decide)).1]; exact x4 j
  · rw [(km 86 i (by decide)).1, (km 87 i (by decide)).1, f1.i 86, f1.i 87, fr.i 143, fr.i 144]; exact c5.1 i hi
  · rw [(km 88 j (by decide)).2, f1.l 88, fr.l 145]; exact c5.2 j hj
end TEXTOP2
