/-! a text taken, by the class -/
section TEXTOP
variable {t : Nat → Int32} {h q g : Hp} {d m n T : Nat} {X : String → Hp → Prop} {F : Int32 → Hp → Prop} {G : Hp → Prop} {x : Int32}
def rT (t : Nat → Int32) (n T : Nat) : Nat × Nat × List LI := rdR (Kc t n T) (Vr t n) 302 0 []
def FTx (h q : Hp) : Prop := Fr [66, 67, 68, 69, 70, 75, 76, 77, 78, 79, 82, 83, 84] [(65, 0), (65, 6), (73, 1), (73, 2), (73, 6), (73, 7), (73, 8), (74, 6), (74, 0), (0, 14)] h q
/-- the class's rights hold the lines -/
def LsR (q : Hp) (ls : List LI) : Prop := q.1 65 0 = nI ls.length ∧ (∀ j l, ls[j]? = some l → q.1 66 j = l.1 ∧ q.1 67 j = nI (pC ls j) ∧ q.1 68 j = nI (pC ls j + l.2.1.1.length) ∧ q.1 69 j = nI (pC ls j + l.2.1.1.length + l.2.2.1.length)) ∧ ∀ i, i < (tCl ls).length → q.1 70 i = (tCl ls).getD i 0
theorem ok_textC (hd : 29 ≤ d) (hS : Std h.2.2) (ht : TxC t h) (hm : h.1 0 14 = nI m) (hm3 : m ≤ 300) (h1 : ¬ (0 ≤ x ∧ x ≤ nI m) → X iae h) (hq : ∀ n, x = nI n → n ≤ m → ∀ q T, FTx h q → ScT t n T → q.1 0 14 = 0 → (((rT t n T).1 = 0 → q.1 73 1 = 0 ∧ q.1 73 2 = -1 ∧ LsR q (rT t n T).2.2 ∧ LsOK (Kc t n T) (PT t n) (rT t n T).2.1 (rT t n T).2.2 ∧ (rT t n T).2.1 ≤ 300 → F (nI (rT t n T).2.2.length) q) ∧ ((rT t n T).1 ≠ 0 → q.1 73 1 = nI (rT t n T).1 ∧ q.1 73 2 = nI (Bc t n T (rT t n T).2.1) ∧ q.1 65 0 = h.1 65 0 ∧ (∀ j, q.1 66 j = h.1 66 j ∧ q.1 67 j = h.1 67 j ∧ q.1 68 j = h.1 68 j ∧ q.1 69 j = h.1 69 j ∧ q.1 70 j = h.1 70 j) → F (-10 - nI (rT t n T).1) q))) : OKi d mX11_text [.ref 0, .int x] h F X := by
  refine OKi.up hd (oki_of 28 (by decide +kernel) (Nat.le_of_ble_eq_true rfl) (sgX11_text_0 _ (by decide) hS ⟨fun w => h1 fun y => absurd w (Int32.not_lt.mpr y.1), fun w => ?_⟩))
  rw [hm]
  refine ⟨fun w2 => ?_, fun w2 => h1 fun y => w2 y.2⟩
  obtain ⟨n, hn, en⟩ := nI_nat (Int32.not_lt.mp w)
  subst en
  have nm := (nI_leI hn (by omega)).mp w2
  have t1 : TxC t (hI h 0 14 0) := fun i hi => by rw [hI_c (by decide)]; exact ht i hi
  have hS1 : Std (hI h 0 14 0).2.2 := hS
  refine OKv.up (by decide) (ok_readC (t := t) (n := n) hS1 t1 (by omega) fun q1 T f1 S z0 z1 => ?_)
  have hS2 := f1.sd hS1
  have F1 : FTx h q1 := Fr.tr (Fr.pI : FTx h (hI h 0 14 0)) f1.mono
  have x14 : q1.1 0 14 = 0 := by rw [f1.i 0 14]; rfl
  by_cases z : (rT t n T).1 = 0
  · obtain ⟨C, L, o⟩ := z0 z
    have C : LsC (Kc t n T) (Vr t n) (Bc t n T) T q1 (rT t n T).2.1 (rT t n T).2.2 := C
    have L : LsOK (Kc t n T) (PT t n) (rT t n T).2.1 (rT t n T).2.2 := L
    have e1 := C.1.2.1
    have e2 : q1.1 73 2 = -1 := (C.1.1.2.2.2 0 (Nat.zero_le _)).2.2.2
    have kT : (rT t n T).2.1 ≤ T := okT C.1.1 o
    have T3 := C.1.1.2.1
    have l1 := L.1
    refine ⟨fun _ => ok_copyFromR (by decide) hS2 L.2.2.1 (by omega) C.2.1 C.1.2.2.2.2 fun q2 f2 x0 x1 x2 => ?_, fun y => absurd e1 y⟩
    have F2 : FTx h q2 := Fr.tr F1 f2.mono
    rw [x0]
    refine (hq n rfl nm q2 T F2 S (by rw [f2.i 0 14]; exact x14)).1 z ⟨by rw [f2.i 73 1]; exact e1, by rw [f2.i 73 2]; exact e2, ⟨x0, fun j l e => ?_, fun i hi => by rw [x2 i hi]; exact C.2.2.1 i hi⟩, L, by omega⟩
    have hj := (List.getElem?_eq_some_iff.mp e).1
    obtain ⟨a1, a2, a3, a4⟩ := x1 j hj
    rw [a1, a2, a3, a4]
    exact C.2.2.2 j l e
  · have fd := z1 z
    refine ⟨fun y => absurd (nI_inj (b := 0) (by have := fd.2.2.2.1.2; omega) (by omega) (fd.2.1.symm.trans y)) z, fun _ => ?_⟩
    have e1 : q1.1 73 1 = nI (rT t n T).1 := fd.2.1
    rw [e1]
    exact (hq n rfl nm q1 T F1 S x14).2 z ⟨e1, fd.2.2.1, by rw [f1.i 65 0]; rfl, fun j => ⟨by rw [f1.i 66, hI_c (by decide)], by rw [f1.i 67, hI_c (by decide)], by rw [f1.i 68, hI_c (by decide)], by rw [f1.i 69, hI_c (by decide)], by rw [f1.i 70, hI_c (by decide)]⟩⟩
end TEXTOP
