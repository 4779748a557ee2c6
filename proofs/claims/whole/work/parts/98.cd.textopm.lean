/-! a text taken, by the reference -/
section TEXTOPM
variable {t : Nat → Int32} {h q g : Hp} {d m n T : Nat} {X : String → Hp → Prop} {F : Int32 → Hp → Prop} {G : Hp → Prop} {x : Int32}
def FTm (h q : Hp) : Prop := Fr [137, 138, 139, 140] [(91, 0), (91, 67), (91, 68), (91, 69), (91, 70), (91, 71), (91, 72), (91, 73), (91, 74), (91, 75), (91, 76), (91, 77), (91, 78), (91, 79)] h q
theorem ok_textM (hd : 33 ≤ d) (hS : Std h.2.2) (ht : ∀ i, i < 300 → h.1 136 i = t i) (hm : h.1 91 67 = nI m) (hm3 : m ≤ 300) (h1 : isW x 0 (nI m) = false → ∀ q, Fr [] [(91, 0)] h q → q.1 91 0 = 1 → F 0 q) (hq : ∀ n, x = nI n → n ≤ m → ∃ T, ScT t n T ∧ ∀ q, FTm h q → q.1 91 0 = 0 → q.1 91 67 = 0 → (((rT t n T).1 = 0 → q.1 91 75 = 0 ∧ q.1 91 76 = -1 ∧ q.1 91 79 = nI (rT t n T).2.2.length ∧ LsM 138 140 q (rT t n T).2.2 → F (nI (rT t n T).2.2.length) q) ∧ ((rT t n T).1 ≠ 0 → q.1 91 75 = nI (rT t n T).1 ∧ q.1 91 76 = nI (Bc t n T (rT t n T).2.1) ∧ q.1 91 79 = h.1 91 79 ∧ (∀ j, q.1 138 j = h.1 138 j ∧ q.1 140 j = h.1 140 j) → F (-10 - nI (rT t n T).1) q))) : OKi d mX12_text [.ref 91, .int x] h F X := by
  have hS0 : Std (hI h 91 0 0).2.2 := hS
  refine OKi.up hd (oki_of 32 (by decide +kernel) (Nat.le_of_ble_eq_true rfl) (sgX12_text_0 _ (by decide) hS (ok_isWM (a := 0) (b := nI m) rfl (by rw [hm]) (by decide) hS0 ⟨fun w => ?_, fun w => ?_⟩)))
  · exact ok_fails (n := 1) (by decide) hS0 fun q f e => h1 (bI_0.mp w) q (Fr.tr Fr.pI f) e
  obtain ⟨n, nm, en⟩ := isW_n (n := m) (by omega) (bI_n0.mp w)
  subst en
  obtain ⟨T, S, hq⟩ := hq n rfl nm
  have f0 : FTm h (hI (hI (hI (hI (hI (hI (hI h 91 0 0) 91 68 (nI n)) 91 67 0) 91 69 0) 91 73 0) 91 77 0) 91 78 0) := Fr.tr (Fr.tr (Fr.tr (Fr.tr (Fr.tr (Fr.tr Fr.pI Fr.pI) Fr.pI) Fr.pI) Fr.pI) Fr.pI) Fr.pI
  have t0 : TxM t n (hI (hI (hI (hI (hI (hI (hI h 91 0 0) 91 68 (nI n)) 91 67 0) 91 69 0) 91 73 0) 91 77 0) 91 78 0) := ⟨fun i hi => by rw [f0.i 136]; exact ht i hi, rfl⟩
  have fz : Fr [] [(91, 0), (91, 67), (91, 68), (91, 69), (91, 73), (91, 77), (91, 78)] h (hI (hI (hI (hI (hI (hI (hI h 91 0 0) 91 68 (nI n)) 91 67 0) 91 69 0) 91 73 0) 91 77 0) 91 78 0) := Fr.tr (Fr.tr (Fr.tr (Fr.tr (Fr.tr (Fr.tr Fr.pI Fr.pI) Fr.pI) Fr.pI) Fr.pI) Fr.pI) Fr.pI
  have x0 : (hI (hI (hI (hI (hI (hI (hI h 91 0 0) 91 68 (nI n)) 91 67 0) 91 69 0) 91 73 0) 91 77 0) 91 78 0).1 91 0 = 0 := rfl
  have x67 : (hI (hI (hI (hI (hI (hI (hI h 91 0 0) 91 68 (nI n)) 91 67 0) 91 69 0) 91 73 0) 91 77 0) 91 78 0).1 91 67 = 0 := rfl
  have x69 : (hI (hI (hI (hI (hI (hI (hI h 91 0 0) 91 68 (nI n)) 91 67 0) 91 69 0) 91 73 0) 91 77 0) 91 78 0).1 91 69 = 0 := rfl
  have x73 : (hI (hI (hI (hI (hI (hI (hI h 91 0 0) 91 68 (nI n)) 91 67 0) 91 69 0) 91 73 0) 91 77 0) 91 78 0).1 91 73 = 0 := rfl
  have x77 : (hI (hI (hI (hI (hI (hI (hI h 91 0 0) 91 68 (nI n)) 91 67 0) 91 69 0) 91 73 0) 91 77 0) 91 78 0).1 91 77 = 0 := rfl
  have x78 : (hI (hI (hI (hI (hI (hI (hI h 91 0 0) 91 68 (nI n)) 91 67 0) 91 69 0) 91 73 0) 91 77 0) 91 78 0).1 91 78 = 0 := rfl
  generalize hI (hI (hI (hI (hI (hI (hI h 91 0 0) 91 68 (nI n)) 91 67 0) 91 69 0) 91 73 0) 91 77 0) 91 78 0 = g0 at f0 fz t0 x0 x67 x69 x73 x77 x78
  have hn : n ≤ 300 := by omega
  refine ok_nextX (t := t) (n := n) (p := 0) (by decide) (f0.sd hS) t0 hn (Nat.zero_le _) x69 fun q1 f1 r1 => ?_
  have hS1 := f1.sd (f0.sd hS)
  have y1 : Ytk t n T q1 0 := ⟨t0.fr f1, r1, fun j hj => absurd hj (Nat.not_lt_zero _)⟩
  have s1 : RSt (Ytk t n T) q1 0 (tRl []).length 0 := ⟨y1, by rw [f1.i 91 73]; exact x73, by rw [f1.i 91 77]; exact x77, by rw [f1.i 91 78]; exact x78⟩
  have L0 : LsOK (Kc t n T) (PT t n) 0 [] := ⟨Nat.le_refl _, Nat.zero_le _, Nat.zero_le _, fun j l e => absurd e (by simp)⟩
  have M0 : LsM 137 139 q1 [] := ⟨fun i hi => absurd hi (Nat.not_lt_zero _), fun j l e => absurd e (by simp)⟩
  have Tk := TkP_tk S hn
  refine lp_text (YOK_tk S hn) Tk 302 0 [] q1 (by omega) hS1 L0 (fun j hj => absurd hj (Nat.not_lt_zero _)) s1 M0 fun q2 m2 p2 hm2 => ?_
  have F2 : FTm h q2 := Fr.tr f0 (Fr.tr f1.mono p2.1.mono)
  refine ok_textE (r := rT t n T) Tk (F2.sd hS) p2 hm2 (fun z q3 f3 a1 a2 a3 a4 => ?_) fun z q3 f3 a1 a2 => ?_
  · exact (hq q3 (Fr.tr F2 f3.mono) (by rw [f3.i 91 0, p2.1.i 91 0, f1.i 91 0]; exact x0) (by rw [f3.i 91 67, p2.1.i 91 67, f1.i 91 67]; exact x67)).1 z ⟨a1, a2, a3, a4⟩
  · have F3 : FTm h q3 := Fr.tr F2 f3.mono
    have f79 : g0.1 91 79 = h.1 91 79 ∧ ∀ j, g0.1 138 j = h.1 138 j ∧ g0.1 140 j = h.1 140 j := ⟨fz.i 91 79, fun j => ⟨fz.i 138 j, fz.i 140 j⟩⟩
    exact (hq q3 F3 (by rw [f3.i 91 0, p2.1.i 91 0, f1.i 91 0]; exact x0) (by rw [f3.i 91 67, p2.1.i 91 67, f1.i 91 67]; exact x67)).2 z ⟨a1, a2, by rw [f3.i 91 79, p2.1.i 91 79, f1.i 91 79]; exact f79.1, fun j => ⟨by rw [f3.i 138, p2.1.i 138, f1.i 138]; exact (f79.2 j).1, by rw [f3.i 140, p2.1.i 140, f1.i 140]; exact (f79.2 j).2⟩⟩
end TEXTOPM
