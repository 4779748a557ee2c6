/-! rows of constructors -/
def MNm (C : Ctx) : Prop := match C with
  | (_, _, _, _, _, _, _, _, meth, _, _, _, _, _, _, _) => meth.name = "<init>"
def Ec (μ : MI) (d k n pc : Nat) (lv : List (Nat × Value)) (st : List Value) (h : Hp) (F : Hp → Prop) : Prop := ∀ C : Ctx, CxOK C μ → MX C μ d (Qv F) NX → MNm C → WW C μ k n pc lv st h
theorem callc_of {μ : MI} {d : Nat} {av : List Value} {h : Hp} {F : Hp → Prop} (hy : plainName μ.1.cls = true) (hi : μ.1.name = "<init>") (hn : (lg_sl av).length ≤ μ.2.2.1) (hE : Ec μ d 0 0 0 (lv_args 0 av) [] h F) : CallOK μ d av h (Qv F) NX := by
  intro hro l D g ad sz hst
  refine vx_ofW (cc := μ.2.1) (maxL := μ.2.2.1) (ret := μ.2.2.2.1) hy rfl ?_
  intro p e s m args below meth c s₁ B hml htab hv
  obtain ⟨rfl, hsz, hP, hK, hD0, hN, hT, hCs, hZ, h1000, href⟩ := hv
  have hts0 := atoms_spec (ws := wsM μ) B.pre
  have hnm : meth.name = "<init>" := (name_of_methodNamed B.named B.method).1.trans hi
  subst hsz
  have hA : ∀ q, s.heap.size ≤ q → va_A (wsC g ad h) s.heap.size q := fun q hq => Or.inr hq
  rw [lg_entry_eq]
  refine (hE (p, l, e, (headSpec (wsM μ) (rmC d μ)).room, s, m, ((av.map (cv ad)).toArray), below, meth, c, D, g, va_A (wsC g ad h) s.heap.size, ad, h.2.2.2, _)
    ⟨B.exec, B.bytes, hml, findClass_of_methodNamed B.named, fun w hw => hts0 w (List.mem_cons_of_mem _ hw), B.returns, B.notSynchronized, hK, hA, hst, hN, hT, hZ⟩ ⟨htab, rfl, hCs, rfl⟩ hnm ad s.heap [] _ ⟨hP, hD0.self, va_S.rf, fun _ _ => rfl, Nat.le_refl _, h1000, href⟩ ?_ (fun v hv => nomatch hv) ?_)
  · intro q hq
    have : ∀ (vs : List Value) (i : Nat), (∀ v ∈ vs, RO h.2.2.2 v) → ∀ q ∈ lv_args i vs, RO h.2.2.2 q.2 := by
      intro vs
      induction vs with
      | nil => intro i _ q hq; cases hq
      | cons v vs ih =>
        intro i hv q hq
        simp only [lv_args] at hq
        rcases List.mem_cons.mp hq with rfl | hq
        · exact hv v List.mem_cons_self
        · exact ih _ (fun w hw => hv w (List.mem_cons_of_mem _ hw)) q hq
    exact this av 0 hro q hq
  · have := lv_entry (av.map (cv ad)) (n := μ.2.2.1) (by rw [sl_cv]; exact hn)
    rw [lv_args_cv] at this
    exact this
theorem okc_of (d : Nat) {μ : MI} {av : List Value} {h : Hp} {F : Hp → Prop} (hy : plainName μ.1.cls = true) (hi : μ.1.name = "<init>") (hn : (lg_sl av).length ≤ μ.2.2.1) (hE : Ec μ d 0 0 0 (lv_args 0 av) [] h F) : OKv (d + 1) μ av h F NX := ⟨d, Nat.lt_succ_self d, callc_of hy hi hn hE⟩
section CTOR
variable {C : Ctx} {μ : MI} {d k n n0 pc ix N ci c f : Nat} {lv : List (Nat × Value)} {st : List Value} {L : WL} {Q : Option Value → Hp → Prop} {X : String → Hp → Prop}
theorem rmn_of (hX : MX C μ d Q X) (hk : k + 1 ≤ μ.2.2.2.2.2.1) (hn : n + N ≤ μ.2.2.2.2.2.2) : RmN C k n N := by
  obtain ⟨p, l, e, R, s, m, args, below, meth, c, D, g, A, ad0, n0, Qf⟩ := C
  obtain ⟨htab, rfl, hCs, rfl⟩ := hX
  exact ⟨hk, hn⟩
theorem rmn_L {xs : Nat → Int32} {M : Nat} (hL : LX xs M C) (hk : k + 1 ≤ 601024) (hn : n + N ≤ 7293034) : RmN C k n N := by
  obtain ⟨p, l, e, R, s, m, args, below, meth, c, D, g, A, ad0, n0, Qf⟩ := C
  obtain ⟨rfl, -⟩ := hL
  exact ⟨hk, hn⟩
theorem dcl {own CN0 : String} {T0 : u_T} {N0 : Nat} (h : vwCl[ci]? = some (CN0, T0, N0)) (h2 : (T0 f).1 = own) : ∀ CN T N, vwCl[ci]? = some (CN, T, N) → (T f).1 = own := fun CN T N e => by
  rw [h] at e
  cases e
  exact h2
theorem x_putI {v : Int32} (hC : CxOK C μ) (hd : decode μ.2.1 pc = .ok (.putfield ix, 3)) (hf : FLK μ.1.cls ix ci f .int false) (hs : SF c f ci .int) (hc : c < n0) (b : Lb n0 L) (kk : Lb n0 ((c, f, .inl v) :: L) → WW C μ k n (pc + 3) lv st (hX ((c, f, .inl v) :: L) n0)) : WW C μ k n pc lv (.int v :: .ref c :: st) (hX L n0) :=
  w_putI hC hd hf hs hc (by rw [hX_I]; exact kk (b.c hc))
theorem x_putZ (hC : CxOK C μ) (hd : decode μ.2.1 pc = .ok (.putfield ix, 3)) (hf : FLK μ.1.cls ix ci f .boolean false) (hs : SF c f ci .boolean) (hc : c < n0) (b : Lb n0 L) (kk : Lb n0 ((c, f, .inl 0) :: L) → WW C μ k n (pc + 3) lv st (hX ((c, f, .inl 0) :: L) n0)) : WW C μ k n pc lv (.int 0 :: .ref c :: st) (hX L n0) :=
  w_putZ hC hd hf hs hc zn_0 rfl (by rw [hX_I]; exact kk (b.c hc))
theorem x_putJ {v : Int64} (hC : CxOK C μ) (hd : decode μ.2.1 pc = .ok (.putfield ix, 3)) (hf : FLK μ.1.cls ix ci f .long false) (hs : SF c f ci .long) (hc : c < n0) (b : Lb n0 L) (kk : Lb n0 ((c, f, .inr (.inl v)) :: L) → WW C μ k n (pc + 3) lv st (hX ((c, f, .inr (.inl v)) :: L) n0)) : WW C μ k n pc lv (.long v :: .ref c :: st) (hX L n0) :=
  w_putJ hC hd hf hs hc (by rw [hX_L]; exact kk (b.c hc))
theorem x_putR {r : Nat} {ty : FieldType} {fin : Bool} (hC : CxOK C μ) (hM : MNm C) (hd : decode μ.2.1 pc = .ok (.putfield ix, 3)) (hf : FLK μ.1.cls ix ci f ty fin) (ht : (∃ t, ty = .object t) ∨ ∃ t, ty = .array t) (hs : SF c f ci ty) (hdc : ∀ CN T N, vwCl[ci]? = some (CN, T, N) → (T f).1 = μ.1.cls) (hc : c < n0) (hr : r < n0) (b : Lb n0 L) (kk : Lb n0 ((c, f, .inr (.inr r)) :: L) → WW C μ k n (pc + 3) lv st (hX ((c, f, .inr (.inr r)) :: L) n0)) : WW C μ k n pc lv (.ref r :: .ref c :: st) (hX L n0) := by
  refine w_putR hC hd hf ht hs hc hr (Or.inr ⟨?_, hdc⟩) (by rw [hX_R]; exact kk (b.c hc))
  rintro _ _ _ _ _ _ _ _ _ _ _ _ _ _ _ _ rfl
  exact hM
theorem x_iast {v i : Int32} {j : Nat} (hC : CxOK C μ) (hd : decode μ.2.1 pc = .ok (.iastore, 1)) (hs : SHP c = .inl (.int, N)) (hc : c < n0) (hi : vp_in i N) (hj : i.toNatClampNeg = j) (b : Lb n0 L) (kk : Lb n0 ((c, j, .inl v) :: L) → WW C μ k n (pc + 1) lv st (hX ((c, j, .inl v) :: L) n0)) : WW C μ k n pc lv (.int v :: .int i :: .ref c :: st) (hX L n0) := by
  subst hj
  exact w_iast hC hd hs hc hi (by rw [hX_I]; exact kk (b.c hc))
theorem x_newo {CN : String} {T : u_T} {tyf : Nat → FieldType} {tys : List FieldType} (hC : CxOK C μ) (hd : decode μ.2.1 pc = .ok (.new ix, 3)) (hs : SHP n0 = .inr (ci, tys)) (hv : vwCl[ci]? = some (CN, T, N)) (hin : ∀ w ∈ u_ws CN T N, w ∈ BIG) (hty : ∀ k, k < N → parseFieldDescriptor (T k).2.2.1 = some (tyf k)) (hT : ∀ j, j < N → tys[j]? = some (tyf j)) (ok : ∀ t ∈ tys, okty t = true) (hcl : Cond.classLink μ.1.cls ix CN ∈ BIG) (hinst : Cond.instantiable CN N ∈ BIG) (hini : Cond.initialized CN ∈ BIG) (hR : RmN C k n N) (h9 : n0 < 1000) (b : Lb n0 L)
    (kk : Lb (n0 + 1) L → WW C μ (k + 1) (n + N) (pc + 3) lv (.ref n0 :: st) (hX L (n0 + 1))) : WW C μ k n pc lv st (hX L n0) :=
  w_new (h := hX L n0) hC hd hs hv hin hty hT ok hcl hinst hini hR h9 (by rw [hN_X b]; exact kk (b.up (Nat.le_succ _)))
theorem x_newi {v : Int32} (hC : CxOK C μ) (hd : decode μ.2.1 pc = .ok (.newarray .int, 2)) (hs : SHP n0 = .inl (.int, N)) (hv0 : ¬ v < 0) (hvN : v.toNatClampNeg = N) (hby : Nat.ble (N * 4) 536870912 = true) (hR : RmN C k n N) (h9 : n0 < 1000) (b : Lb n0 L)
    (kk : Lb (n0 + 1) L → WW C μ (k + 1) (n + N) (pc + 2) lv (.ref n0 :: st) (hX L (n0 + 1))) : WW C μ k n pc lv (.int v :: st) (hX L n0) :=
  w_newa (h := hX L n0) (a0 := (N, .inl fun _ => 0)) hC hd rfl hs (Or.inl ⟨rfl, rfl⟩) (fun _ => rfl) hv0 hvN (Nat.le_of_ble_eq_true hby) b_1_88 hR h9 (by rw [hN_X b]; exact kk (b.up (Nat.le_succ _)))
theorem x_newj {v : Int32} (hC : CxOK C μ) (hd : decode μ.2.1 pc = .ok (.newarray .long, 2)) (hs : SHP n0 = .inl (.long, N)) (hv0 : ¬ v < 0) (hvN : v.toNatClampNeg = N) (hby : Nat.ble (N * 8) 536870912 = true) (hR : RmN C k n N) (h9 : n0 < 1000) (b : Lb n0 L)
    (kk : Lb (n0 + 1) L → WW C μ (k + 1) (n + N) (pc + 2) lv (.ref n0 :: st) (hX L (n0 + 1))) : WW C μ k n pc lv (.int v :: st) (hX L n0) :=
  w_newa (h := hX L n0) (a0 := (N, .inr (.inl fun _ => 0))) hC hd rfl hs (Or.inr (Or.inl ⟨rfl, rfl⟩)) (fun _ => rfl) hv0 hvN (Nat.le_of_ble_eq_true hby) b_1_160 hR h9 (by rw [hN_X b]; exact kk (b.up (Nat.le_succ _)))
theorem x_newz {v : Int32} (hC : CxOK C μ) (hd : decode μ.2.1 pc = .ok (.newarray .boolean, 2)) (hs : SHP n0 = .inl (.boolean, N)) (hv0 : ¬ v < 0) (hvN : v.toNatClampNeg = N) (hby : Nat.ble (N * 1) 536870912 = true) (hR : RmN C k n N) (h9 : n0 < 1000) (b : Lb n0 L)
    (kk : Lb (n0 + 1) L → WW C μ (k + 1) (n + N) (pc + 2) lv (.ref n0 :: st) (hX L (n0 + 1))) : WW C μ k n pc lv (.int v :: st) (hX L n0) :=
  w_newa (h := hX L n0) (a0 := (N, .inl fun _ => 0)) hC hd rfl hs (Or.inr (Or.inr ⟨rfl, rfl⟩)) (fun _ => rfl) hv0 hvN (Nat.le_of_ble_eq_true hby) b_2_12 hR h9 (by rw [hN_X b]; exact kk (b.up (Nat.le_succ _)))
end CTOR
