/-! methods with a table of their own: called, caught -/
def ncL : List (String × String) := [("java/lang/IllegalArgumentException", "java/lang/IllegalStateException"), ("java/lang/IllegalArgumentException", "java/lang/IndexOutOfBoundsException"), ("java/lang/IllegalArgumentException", "java/util/NoSuchElementException"), ("java/lang/IllegalStateException", "java/lang/IllegalArgumentException"), ("java/lang/IllegalStateException", "java/lang/IndexOutOfBoundsException"), ("java/lang/IllegalStateException", "java/util/NoSuchElementException"), ("java/lang/IndexOutOfBoundsException", "java/lang/IllegalArgumentException"), ("java/lang/IndexOutOfBoundsException", "java/lang/IllegalStateException"), ("java/lang/IndexOutOfBoundsException", "java/util/NoSuchElementException"), ("java/util/NoSuchElementException", "java/lang/IllegalArgumentException"), ("java/util/NoSuchElementException", "java/lang/IllegalStateException"), ("java/util/NoSuchElementException", "java/lang/IndexOutOfBoundsException")]
def NcOK (s : State) : Prop := ∀ q ∈ ncL, va_Nc q.1 q.2 s
theorem NcOK.moved {u U : State} (hvm : u.vm.Alike U.vm) (h : NcOK u) : NcOK U := fun q hq => va_Nc.moved hvm (h q hq)
abbrev HT : Type := List (Nat × Nat × Nat × Nat)
def PCn (D : va_G) (g : G3) (ad : Nat → Nat) (h : Hp) (sz : Nat) (av : List Value) : Array Value → State → Prop := fun a U => PC D g ad h sz av a U ∧ NcOK U
theorem PCn_blind {D : va_G} {g : G3} {ad : Nat → Nat} {h : Hp} {sz : Nat} {av : List Value} : FrameBlind (PCn D g ad h sz av) := by
  intro a U gf mk hq
  exact ⟨PC_blind a U gf mk hq.1, NcOK.moved (u := U) (U := U.calling gf mk a) (Vm.Alike.refl U.vm) hq.2⟩
def wsH (μ : MI) (hh : HT) : List Cond := .codeWith μ.1 μ.2.1 μ.2.2.1 μ.2.2.2.1 hh :: BIG
def CallOKh (μ : MI) (hh : HT) (d : Nat) (av : List Value) (h : Hp) (Q : Option Value → Hp → Prop) : Prop := (∀ v ∈ av, RO h.2.2.2 v) → ∀ (l : Launch) (D : va_G) (g : G3) (ad : Nat → Nat) (sz : Nat), l.stackTraces = false →
  vx_Met l μ.1 (wsH μ hh) (rmC d μ) (PCn D g ad h sz av) (QC D g (va_A (wsC g ad h) sz) ad h.2.2.2 μ.2.2.2.2.1 Q) (XQ D g (va_A (wsC g ad h) sz) ad h.2.2.2 μ.2.2.2.2.1 (fun _ _ => False)) μ.2.2.2.2.2.1 μ.2.2.2.2.2.2 (va_A (wsC g ad h) sz)
def NcC (C : Ctx) : Prop := match C with
  | (_, _, _, _, s, _, _, _, _, _, _, _, _, _, _, _) => NcOK s
def TabC (C : Ctx) (hh : HT) : Prop := match C with
  | (_, _, _, _, _, _, _, _, _, c, _, _, _, _, _, _) => c.exceptionTable.toList = tableOf hh
def MXh (C : Ctx) (μ : MI) (d : Nat) (Q : Option Value → Hp → Prop) : Prop := match C with
  | (_, _, _, R, s, _, args, below, _, _, D, g, A, ad0, n0, Qf) => R = rmC d μ ∧ CasOK s ∧ Qf = vx_MQ below (QC D g A ad0 n0 μ.2.2.2.2.1 Q) (XQ D g A ad0 n0 μ.2.2.2.2.1 (fun _ _ => False)) args s μ.2.2.2.2.2.1 μ.2.2.2.2.2.2 A
def Eh (μ : MI) (hh : HT) (d k n pc : Nat) (lv : List (Nat × Value)) (st : List Value) (h : Hp) (Q : Option Value → Hp → Prop) : Prop := ∀ C : Ctx, CxOK C μ → TabC C hh → NcC C → MXh C μ d Q → WW C μ k n pc lv st h
theorem callh_of {μ : MI} {hh : HT} {d : Nat} {av : List Value} {h : Hp} {Q : Option Value → Hp → Prop} (hy : plainName μ.1.cls = true) (hn : (lg_sl av).length ≤ μ.2.2.1) (hE : Eh μ hh d 0 0 0 (lv_args 0 av) [] h Q) : CallOKh μ hh d av h Q := by
  intro hro l D g ad sz hst
  refine vx_ofWH (cc := μ.2.1) (maxL := μ.2.2.1) (ret := μ.2.2.2.1) (hh := hh) hy rfl ?_
  intro p e s m args below meth c s₁ B hml hv0
  obtain ⟨hv, hNc⟩ := hv0
  have hts0 := atoms_spec (ws := wsH μ hh) B.pre
  have htab : c.exceptionTable.toList = tableOf hh := vx_table (x := μ.1) B (hts0 _ List.mem_cons_self)
  obtain ⟨rfl, hsz, hP, hK, hD0, hN, hT, hCs, hZ, h1000, href⟩ := hv
  subst hsz
  have hA : ∀ q, s.heap.size ≤ q → va_A (wsC g ad h) s.heap.size q := fun q hq => Or.inr hq
  rw [lg_entry_eq]
  refine (hE (p, l, e, (headSpec (wsH μ hh) (rmC d μ)).room, s, m, ((av.map (cv ad)).toArray), below, meth, c, D, g, va_A (wsC g ad h) s.heap.size, ad, h.2.2.2, _)
    ⟨B.exec, B.bytes, hml, findClass_of_methodNamed B.named, fun w hw => hts0 w (List.mem_cons_of_mem _ hw), B.returns, B.notSynchronized, hK, hA, hst, hN, hT, hZ⟩ htab hNc ⟨rfl, hCs, rfl⟩ ad s.heap [] _ ⟨hP, hD0.self, va_S.rf, fun _ _ => rfl, Nat.le_refl _, h1000, href⟩ ?_ (fun v hv => nomatch hv) ?_)
  · intro q hq
    have : ∀ (vs : List Value) (i : Nat), (∀ v ∈ vs, RO h.2.2.2 v) → ∀ q ∈ lv_args i vs, RO h.2.2.2 q.2 := by
      intro vs
      induction vs with
      | nil => intro i _ q hq; cases hq
      | cons v vs ih =>
        intro i hv q hq
        simp only [lv_args] at hq
        rcases List.mem_cons.mp hq with rfl | hq
        · exact hv v List.mem_cons_self
        · exact ih _ (fun w hw => hv w (List.mem_cons_of_mem _ hw)) q hq
    exact this av 0 hro q hq
  · have := lv_entry (av.map (cv ad)) (n := μ.2.2.1) (by rw [sl_cv]; exact hn)
    rw [lv_args_cv] at this
    exact this
section HROWS
variable {C : Ctx} {μ μ' : MI} {d d' k n pc ix : Nat} {hh : HT} {lv : List (Nat × Value)} {st : List Value} {h : Hp} {Q Q' : Option Value → Hp → Prop}
theorem w_iretH {x : Int32} (hC : CxOK C μ) (hX : MXh C μ d Q) (hd : decode μ.2.1 pc = .ok (.ireturn, 1)) (hr : μ.2.2.2.1 = some .int) (hS : μ.2.2.2.2.1 h.2.2) (hk : k ≤ μ.2.2.2.2.2.1) (hn : n ≤ μ.2.2.2.2.2.2) (hq : Q (some (.int x)) h) : WW C μ k n pc lv [.int x] h := by
  obtain ⟨p, l, e, R, s, m, args, below, meth, c, D, g, A, ad0, n0, Qf⟩ := C
  obtain ⟨hx, hb, hml, hown, hts, hr0, hlk, hK, hA, hl9, hN, hT, hZ⟩ := hC
  obtain ⟨hR, hCs, rfl⟩ := hX
  intro ad H locs ls hW hlv hst hl
  obtain ⟨w1, w2, w3, w4, w5, w6, w7⟩ := id hW
  refine W.widen (k := μ.2.2.2.2.2.1) (n := μ.2.2.2.2.2.2) hk hn (vx_ret (W.zret (v := x) hx hb (hr0.trans hr) rfl (fun t ht hWt => ⟨⟨some (.int x), h, ad, rfl, hq, fun w hw => by cases hw; trivial, ?_⟩, w3.F ht⟩) w3.2.2 hd))
  exact ⟨by rw [ht]; exact w1, w2, w4, w5, w6, w7, hS⟩
theorem rm_ofH (hX : MXh C μ d Q) (hd : d' < d) (hloc : μ'.2.2.1 ≤ 21) (h1 : k + μ'.2.2.2.2.2.1 ≤ μ.2.2.2.2.2.1) (h2 : n + μ'.2.2.2.2.2.2 ≤ μ.2.2.2.2.2.2) : RmOK C μ' d' k n := by
  obtain ⟨p, l, e, R, s, m, args, below, meth, c, D, g, A, ad0, n0, Qf⟩ := C
  obtain ⟨hR, hCs, rfl⟩ := hX
  subst hR
  refine ⟨hd, ?_, h1, h2⟩
  show 8 + (μ'.2.2.1 + 11) + 40 * d' ≤ 40 * d
  omega
theorem cas_ofH (hX : MXh C μ d Q) : CasC C := by
  obtain ⟨p, l, e, R, s, m, args, below, meth, c, D, g, A, ad0, n0, Qf⟩ := C
  exact hX.2.1
/-- caught; what is caught is put away and not looked at again -/
theorem w_catch {E nm : String} (x : Nat × Nat × Nat × Nat) (pre suf : HT) (hC : CxOK C μ) (hT : TabC C hh) (hN : NcC C) (hCs : CasC C) (hsp : hh = pre ++ x :: suf) (hpass : ∀ z ∈ pre, z.2.2.2 ≠ 0 ∧ ∃ nm', Cond.classLink μ.1.cls z.2.2.2 nm' ∈ BIG ∧ (E, nm') ∈ ncL) (hx : covers ⟨x.1, x.2.1, x.2.2.1, x.2.2.2⟩ pc = true) (h0 : x.2.2.2 ≠ 0) (hlink : Cond.classLink μ.1.cls x.2.2.2 nm ∈ BIG) (hcas : (E, nm) ∈ casL)
    (hd : (∃ (q : Fin 4) (i : Nat), decode μ.2.1 x.2.2.1 = .ok (.astore_n q, 1) ∧ (q : Nat) = i ∧ i < μ.2.2.1 ∧ WW C μ k n (x.2.2.1 + 1) [] [] h) ∨ (∃ i : Nat, decode μ.2.1 x.2.2.1 = .ok (.astore i, 2) ∧ i < μ.2.2.1 ∧ WW C μ k n (x.2.2.1 + 2) [] [] h)) : VX C μ k n pc lv st h E := by
  obtain ⟨p, l, e, R, s, m, args, below, meth, c, D, g, A, ad0, n0, Qf⟩ := C
  obtain ⟨hx0, hb, hml, hown, hts, hr0, hlk, hK, hA, hl9, hNs, hTs, hZ⟩ := hC
  intro ad H locs ls q ce hW hlv hst hl hce hcv hcl
  refine vx_catch (own := μ.1.cls) (name := nm) (E := E) hown (tableOf pre) ⟨x.1, x.2.1, x.2.2.1, x.2.2.2⟩ (tableOf suf) ?_ ?_ hx h0 (hts _ hlink) (va_Nw.use rfl (hCs.1 (E, nm) hcas)) hce hcv hcl ?_
  · have hT : c.exceptionTable.toList = tableOf hh := hT
    rw [hT, hsp]
    simp [tableOf]
  · intro z hz
    obtain ⟨z0, hz0, rfl⟩ := List.mem_map.mp hz
    obtain ⟨a, nm', b, c9⟩ := hpass z0 hz0
    exact Or.inr ⟨a, nm', hts _ b, hN (E, nm') c9⟩
  · rcases hd with ⟨q1, i, d1, d2, d3, kk⟩ | ⟨i, d1, d3, kk⟩
    · refine lv_astore_n hx0 hb d1 d2 hl d3 rfl (fun ls2 hl2 => kk ad H locs ls2 hW (fun q hq => nomatch hq) (fun v hv => nomatch hv) ?_)
      exact lv_sub hl2 [] rfl
    · refine lv_astore hx0 hb d1 hl d3 rfl (fun ls2 hl2 => kk ad H locs ls2 hW (fun q hq => nomatch hq) (fun v hv => nomatch hv) ?_)
      exact lv_sub hl2 [] rfl
def CLSh (own : String) (ix : Nat) (μ' : MI) (hh : HT) (np : Nat) : Prop := (Cond.initialized μ'.1.cls ∈ BIG ∧ Cond.codeWith μ'.1 μ'.2.1 μ'.2.2.1 μ'.2.2.2.1 hh ∈ BIG ∧ μ'.1.cls ≠ "java/lang/invoke/MethodHandle" ∧ μ'.1.cls ≠ "java/lang/invoke/VarHandle" ∧ (parseMethodDescriptor μ'.1.desc).map (fun d => d.parameters.length) = some np) ∧ Cond.methodLink own ix μ'.1 ∈ BIG ∧ Cond.static μ'.1 ∈ BIG
theorem wsH_good (hc : Cond.codeWith μ'.1 μ'.2.1 μ'.2.2.1 μ'.2.2.2.1 hh ∈ BIG) : GoodIn BIG (wsH μ' hh) := by
  intro w hw
  rcases List.mem_cons.mp hw with rfl | hw
  · exact ⟨hc, good_big hc⟩
  · exact ⟨hw, good_big hw⟩
theorem w_callSh (avs rest : List Value) (hC : CxOK C μ) (hCs : CasC C) (hN : NcC C) (hM : CallOKh μ' hh d' avs h Q') (hRm : RmOK C μ' d' k n) (hd : decode μ.2.1 pc = .ok (.invokestatic ix, 3)) (cl : CLSh μ.1.cls ix μ' hh avs.length) (hs0 : st = avs.reverse ++ rest) (h8 : (rest.map fun v => v.category).sum ≤ 8)
    (kk : ∀ (v : Option Value) (h' : Hp), Q' v h' → μ'.2.2.2.2.1 h'.2.2 → h.2.2.2 ≤ h'.2.2.2 → (∀ w, v = some w → RO h'.2.2.2 w) → WW C μ (k + μ'.2.2.2.2.2.1) (n + μ'.2.2.2.2.2.2) (pc + 3) lv (v.toList ++ rest) h') : WW C μ k n pc lv st h := by
  obtain ⟨p, l, e, R, s, m, args, below, meth, c, D, g, A, ad0, n0, Qf⟩ := C
  intro ad H locs ls hW hlv hst hl
  subst hs0
  obtain ⟨hx, hb0, hml, hown, hts, hr0, hlk, hK, hA, hl9, hNs, hT, hZ⟩ := id hC
  obtain ⟨⟨c1, c2, c3, c4, c5⟩, c6, c7⟩ := cl
  obtain ⟨r1, r2, r3, r4⟩ := hRm
  have hro : ∀ v ∈ avs, RO h.2.2.2 v := fun v hv => hst v (by simp [hv])
  have hrr : ∀ v ∈ rest, RO h.2.2.2 v := fun v hv => hst v (by simp [hv])
  have hlen : ∀ sig, parseMethodDescriptor μ'.1.desc = some sig → avs.length = sig.parameters.length := fun sig hq => by
    rw [hq] at c5
    exact (Option.some.inj c5).symm
  refine w_run (rest := rest) (X' := fun _ _ => False) hC hW hlv hrr hl (vx_runSX (hh := hh) (As := avs.map (cv ad)) (Ts := BIG) (own := μ.1.cls) ⟨hx, hb0, hml, hown, hts⟩ (hM hro l D g ad H.size hl9) ⟨⟨rfl, rfl, r1, r2, pay_in hts (wsH_good c2), List.mem_cons_self⟩, hts _ c2, hts _ c1, ⟨c3, c4⟩, hlen, hts _ c6, hts _ c7⟩ ⟨PCn_blind, fun U hU hWm => ⟨w_pre hC hCs hW avs U hU hWm, NcOK.moved hWm.alike hN⟩⟩ rfl (by rw [List.length_map]) hl.1 ?_ (lv_room (by rw [cat_cv]; exact h8)) hd ⟨r3, r4⟩) kk (fun E h' z => z.elim)
  rw [List.map_append, List.map_reverse]
end HROWS
/-! calls out of a method with a table -/
def OKh (d : Nat) (μ : MI) (hh : HT) (av : List Value) (h : Hp) (F : Int32 → Hp → Prop) : Prop := ∃ d', d' < d ∧ CallOKh μ hh d' av h (Qi F)
theorem okh_of (d : Nat) {μ : MI} {hh : HT} {av : List Value} {h : Hp} {F : Int32 → Hp → Prop} (hy : plainName μ.1.cls = true) (hn : (lg_sl av).length ≤ μ.2.2.1) (hE : Eh μ hh d 0 0 0 (lv_args 0 av) [] h (Qi F)) : OKh (d + 1) μ hh av h F := ⟨d, Nat.lt_succ_self d, callh_of hy hn hE⟩
section HCALL
variable {C : Ctx} {μ μ' : MI} {d k n k2 n2 pc ix : Nat} {lv : List (Nat × Value)} {st : List Value} {h : Hp} {Q : Option Value → Hp → Prop} {X : String → Hp → Prop}
/-- the wrapped call: it returns, or what it throws is caught -/
theorem h_callVi {b : Nat} (avs rest : List Value) {F : Int32 → Hp → Prop} (hC : CxOK C μ) (hX : MXh C μ d Q) (hM : OKi d μ' (.ref b :: avs) h F X) (hk2 : k2 = k + μ'.2.2.2.2.2.1) (hn2 : n2 = n + μ'.2.2.2.2.2.2) (hk : k + μ'.2.2.2.2.2.1 ≤ μ.2.2.2.2.2.1) (hn : n + μ'.2.2.2.2.2.2 ≤ μ.2.2.2.2.2.2) (hloc : μ'.2.2.1 ≤ 21) (hd : decode μ.2.1 pc = .ok (.invokevirtual ix, 3)) (cl : CLV μ.1.cls ix μ' avs.length) (ob : OB b μ'.1.cls) (hb : b < h.2.2.2) (hs0 : st = avs.reverse ++ .ref b :: rest) (h8 : (rest.map fun v => v.category).sum ≤ 8)
    (kk : ∀ (r : Int32) (h1 : Hp), F r h1 → μ'.2.2.2.2.1 h1.2.2 → WW C μ k2 n2 (pc + 3) lv (.int r :: rest) h1) (kx : ∀ (E : String) (h1 : Hp), X E h1 → μ'.2.2.2.2.1 h1.2.2 → VX C μ k2 n2 pc lv rest h1 E) : WW C μ k n pc lv st h := by
  obtain ⟨d', hdd, hM⟩ := hM
  subst hk2; subst hn2
  refine w_callV avs rest hC (cas_ofH hX) hM (rm_ofH hX hdd hloc hk hn) hd cl ob hb hs0 h8 (fun v h1 hq hs _ _ => ?_) (fun E h1 hq hs _ => kx E h1 hq hs)
  show WW C μ _ _ _ lv _ h1
  obtain ⟨r, rfl, hf⟩ := hq
  exact kk r h1 hf hs
theorem h_callVl {b : Nat} (avs rest : List Value) {F : Int64 → Hp → Prop} (hC : CxOK C μ) (hX : MXh C μ d Q) (hM : OKl d μ' (.ref b :: avs) h F X) (hk2 : k2 = k + μ'.2.2.2.2.2.1) (hn2 : n2 = n + μ'.2.2.2.2.2.2) (hk : k + μ'.2.2.2.2.2.1 ≤ μ.2.2.2.2.2.1) (hn : n + μ'.2.2.2.2.2.2 ≤ μ.2.2.2.2.2.2) (hloc : μ'.2.2.1 ≤ 21) (hd : decode μ.2.1 pc = .ok (.invokevirtual ix, 3)) (cl : CLV μ.1.cls ix μ' avs.length) (ob : OB b μ'.1.cls) (hb : b < h.2.2.2) (hs0 : st = avs.reverse ++ .ref b :: rest) (h8 : (rest.map fun v => v.category).sum ≤ 8)
    (kk : ∀ (r : Int64) (h1 : Hp), F r h1 → μ'.2.2.2.2.1 h1.2.2 → WW C μ k2 n2 (pc + 3) lv (.long r :: rest) h1) (kx : ∀ (E : String) (h1 : Hp), X E h1 → μ'.2.2.2.2.1 h1.2.2 → VX C μ k2 n2 pc lv rest h1 E) : WW C μ k n pc lv st h := by
  obtain ⟨d', hdd, hM⟩ := hM
  subst hk2; subst hn2
  refine w_callV avs rest hC (cas_ofH hX) hM (rm_ofH hX hdd hloc hk hn) hd cl ob hb hs0 h8 (fun v h1 hq hs _ _ => ?_) (fun E h1 hq hs _ => kx E h1 hq hs)
  show WW C μ _ _ _ lv _ h1
  obtain ⟨r, rfl, hf⟩ := hq
  exact kk r h1 hf hs
theorem h_callVv {b : Nat} (avs rest : List Value) {F : Hp → Prop} (hC : CxOK C μ) (hX : MXh C μ d Q) (hM : OKv d μ' (.ref b :: avs) h F X) (hk2 : k2 = k + μ'.2.2.2.2.2.1) (hn2 : n2 = n + μ'.2.2.2.2.2.2) (hk : k + μ'.2.2.2.2.2.1 ≤ μ.2.2.2.2.2.1) (hn : n + μ'.2.2.2.2.2.2 ≤ μ.2.2.2.2.2.2) (hloc : μ'.2.2.1 ≤ 21) (hd : decode μ.2.1 pc = .ok (.invokevirtual ix, 3)) (cl : CLV μ.1.cls ix μ' avs.length) (ob : OB b μ'.1.cls) (hb : b < h.2.2.2) (hs0 : st = avs.reverse ++ .ref b :: rest) (h8 : (rest.map fun v => v.category).sum ≤ 8)
    (kk : ∀ (h1 : Hp), F h1 → μ'.2.2.2.2.1 h1.2.2 → WW C μ k2 n2 (pc + 3) lv rest h1) (kx : ∀ (E : String) (h1 : Hp), X E h1 → μ'.2.2.2.2.1 h1.2.2 → VX C μ k2 n2 pc lv rest h1 E) : WW C μ k n pc lv st h := by
  obtain ⟨d', hdd, hM⟩ := hM
  subst hk2; subst hn2
  refine w_callV avs rest hC (cas_ofH hX) hM (rm_ofH hX hdd hloc hk hn) hd cl ob hb hs0 h8 (fun v h1 hq hs _ _ => ?_) (fun E h1 hq hs _ => kx E h1 hq hs)
  show WW C μ _ _ _ lv _ h1
  obtain ⟨rfl, hf⟩ := hq
  exact kk h1 hf hs
/-- what may be thrown, and what is told then -/
def XW1 (a : String) (F : Int32 → Hp → Prop) : String → Hp → Prop := fun E q => E = a ∧ F 1 q
def XW2 (a b : String) (F : Int32 → Hp → Prop) : String → Hp → Prop := fun E q => (E = a ∧ F 1 q) ∨ (E = b ∧ F 2 q)
def XW3 (a b e : String) (F : Int32 → Hp → Prop) : String → Hp → Prop := fun E q => (E = a ∧ F 1 q) ∨ (E = b ∧ F 2 q) ∨ (E = e ∧ F 3 q)
end HCALL
