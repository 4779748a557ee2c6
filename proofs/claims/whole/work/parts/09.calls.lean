/-! calls, returns, throws over the abstract machine -/
def CasOK (s : State) : Prop := (∀ q ∈ casL, va_Nw (.castable q.1 q.2) s) ∧ ∀ x ∈ decL, va_Nw (.declares x) s
def BD (D : va_G) (g : G3) (A : Nat → Prop) (ad0 : Nat → Nat) (n0 : Nat) (P : Hr → Prop) (ad : Nat → Nat) (h : Hp) (t : State) : Prop := va_P D vwCl (wsC g ad h) t.heap ∧ va_D A (wsC g ad h) ∧ (∀ c, (c < n0 ∨ 1000 ≤ c) → ad c = ad0 c) ∧ n0 ≤ h.2.2.2 ∧ h.2.2.2 ≤ 1000 ∧ (∀ d k c, d < h.2.2.2 → h.2.2.1 d k = some c → c < h.2.2.2) ∧ P h.2.2
def QC (D : va_G) (g : G3) (A : Nat → Prop) (ad0 : Nat → Nat) (n0 : Nat) (P : Hr → Prop) (Q : Option Value → Hp → Prop) : Array Value → State → Outcome → State → Prop := fun _ st oc t => (∃ (v : Option Value) (h : Hp) (ad : Nat → Nat), oc = .returned (v.map (cv ad)) ∧ Q v h ∧ (∀ w, v = some w → RO h.2.2.2 w) ∧ BD D g A ad0 n0 P ad h t) ∧ va_F A st t
def XQ (D : va_G) (g : G3) (A : Nat → Prop) (ad0 : Nat → Nat) (n0 : Nat) (P : Hr → Prop) (X : String → Hp → Prop) : String → State → State → Prop := fun E st t => (∃ (h : Hp) (ad : Nat → Nat), X E h ∧ BD D g A ad0 n0 P ad h t) ∧ va_F A st t
def rmC (d : Nat) (μ : MI) : Room := { frames := d, cells := μ.2.2.2.2.2.1, slots := μ.2.2.2.2.2.2, locals := 40 * d }
def MX (C : Ctx) (μ : MI) (d : Nat) (Q : Option Value → Hp → Prop) (X : String → Hp → Prop) : Prop := match C with
  | (_, _, _, R, s, _, args, below, _, c, D, g, A, ad0, n0, Qf) => (∀ x ∈ c.exceptionTable.toList, False) ∧ R = rmC d μ ∧ CasOK s ∧ Qf = vx_MQ below (QC D g A ad0 n0 μ.2.2.2.2.1 Q) (XQ D g A ad0 n0 μ.2.2.2.2.1 X) args s μ.2.2.2.2.2.1 μ.2.2.2.2.2.2 A
def E (μ : MI) (d k n pc : Nat) (lv : List (Nat × Value)) (st : List Value) (h : Hp) (Q : Option Value → Hp → Prop) (X : String → Hp → Prop) : Prop := ∀ C : Ctx, CxOK C μ → MX C μ d Q X → WW C μ k n pc lv st h
def PC (D : va_G) (g : G3) (ad : Nat → Nat) (h : Hp) (sz : Nat) (av : List Value) : Array Value → State → Prop := va_Pc (av.map (cv ad)) (fun U => U.heap.size = sz ∧ va_P D vwCl (wsC g ad h) U.heap ∧ va_K D vwCl (tysC g) U ∧ va_D (fun _ => True) (wsC g ad h) ∧ NstOK U ∧ StrOK ad U ∧ CasOK U ∧ (StaOK (va_A (wsC g ad h) sz) U U.heap ∧ TxtOK (va_A (wsC g ad h) sz) ad U U.heap) ∧ h.2.2.2 ≤ 1000 ∧ ∀ d k c, d < h.2.2.2 → h.2.2.1 d k = some c → c < h.2.2.2)
def wsM (μ : MI) : List Cond := .code μ.1 μ.2.1 μ.2.2.1 μ.2.2.2.1 :: BIG
def CallOK (μ : MI) (d : Nat) (av : List Value) (h : Hp) (Q : Option Value → Hp → Prop) (X : String → Hp → Prop) : Prop := (∀ v ∈ av, RO h.2.2.2 v) → ∀ (l : Launch) (D : va_G) (g : G3) (ad : Nat → Nat) (sz : Nat), l.stackTraces = false →
  vx_Met l μ.1 (wsM μ) (rmC d μ) (PC D g ad h sz av) (QC D g (va_A (wsC g ad h) sz) ad h.2.2.2 μ.2.2.2.2.1 Q) (XQ D g (va_A (wsC g ad h) sz) ad h.2.2.2 μ.2.2.2.2.1 X) μ.2.2.2.2.2.1 μ.2.2.2.2.2.2 (va_A (wsC g ad h) sz)
theorem lv_args_cv (ad : Nat → Nat) : ∀ (vs : List Value) (i : Nat), lv_args i (vs.map (cv ad)) = (lv_args i vs).map (cvl ad)
  | [], _ => rfl
  | v :: vs, i => by
    have ih := lv_args_cv ad vs
    cases v <;> simp [lv_args, cv, cvl, Value.category, ih]
theorem sl_cv (ad : Nat → Nat) (vs : List Value) : (lg_sl (vs.map (cv ad))).length = (lg_sl vs).length := by
  unfold lg_sl
  induction vs with
  | nil => rfl
  | cons v vs ih =>
    rw [List.map_cons, List.flatMap_cons, List.flatMap_cons, List.length_append, List.length_append, ih, cv_cat]
    congr 1
    by_cases hc : v.category = 2 <;> simp [hc]
/-- a method from its entry -/
theorem call_of {μ : MI} {d : Nat} {av : List Value} {h : Hp} {Q : Option Value → Hp → Prop} {X : String → Hp → Prop} (hy : plainName μ.1.cls = true) (hn : (lg_sl av).length ≤ μ.2.2.1) (hE : E μ d 0 0 0 (lv_args 0 av) [] h Q X) : CallOK μ d av h Q X := by
  intro hro l D g ad sz hst
  refine vx_ofW (cc := μ.2.1) (maxL := μ.2.2.1) (ret := μ.2.2.2.1) hy rfl ?_
  intro p e s m args below meth c s₁ B hml htab hv
  obtain ⟨rfl, hsz, hP, hK, hD0, hN, hT, hCs, hZ, h1000, href⟩ := hv
  have hts0 := atoms_spec (ws := wsM μ) B.pre
  subst hsz
  have hA : ∀ q, s.heap.size ≤ q → va_A (wsC g ad h) s.heap.size q := fun q hq => Or.inr hq
  rw [lg_entry_eq]
  refine (hE (p, l, e, (headSpec (wsM μ) (rmC d μ)).room, s, m, ((av.map (cv ad)).toArray), below, meth, c, D, g, va_A (wsC g ad h) s.heap.size, ad, h.2.2.2, _)
    ⟨B.exec, B.bytes, hml, findClass_of_methodNamed B.named, fun w hw => hts0 w (List.mem_cons_of_mem _ hw), B.returns, B.notSynchronized, hK, hA, hst, hN, hT, hZ⟩ ⟨htab, rfl, hCs, rfl⟩ ad s.heap [] _ ⟨hP, hD0.self, va_S.rf, fun _ _ => rfl, Nat.le_refl _, h1000, href⟩ ?_ (fun v hv => nomatch hv) ?_)
  · intro q hq
    have : ∀ (vs : List Value) (i : Nat), (∀ v ∈ vs, RO h.2.2.2 v) → ∀ q ∈ lv_args i vs, RO h.2.2.2 q.2 := by
      intro vs
      induction vs with
      | nil => intro i _ q hq; cases hq
      | cons v vs ih =>
        intro i hv q hq
        simp only [lv_args] at hq
        rcases List.mem_cons.mp hq with rfl | hq
        · exact hv v List.mem_cons_self
        · exact ih _ (fun w hw => hv w (List.mem_cons_of_mem _ hw)) q hq
    exact this av 0 hro q hq
  · have := lv_entry (av.map (cv ad)) (n := μ.2.2.1) (by rw [sl_cv]; exact hn)
    rw [lv_args_cv] at this
    exact this
section RETS
variable {C : Ctx} {μ : MI} {d k n pc : Nat} {lv : List (Nat × Value)} {h : Hp} {Q : Option Value → Hp → Prop} {X : String → Hp → Prop}
theorem w_zret {x : Int32} {ty : FieldType} (hC : CxOK C μ) (hX : MX C μ d Q X) (hd : decode μ.2.1 pc = .ok (.ireturn, 1)) (hr : μ.2.2.2.1 = some ty) (hnr : narrow ty (.int x) = .int x) (hS : μ.2.2.2.2.1 h.2.2) (hk : k ≤ μ.2.2.2.2.2.1) (hn : n ≤ μ.2.2.2.2.2.2) (hq : Q (some (.int x)) h) : WW C μ k n pc lv [.int x] h := by
  obtain ⟨p, l, e, R, s, m, args, below, meth, c, D, g, A, ad0, n0, Qf⟩ := C
  obtain ⟨hx, hb, hml, hown, hts, hr0, hlk, hK, hA, hl9, hN, hT, hZ⟩ := hC
  obtain ⟨htab, hR, hCs, rfl⟩ := hX
  intro ad H locs ls hW hlv hst hl
  obtain ⟨w1, w2, w3, w4, w5, w6, w7⟩ := id hW
  refine W.widen (k := μ.2.2.2.2.2.1) (n := μ.2.2.2.2.2.2) hk hn (vx_ret (W.zret (v := x) hx hb (hr0.trans hr) hnr (fun t ht hWt => ⟨⟨some (.int x), h, ad, rfl, hq, fun w hw => by cases hw; trivial, ?_⟩, w3.F ht⟩) w3.2.2 hd))
  exact ⟨by rw [ht]; exact w1, w2, w4, w5, w6, w7, hS⟩
theorem w_iret {x : Int32} (hC : CxOK C μ) (hX : MX C μ d Q X) (hd : decode μ.2.1 pc = .ok (.ireturn, 1)) (hr : μ.2.2.2.1 = some .int) (hS : μ.2.2.2.2.1 h.2.2) (hk : k ≤ μ.2.2.2.2.2.1) (hn : n ≤ μ.2.2.2.2.2.2) (hq : Q (some (.int x)) h) : WW C μ k n pc lv [.int x] h := w_zret hC hX hd hr rfl hS hk hn hq
theorem w_lret {x : Int64} (hC : CxOK C μ) (hX : MX C μ d Q X) (hd : decode μ.2.1 pc = .ok (.lreturn, 1)) (hr : μ.2.2.2.1 = some .long) (hS : μ.2.2.2.2.1 h.2.2) (hk : k ≤ μ.2.2.2.2.2.1) (hn : n ≤ μ.2.2.2.2.2.2) (hq : Q (some (.long x)) h) : WW C μ k n pc lv [.long x] h := by
  obtain ⟨p, l, e, R, s, m, args, below, meth, c, D, g, A, ad0, n0, Qf⟩ := C
  obtain ⟨hx, hb, hml, hown, hts, hr0, hlk, hK, hA, hl9, hN, hT, hZ⟩ := hC
  obtain ⟨htab, hR, hCs, rfl⟩ := hX
  intro ad H locs ls hW hlv hst hl
  obtain ⟨w1, w2, w3, w4, w5, w6, w7⟩ := id hW
  refine W.widen (k := μ.2.2.2.2.2.1) (n := μ.2.2.2.2.2.2) hk hn (vx_ret (W.lret (v := x) hx hb (hr0.trans hr) (fun t ht hWt => ⟨⟨some (.long x), h, ad, rfl, hq, fun w hw => by cases hw; trivial, ?_⟩, w3.F ht⟩) w3.2.2 hd))
  exact ⟨by rw [ht]; exact w1, w2, w4, w5, w6, w7, hS⟩
theorem w_aret {x : Nat} {t : String} (hC : CxOK C μ) (hX : MX C μ d Q X) (hd : decode μ.2.1 pc = .ok (.areturn, 1)) (hr : μ.2.2.2.1 = some (.object t)) (hS : μ.2.2.2.2.1 h.2.2) (hk : k ≤ μ.2.2.2.2.2.1) (hn : n ≤ μ.2.2.2.2.2.2) (hq : Q (some (.ref x)) h) : WW C μ k n pc lv [.ref x] h := by
  obtain ⟨p, l, e, R, s, m, args, below, meth, c, D, g, A, ad0, n0, Qf⟩ := C
  obtain ⟨hx, hb, hml, hown, hts, hr0, hlk, hK, hA, hl9, hN, hT, hZ⟩ := hC
  obtain ⟨htab, hR, hCs, rfl⟩ := hX
  intro ad H locs ls hW hlv hst hl
  obtain ⟨w1, w2, w3, w4, w5, w6, w7⟩ := id hW
  have hro : RO h.2.2.2 (.ref x) := hst _ List.mem_cons_self
  refine W.widen (k := μ.2.2.2.2.2.1) (n := μ.2.2.2.2.2.2) hk hn (vx_ret (W.aret (v := .ref (ad x)) hx hb (hr0.trans hr) (Or.inl ⟨t, rfl⟩) (Or.inr ⟨_, rfl⟩) (fun t ht hWt => ⟨⟨some (.ref x), h, ad, rfl, hq, fun w hw => by cases hw; exact hro, ?_⟩, w3.F ht⟩) w3.2.2 hd))
  exact ⟨by rw [ht]; exact w1, w2, w4, w5, w6, w7, hS⟩
theorem w_vret (hC : CxOK C μ) (hX : MX C μ d Q X) (hd : decode μ.2.1 pc = .ok (.return_, 1)) (hr : μ.2.2.2.1 = none) (hS : μ.2.2.2.2.1 h.2.2) (hk : k ≤ μ.2.2.2.2.2.1) (hn : n ≤ μ.2.2.2.2.2.2) (hq : Q none h) : WW C μ k n pc lv [] h := by
  obtain ⟨p, l, e, R, s, m, args, below, meth, c, D, g, A, ad0, n0, Qf⟩ := C
  obtain ⟨hx, hb, hml, hown, hts, hr0, hlk, hK, hA, hl9, hN, hT, hZ⟩ := hC
  obtain ⟨htab, hR, hCs, rfl⟩ := hX
  intro ad H locs ls hW hlv hst hl
  obtain ⟨w1, w2, w3, w4, w5, w6, w7⟩ := id hW
  refine W.widen (k := μ.2.2.2.2.2.1) (n := μ.2.2.2.2.2.2) hk hn (vx_ret (W.vret hx hb (hr0.trans hr) (fun t ht hWt => ⟨⟨none, h, ad, rfl, hq, fun w hw => (by cases hw), ?_⟩, w3.F ht⟩) w3.2.2 hd))
  exact ⟨by rw [ht]; exact w1, w2, w4, w5, w6, w7, hS⟩
end RETS
/-! calls -/
def RmOK (C : Ctx) (μ' : MI) (d' k n : Nat) : Prop := match C with
  | (_, _, _, R, _, _, _, _, _, _, _, _, _, _, _, _) => d' + 1 ≤ R.frames ∧ 8 + (μ'.2.2.1 + 11) + 40 * d' ≤ R.locals ∧ k + μ'.2.2.2.2.2.1 ≤ R.cells ∧ n + μ'.2.2.2.2.2.2 ≤ R.slots
def CasC (C : Ctx) : Prop := match C with
  | (_, _, _, _, s, _, _, _, _, _, _, _, _, _, _, _) => CasOK s
/-- thrown in a callee, arrived here -/
def VX (C : Ctx) (μ : MI) (k n pc : Nat) (lv : List (Nat × Value)) (st : List Value) (h : Hp) (E : String) : Prop := match C with
  | (p, l, e, R, s, m, args, below, meth, c, _, _, _, _, _, Qf) => ∀ (ad : Nat → Nat) (H : Heap) (locs : List Loc) (ls : Array Slot) (q : Addr) (ce : Cell), Wd C ad h H locs → (∀ q ∈ lv, RO h.2.2.2 q.2) → (∀ v ∈ st, RO h.2.2.2 v) → lv_has ls μ.2.2.1 (lv.map (cvl ad)) → H[q]? = some ce → ce.vm = .none → s.vm.findClass E = some ce.cls → vx_W p l e R s m args below meth c H locs k n Qf (F0 m pc ls (st.map (cv ad))) q
def CBQ (own : String) (ix : Nat) (μ' : MI) (np : Nat) : Prop := Cond.initialized μ'.1.cls ∈ BIG ∧ Cond.code μ'.1 μ'.2.1 μ'.2.2.1 μ'.2.2.2.1 ∈ BIG ∧ μ'.1.cls ≠ "java/lang/invoke/MethodHandle" ∧ μ'.1.cls ≠ "java/lang/invoke/VarHandle" ∧ (parseMethodDescriptor μ'.1.desc).map (fun d => d.parameters.length) = some np
def CLV (own : String) (ix : Nat) (μ' : MI) (np : Nat) : Prop := CBQ own ix μ' np ∧ Cond.methodLink own ix μ'.1 ∈ BIG ∧ Cond.instanceMethod μ'.1 ∈ BIG ∧ Cond.selects μ'.1.cls μ'.1 μ'.1 ∈ BIG
def CLS (own : String) (ix : Nat) (μ' : MI) (np : Nat) : Prop := CBQ own ix μ' np ∧ Cond.methodLink own ix μ'.1 ∈ BIG ∧ Cond.static μ'.1 ∈ BIG
def CLN (own : String) (ix : Nat) (μ' : MI) (np : Nat) : Prop := CBQ own ix μ' np ∧ (∃ host, (own, ix, μ'.1, host) ∈ nstL) ∧ Cond.static μ'.1 ∈ BIG
def CLI (own : String) (ix : Nat) (μ' : MI) (np : Nat) : Prop := CBQ own ix μ' np ∧ Cond.methodLink own ix μ'.1 ∈ BIG ∧ Cond.instanceMethod μ'.1 ∈ BIG ∧ μ'.1.name = "<init>" ∧ μ'.2.2.2.1 = none
def CLJ (own : String) (ix : Nat) (μ' : MI) (np : Nat) : Prop := CBQ own ix μ' np ∧ (∃ host, (own, ix, μ'.1, host) ∈ nstL) ∧ Cond.instanceMethod μ'.1 ∈ BIG ∧ μ'.1.name = "<init>" ∧ μ'.2.2.2.1 = none
def OB (b : Nat) (cls : String) : Prop := ∃ (ci : Nat) (tys : List FieldType) (T : u_T) (N : Nat), SHP b = .inr (ci, tys) ∧ vwCl[ci]? = some (cls, T, N)
theorem ob_of {b f ci : Nat} {ty : FieldType} {cls : String} {T : u_T} {N : Nat} (h : SF b f ci ty) (hv : vwCl[ci]? = some (cls, T, N)) : OB b cls := by
  obtain ⟨tys, h1, -⟩ := h
  exact ⟨ci, tys, T, N, h1, hv⟩
theorem good_big {w : Cond} (h : w ∈ BIG) : (w.onTables && w.keeps) = true ∨ ∃ ty, w = .arrayClass ty := good_of_word (List.mem_filter.mp h).2
theorem NstOK.warm {s U : State} (hW : s.WarmedH U.vm) (h : NstOK s) : NstOK U := fun q hq => va_Nw.warmM hW (h q hq)
theorem NstOK.same {s U : State} (hv : s.vm = U.vm) (h : NstOK s) : NstOK U := fun q hq => va_Nw.same rfl hv (h q hq)
theorem StrOK.warm {ad : Nat → Nat} {s U : State} (hW : s.WarmedH U.vm) (h : StrOK ad s) : StrOK ad U := fun i q hq => vk_R.warm hW (h i q hq)
theorem StrOK.same {ad : Nat → Nat} {s U : State} (hv : U.vm = s.vm) (h : StrOK ad s) : StrOK ad U := fun i q hq => vk_R.same hv (h i q hq)
theorem CasOK.warm {s U : State} (hW : s.WarmedH U.vm) (h : CasOK s) : CasOK U := ⟨fun q hq => va_Nw.warmC hW (h.1 q hq), fun x hx => va_Nw.warmD hW (h.2 x hx)⟩
theorem CasOK.same {s U : State} (hv : s.vm = U.vm) (h : CasOK s) : CasOK U := ⟨fun q hq => va_Nw.same rfl hv (h.1 q hq), fun x hx => va_Nw.same rfl hv (h.2 x hx)⟩
theorem PC_blind {D : va_G} {g : G3} {ad : Nat → Nat} {h : Hp} {sz : Nat} {av : List Value} : FrameBlind (PC D g ad h sz av) := by
  intro a U gf mk hq
  obtain ⟨h1, h2, h3, h4, h5, h6, h7, h8, h9, h10, h11⟩ := hq
  exact ⟨h1, h2, h3, va_K.moved (u := U) (U := U.calling gf mk a) (Vm.Alike.refl U.vm) h4, h5, NstOK.same (s := U) rfl h6, StrOK.same (s := U) rfl h7, CasOK.same (s := U) rfl h8, ⟨⟨vx_Zq.moved (u := U) (U := U.calling gf mk a) (Vm.Alike.refl U.vm) h9.1.1, vx_Zq.moved (u := U) (U := U.calling gf mk a) (Vm.Alike.refl U.vm) h9.1.2⟩, TxtOK.moved (u := U) (U := U.calling gf mk a) (Vm.Alike.refl U.vm) h9.2⟩, h10, h11⟩
theorem lv_cvl {ad ad' : Nat → Nat} {n : Nat} {lv : List (Nat × Value)} (hlv : ∀ q ∈ lv, RO n q.2) (ha : ∀ c, (c < n ∨ 1000 ≤ c) → ad' c = ad c) : lv.map (cvl ad') = lv.map (cvl ad) := List.map_congr_left (fun q hq => by show (q.1, cv ad' q.2) = (q.1, cv ad q.2); rw [cv_agree (hlv q hq) ha])
theorem st_cv {ad ad' : Nat → Nat} {n : Nat} {st : List Value} (hst : ∀ v ∈ st, RO n v) (ha : ∀ c, (c < n ∨ 1000 ≤ c) → ad' c = ad c) : st.map (cv ad') = st.map (cv ad) := List.map_congr_left (fun q hq => cv_agree (hst q hq) ha)
theorem cat_cv (ad : Nat → Nat) (st : List Value) : ((st.map (cv ad)).map fun v => v.category) = st.map fun v => v.category := by
  rw [List.map_map]
  exact List.map_congr_left (fun v _ => cv_cat ad v)
section CALLS
variable {p : Program} {l : Launch} {e : Env} {R : Room} {s : State} {m : MethodId} {args : Array Value} {below : List Frame} {meth : Method} {c : Code} {D : va_G} {g : G3} {A : Nat → Prop} {ad0 : Nat → Nat} {n0 : Nat} {Qf : State → Prop}
variable {μ μ' : MI} {k n pc : Nat} {lv : List (Nat × Value)} {st rest : List Value} {h : Hp} {Q' : Option Value → Hp → Prop} {X' : String → Hp → Prop}
theorem w_free {ad : Nat → Nat} {H : Heap} {locs : List Loc} (hA : ∀ q, s.heap.size ≤ q → A q) (hD : va_D A (wsC g ad h)) (hS : va_S A s.heap H locs) : ∀ q, va_A (wsC g ad h) H.size q → A q := by
  intro q hq
  rcases hq with ⟨j, x, hj⟩ | hq
  · exact hD.2 j (q, x) hj
  · exact hA q (Nat.le_trans hS.1 hq)
theorem w_pre {ad : Nat → Nat} {H : Heap} {locs : List Loc} (hC : CxOK (p, l, e, R, s, m, args, below, meth, c, D, g, A, ad0, n0, Qf) μ) (hCs : CasOK s) (hW : Wd (p, l, e, R, s, m, args, below, meth, c, D, g, A, ad0, n0, Qf) ad h H locs) (av : List Value) : ∀ U : State, U.heap = H → s.WarmedH U.vm → PC D g ad h H.size av ((av.map (cv ad)).toArray) U := by
  obtain ⟨hx, hb, hml, hown, hts, hr, hlk, hK, hA, hl9, hN, hT, hZ⟩ := hC
  obtain ⟨w1, w2, w3, w4, w5, w6, w7⟩ := hW
  intro U hU hWm
  have hz : ∀ a : Nat, a < s.heap.size → ¬ A a → H[a]? = s.heap[a]? := fun a h1 h2 => w3.2.1 a h1 h2
  have hF := w_free hA w2 w3
  refine ⟨rfl, by rw [hU], by rw [hU]; exact w1, va_K.moved hWm.alike hK, w2.weaken (fun _ _ _ _ => trivial), NstOK.warm hWm hN, StrOK.warm hWm (fun i q hq => ?_), CasOK.warm hWm hCs, ?_, w6, w7⟩
  · rw [w4 _ (Or.inr (Nat.le_add_right _ _))]
    exact hT i q hq
  · rw [hU]
    exact ⟨⟨vx_Zq.moved hWm.alike ((hZ.1.1.kept hz).narrow hF), vx_Zq.moved hWm.alike ((hZ.1.2.kept hz).narrow hF)⟩, TxtOK.moved hWm.alike (((hZ.2.kept hz).narrow hF).adr fun c hc => w4 c (Or.inr hc))⟩
theorem w_run {ad : Nat → Nat} {H : Heap} {locs : List Loc} {ls : Array Slot} {st0 : List Value} {a : Array Value} {mc ms : Nat} {P : Hr → Prop} (hC : CxOK (p, l, e, R, s, m, args, below, meth, c, D, g, A, ad0, n0, Qf) μ) (hW : Wd (p, l, e, R, s, m, args, below, meth, c, D, g, A, ad0, n0, Qf) ad h H locs) (hlv : ∀ q ∈ lv, RO h.2.2.2 q.2) (hst : ∀ v ∈ rest, RO h.2.2.2 v) (hl : lv_has ls μ.2.2.1 (lv.map (cvl ad)))
    (hr : vx_Run p l e R s m args below meth c H locs k n mc ms (F0 m pc ls st0) (rest.map (cv ad)) (QC D g (va_A (wsC g ad h) H.size) ad h.2.2.2 P Q' a) (XQ D g (va_A (wsC g ad h) H.size) ad h.2.2.2 P X') (va_A (wsC g ad h) H.size))
    (kk : ∀ (v : Option Value) (h' : Hp), Q' v h' → P h'.2.2 → h.2.2.2 ≤ h'.2.2.2 → (∀ w, v = some w → RO h'.2.2.2 w) → WW (p, l, e, R, s, m, args, below, meth, c, D, g, A, ad0, n0, Qf) μ (k + mc) (n + ms) (pc + 3) lv (v.toList ++ rest) h')
    (kx : ∀ (E : String) (h' : Hp), X' E h' → P h'.2.2 → h.2.2.2 ≤ h'.2.2.2 → VX (p, l, e, R, s, m, args, below, meth, c, D, g, A, ad0, n0, Qf) μ (k + mc) (n + ms) pc lv rest h' E) : W p l e R s m args below meth c H locs k n Qf (F0 m pc ls st0) := by
  obtain ⟨hx, hb, hml, hown, hts, hr0, hlk, hK, hA, hl9, hN, hT, hZ⟩ := hC
  obtain ⟨w1, w2, w3, w4, w5, w6, w7⟩ := hW
  have hF0 := w_free hA w2 w3
  intro T hT X
  have wd : ∀ (h' : Hp) (ad' : Nat → Nat) (t T' : State) (locs1 : List Loc), T'.heap = t.heap → BD D g (va_A (wsC g ad h) H.size) ad h.2.2.2 P ad' h' t → va_S A s.heap T'.heap locs1 → Wd (p, l, e, R, s, m, args, below, meth, c, D, g, A, ad0, n0, Qf) ad' h' T'.heap locs1 := by
    intro h' ad' t T' locs1 e1 hb k3
    obtain ⟨b1, b2, b3, b4, b5, b6, b7⟩ := hb
    exact ⟨by rw [e1]; exact b1, b2.weaken (fun _ q _ hq => hF0 q.1 hq), k3, fun x hx => (b3 x (hx.elim (fun z => Or.inl (Nat.lt_of_lt_of_le z w5)) Or.inr)).trans (w4 x hx), Nat.le_trans w5 b4, b5, b6⟩
  rcases hr T hT X with ⟨v, st₀, t, T', L, h0, X2, hL, e1, e2, ⟨⟨v', h', ad', hv, hq, hro, hb⟩, hF⟩, hgo⟩ | ⟨q, st₀, t, T', L, E, ce, h0, X2, hL, e1, e2, ⟨⟨h', ad', hq, hb⟩, hF⟩, hce, hcv, hcl, hgo⟩
  · obtain ⟨k1, k2, k3⟩ := vx_keep h0 e1 w3 (fun q _ h => hF0 q h) hF0 hL hF
    have hv' : v = v'.map (cv ad') := by injection hv
    have hag := hb.2.2.1
    have hnn := hb.2.2.2.1
    have := kk v' h' hq hb.2.2.2.2.2.2 hnn hro ad' T'.heap (locs ++ L) ls (wd h' ad' t T' _ e1 hb k3) (fun q hq => (hlv q hq).mono hnn) (fun w hw => by
      rcases List.mem_append.mp hw with hw | hw
      · exact hro w (by cases v' with
          | none => cases hw
          | some z => simp at hw; rw [hw])
      · exact (hst w hw).mono hnn) (by rw [lv_cvl hlv hag]; exact hl) T' rfl X2
    obtain ⟨t2, a1, b1⟩ := this
    refine ⟨t2, hgo t2 ?_, b1⟩
    have es : ((v'.toList ++ rest).map (cv ad')) = v.toList ++ rest.map (cv ad) := by
      rw [List.map_append, st_cv hst hag, hv']
      cases v' <;> rfl
    rw [es] at a1
    exact a1
  · obtain ⟨k1, k2, k3⟩ := vx_keep h0 e1 w3 (fun q _ h => hF0 q h) hF0 hL hF
    have hag := hb.2.2.1
    have hnn := hb.2.2.2.1
    have := kx E h' hq hb.2.2.2.2.2.2 hnn ad' T'.heap (locs ++ L) ls q ce (wd h' ad' t T' _ e1 hb k3) (fun q hq => (hlv q hq).mono hnn) (fun w hw => (hst w hw).mono hnn) (by rw [lv_cvl hlv hag]; exact hl) (by rw [e1]; exact hce) hcv hcl T' rfl X2
    obtain ⟨t2, a1, b1⟩ := this
    refine ⟨t2, hgo.trans ?_, b1⟩
    rw [st_cv hst hag] at a1
    exact a1
end CALLS
section CALLW
variable {C : Ctx} {μ μ' : MI} {k n pc d' ix : Nat} {lv : List (Nat × Value)} {st : List Value} {h : Hp} {Q' : Option Value → Hp → Prop} {X' : String → Hp → Prop}
theorem wsM_good {μ μ' : MI} (hc : Cond.code μ'.1 μ'.2.1 μ'.2.2.1 μ'.2.2.2.1 ∈ BIG) : GoodIn BIG (wsM μ') := by
  intro w hw
  rcases List.mem_cons.mp hw with rfl | hw
  · exact ⟨hc, good_big hc⟩
  · exact ⟨hw, good_big hw⟩
theorem w_callV {b : Nat} (avs rest : List Value) (hC : CxOK C μ) (hCs : CasC C) (hM : CallOK μ' d' (.ref b :: avs) h Q' X') (hRm : RmOK C μ' d' k n) (hd : decode μ.2.1 pc = .ok (.invokevirtual ix, 3)) (cl : CLV μ.1.cls ix μ' avs.length) (ob : OB b μ'.1.cls) (hb : b < h.2.2.2) (hs0 : st = avs.reverse ++ .ref b :: rest) (h8 : (rest.map fun v => v.category).sum ≤ 8)
    (kk : ∀ (v : Option Value) (h' : Hp), Q' v h' → μ'.2.2.2.2.1 h'.2.2 → h.2.2.2 ≤ h'.2.2.2 → (∀ w, v = some w → RO h'.2.2.2 w) → WW C μ (k + μ'.2.2.2.2.2.1) (n + μ'.2.2.2.2.2.2) (pc + 3) lv (v.toList ++ rest) h')
    (kx : ∀ (E : String) (h' : Hp), X' E h' → μ'.2.2.2.2.1 h'.2.2 → h.2.2.2 ≤ h'.2.2.2 → VX C μ (k + μ'.2.2.2.2.2.1) (n + μ'.2.2.2.2.2.2) pc lv rest h' E) : WW C μ k n pc lv st h := by
  obtain ⟨p, l, e, R, s, m, args, below, meth, c, D, g, A, ad0, n0, Qf⟩ := C
  intro ad H locs ls hW hlv hst hl
  subst hs0
  obtain ⟨hx, hb0, hml, hown, hts, hr0, hlk, hK, hA, hl9, hN, hT, hZ⟩ := id hC
  obtain ⟨⟨c1, c2, c3, c4, c5⟩, c6, c7, c8⟩ := cl
  obtain ⟨r1, r2, r3, r4⟩ := hRm
  have hro : ∀ v ∈ (Value.ref b :: avs), RO h.2.2.2 v := fun v hv => hst v (by simp only [List.mem_append, List.mem_reverse, List.mem_cons] at hv ⊢; rcases hv with hv | hv <;> simp [hv])
  have hrr : ∀ v ∈ rest, RO h.2.2.2 v := fun v hv => hst v (by simp [hv])
  obtain ⟨ci, tys, T0, N0, o1, o2⟩ := ob
  have hrec := va_recv hK hW.1 (ci := ci) (q0 := b) (a := ad b) o2 (by rw [wsC_get hb, o1]; rfl)
  refine w_run (rest := rest) hC hW hlv hrr hl (vx_runV (As := avs.map (cv ad)) (b := ad b) (Ts := BIG) (own := μ.1.cls) (C := μ'.1.cls) ⟨hx, hb0, hml, hown, hts⟩ (hM hro l D g ad H.size hl9) ⟨callB_of avs.length hts (wsM_good (μ := μ) c2) rfl rfl rfl (hts _ c1) (hts _ c6) ⟨c3, c4, c5⟩ ⟨r1, r2⟩, hts _ c7, hts _ c8⟩ ⟨PC_blind, hrec, w_pre hC hCs hW (.ref b :: avs)⟩ rfl (by rw [List.length_map]) hl.1 ?_ (lv_room (by rw [cat_cv]; exact h8)) hd ⟨r3, r4⟩) kk kx
  rw [List.map_append, List.map_reverse]; rfl
theorem w_callS (avs rest : List Value) (hC : CxOK C μ) (hCs : CasC C) (hM : CallOK μ' d' avs h Q' X') (hRm : RmOK C μ' d' k n) (hd : decode μ.2.1 pc = .ok (.invokestatic ix, 3)) (cl : CLS μ.1.cls ix μ' avs.length) (hs0 : st = avs.reverse ++ rest) (h8 : (rest.map fun v => v.category).sum ≤ 8)
    (kk : ∀ (v : Option Value) (h' : Hp), Q' v h' → μ'.2.2.2.2.1 h'.2.2 → h.2.2.2 ≤ h'.2.2.2 → (∀ w, v = some w → RO h'.2.2.2 w) → WW C μ (k + μ'.2.2.2.2.2.1) (n + μ'.2.2.2.2.2.2) (pc + 3) lv (v.toList ++ rest) h')
    (kx : ∀ (E : String) (h' : Hp), X' E h' → μ'.2.2.2.2.1 h'.2.2 → h.2.2.2 ≤ h'.2.2.2 → VX C μ (k + μ'.2.2.2.2.2.1) (n + μ'.2.2.2.2.2.2) pc lv rest h' E) : WW C μ k n pc lv st h := by
  obtain ⟨p, l, e, R, s, m, args, below, meth, c, D, g, A, ad0, n0, Qf⟩ := C
  intro ad H locs ls hW hlv hst hl
  subst hs0
  obtain ⟨hx, hb0, hml, hown, hts, hr0, hlk, hK, hA, hl9, hN, hT, hZ⟩ := id hC
  obtain ⟨⟨c1, c2, c3, c4, c5⟩, c6, c7⟩ := cl
  obtain ⟨r1, r2, r3, r4⟩ := hRm
  have hro : ∀ v ∈ avs, RO h.2.2.2 v := fun v hv => hst v (by simp [hv])
  have hrr : ∀ v ∈ rest, RO h.2.2.2 v := fun v hv => hst v (by simp [hv])
  refine w_run (rest := rest) hC hW hlv hrr hl (vx_runS (As := avs.map (cv ad)) (Ts := BIG) (own := μ.1.cls) ⟨hx, hb0, hml, hown, hts⟩ (hM hro l D g ad H.size hl9) ⟨callB_of avs.length hts (wsM_good (μ := μ) c2) rfl rfl rfl (hts _ c1) (hts _ c6) ⟨c3, c4, c5⟩ ⟨r1, r2⟩, hts _ c7⟩ ⟨PC_blind, w_pre hC hCs hW avs⟩ rfl (by rw [List.length_map]) hl.1 ?_ (lv_room (by rw [cat_cv]; exact h8)) hd ⟨r3, r4⟩) kk kx
  rw [List.map_append, List.map_reverse]
theorem w_callN (avs rest : List Value) (hC : CxOK C μ) (hCs : CasC C) (hM : CallOK μ' d' avs h Q' X') (hRm : RmOK C μ' d' k n) (hd : decode μ.2.1 pc = .ok (.invokestatic ix, 3)) (cl : CLN μ.1.cls ix μ' avs.length) (hs0 : st = avs.reverse ++ rest) (h8 : (rest.map fun v => v.category).sum ≤ 8)
    (kk : ∀ (v : Option Value) (h' : Hp), Q' v h' → μ'.2.2.2.2.1 h'.2.2 → h.2.2.2 ≤ h'.2.2.2 → (∀ w, v = some w → RO h'.2.2.2 w) → WW C μ (k + μ'.2.2.2.2.2.1) (n + μ'.2.2.2.2.2.2) (pc + 3) lv (v.toList ++ rest) h')
    (kx : ∀ (E : String) (h' : Hp), X' E h' → μ'.2.2.2.2.1 h'.2.2 → h.2.2.2 ≤ h'.2.2.2 → VX C μ (k + μ'.2.2.2.2.2.1) (n + μ'.2.2.2.2.2.2) pc lv rest h' E) : WW C μ k n pc lv st h := by
  obtain ⟨p, l, e, R, s, m, args, below, meth, c, D, g, A, ad0, n0, Qf⟩ := C
  intro ad H locs ls hW hlv hst hl
  subst hs0
  obtain ⟨hx, hb0, hml, hown, hts, hr0, hlk, hK, hA, hl9, hN, hT, hZ⟩ := id hC
  obtain ⟨⟨c1, c2, c3, c4, c5⟩, ⟨host, c6⟩, c7⟩ := cl
  obtain ⟨r1, r2, r3, r4⟩ := hRm
  have hro : ∀ v ∈ avs, RO h.2.2.2 v := fun v hv => hst v (by simp [hv])
  have hrr : ∀ v ∈ rest, RO h.2.2.2 v := fun v hv => hst v (by simp [hv])
  refine w_run (rest := rest) hC hW hlv hrr hl (vx_runSN (As := avs.map (cv ad)) (Ts := BIG) (own := μ.1.cls) (host := host) ⟨hx, hb0, hml, hown, hts⟩ (hM hro l D g ad H.size hl9) ⟨va_cnB avs.length hts (wsM_good (μ := μ) c2) rfl rfl rfl (hN _ c6) (hts _ c1) ⟨c3, c4, c5⟩ ⟨r1, r2⟩, hts _ c7, trivial⟩ ⟨PC_blind, w_pre hC hCs hW avs⟩ rfl (by rw [List.length_map]) hl.1 ?_ (lv_room (by rw [cat_cv]; exact h8)) hd ⟨r3, r4⟩) kk kx
  rw [List.map_append, List.map_reverse]
theorem w_callI {b : Nat} (avs rest : List Value) (hC : CxOK C μ) (hCs : CasC C) (hM : CallOK μ' d' (.ref b :: avs) h Q' X') (hRm : RmOK C μ' d' k n) (hd : decode μ.2.1 pc = .ok (.invokespecial ix, 3)) (cl : CLI μ.1.cls ix μ' avs.length) (hs0 : st = avs.reverse ++ .ref b :: rest) (h8 : (rest.map fun v => v.category).sum ≤ 8)
    (kk : ∀ (v : Option Value) (h' : Hp), Q' v h' → μ'.2.2.2.2.1 h'.2.2 → h.2.2.2 ≤ h'.2.2.2 → (∀ w, v = some w → RO h'.2.2.2 w) → WW C μ (k + μ'.2.2.2.2.2.1) (n + μ'.2.2.2.2.2.2) (pc + 3) lv (v.toList ++ rest) h')
    (kx : ∀ (E : String) (h' : Hp), X' E h' → μ'.2.2.2.2.1 h'.2.2 → h.2.2.2 ≤ h'.2.2.2 → VX C μ (k + μ'.2.2.2.2.2.1) (n + μ'.2.2.2.2.2.2) pc lv rest h' E) : WW C μ k n pc lv st h := by
  obtain ⟨p, l, e, R, s, m, args, below, meth, c, D, g, A, ad0, n0, Qf⟩ := C
  intro ad H locs ls hW hlv hst hl
  subst hs0
  obtain ⟨hx, hb0, hml, hown, hts, hr0, hlk, hK, hA, hl9, hN, hT, hZ⟩ := id hC
  obtain ⟨⟨c1, c2, c3, c4, c5⟩, c6, c7, c8, c9⟩ := cl
  obtain ⟨r1, r2, r3, r4⟩ := hRm
  have hro : ∀ v ∈ (Value.ref b :: avs), RO h.2.2.2 v := fun v hv => hst v (by simp only [List.mem_append, List.mem_reverse, List.mem_cons] at hv ⊢; rcases hv with hv | hv <;> simp [hv])
  have hrr : ∀ v ∈ rest, RO h.2.2.2 v := fun v hv => hst v (by simp [hv])
  refine w_run (rest := rest) hC hW hlv hrr hl (vx_runI (As := avs.map (cv ad)) (b := ad b) (Ts := BIG) (own := μ.1.cls) ⟨hx, hb0, hml, hown, hts⟩ (hM hro l D g ad H.size hl9) ⟨callB_of avs.length hts (wsM_good (μ := μ) c2) (by rw [← c9]; rfl) rfl rfl (hts _ c1) (hts _ c6) ⟨c3, c4, c5⟩ ⟨r1, r2⟩, c8, hts _ c7⟩ ⟨PC_blind, w_pre hC hCs hW (.ref b :: avs)⟩ rfl (by rw [List.length_map]) hl.1 ?_ (lv_room (by rw [cat_cv]; exact h8)) hd ⟨r3, r4⟩) kk kx
  rw [List.map_append, List.map_reverse]; rfl
theorem w_callJ {b : Nat} (avs rest : List Value) (hC : CxOK C μ) (hCs : CasC C) (hM : CallOK μ' d' (.ref b :: avs) h Q' X') (hRm : RmOK C μ' d' k n) (hd : decode μ.2.1 pc = .ok (.invokespecial ix, 3)) (cl : CLJ μ.1.cls ix μ' avs.length) (hs0 : st = avs.reverse ++ .ref b :: rest) (h8 : (rest.map fun v => v.category).sum ≤ 8)
    (kk : ∀ (v : Option Value) (h' : Hp), Q' v h' → μ'.2.2.2.2.1 h'.2.2 → h.2.2.2 ≤ h'.2.2.2 → (∀ w, v = some w → RO h'.2.2.2 w) → WW C μ (k + μ'.2.2.2.2.2.1) (n + μ'.2.2.2.2.2.2) (pc + 3) lv (v.toList ++ rest) h')
    (kx : ∀ (E : String) (h' : Hp), X' E h' → μ'.2.2.2.2.1 h'.2.2 → h.2.2.2 ≤ h'.2.2.2 → VX C μ (k + μ'.2.2.2.2.2.1) (n + μ'.2.2.2.2.2.2) pc lv rest h' E) : WW C μ k n pc lv st h := by
  obtain ⟨p, l, e, R, s, m, args, below, meth, c, D, g, A, ad0, n0, Qf⟩ := C
  intro ad H locs ls hW hlv hst hl
  subst hs0
  obtain ⟨hx, hb0, hml, hown, hts, hr0, hlk, hK, hA, hl9, hN, hT, hZ⟩ := id hC
  obtain ⟨⟨c1, c2, c3, c4, c5⟩, ⟨host, c6⟩, c7, c8, c9⟩ := cl
  obtain ⟨r1, r2, r3, r4⟩ := hRm
  have hro : ∀ v ∈ (Value.ref b :: avs), RO h.2.2.2 v := fun v hv => hst v (by simp only [List.mem_append, List.mem_reverse, List.mem_cons] at hv ⊢; rcases hv with hv | hv <;> simp [hv])
  have hrr : ∀ v ∈ rest, RO h.2.2.2 v := fun v hv => hst v (by simp [hv])
  refine w_run (rest := rest) hC hW hlv hrr hl (vx_runIN (As := avs.map (cv ad)) (b := ad b) (Ts := BIG) (own := μ.1.cls) (host := host) ⟨hx, hb0, hml, hown, hts⟩ (hM hro l D g ad H.size hl9) ⟨va_cnB avs.length hts (wsM_good (μ := μ) c2) (by rw [← c9]; rfl) rfl rfl (hN _ c6) (hts _ c1) ⟨c3, c4, c5⟩ ⟨r1, r2⟩, c8, hts _ c7⟩ ⟨PC_blind, w_pre hC hCs hW (.ref b :: avs)⟩ rfl (by rw [List.length_map]) hl.1 ?_ (lv_room (by rw [cat_cv]; exact h8)) hd ⟨r3, r4⟩) kk kx
  rw [List.map_append, List.map_reverse]; rfl
end CALLW
