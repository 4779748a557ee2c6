/-! cells made: a heap told by the list of what was written -/
abbrev WL : Type := List (Nat × Nat × (Int32 ⊕ (Int64 ⊕ Nat)))
def wI : WL → Nat → Nat → Int32
  | [] => fun _ _ => 0
  | q :: r => fun d j => match q.2.2 with
    | .inl v => if d = q.1 ∧ j = q.2.1 then v else wI r d j
    | .inr _ => wI r d j
def wJ : WL → Nat → Nat → Int64
  | [] => fun _ _ => 0
  | q :: r => fun d j => match q.2.2 with
    | .inl _ => wJ r d j
    | .inr (.inl v) => if d = q.1 ∧ j = q.2.1 then v else wJ r d j
    | .inr (.inr _) => wJ r d j
def wR : WL → Nat → Nat → Option Nat
  | [] => fun _ _ => none
  | q :: r => fun d j => match q.2.2 with
    | .inl _ => wR r d j
    | .inr (.inl _) => wR r d j
    | .inr (.inr v) => if d = q.1 ∧ j = q.2.1 then some v else wR r d j
def hX (L : WL) (n : Nat) : Hp := (wI L, wJ L, wR L, n)
def Lb (n : Nat) (L : WL) : Prop := ∀ q ∈ L, q.1 < n
theorem Lb.c {n c k : Nat} {L : WL} {v : Int32 ⊕ (Int64 ⊕ Nat)} (b : Lb n L) (h : c < n) : Lb n ((c, k, v) :: L) := fun q hq => (List.mem_cons.mp hq).elim (fun z => by rw [z]; exact h) (b q)
theorem Lb.up {n m : Nat} {L : WL} (b : Lb n L) (h : n ≤ m) : Lb m L := fun q hq => Nat.lt_of_lt_of_le (b q hq) h
theorem up2_w {α : Type} {f : Nat → Nat → α} {c k : Nat} {v : α} : up2 f c k v = fun d j => if d = c ∧ j = k then v else f d j := by
  funext d j
  by_cases h1 : d = c
  · subst h1
    by_cases h2 : j = k
    · subst h2; rw [up2_kk, if_pos ⟨rfl, rfl⟩]
    · rw [up2_nk h2, if_neg fun z => h2 z.2]
  · rw [congrFun (up2_ne h1) j, if_neg fun z => h1 z.1]
theorem hX_I {L : WL} {n c k : Nat} {v : Int32} : hI (hX L n) c k v = hX ((c, k, .inl v) :: L) n := by
  show (up2 (wI L) c k v, wJ L, wR L, n) = _
  rw [up2_w]; rfl
theorem hX_L {L : WL} {n c k : Nat} {v : Int64} : hL (hX L n) c k v = hX ((c, k, .inr (.inl v)) :: L) n := by
  show (wI L, up2 (wJ L) c k v, wR L, n) = _
  rw [up2_w]; rfl
theorem hX_R {L : WL} {n c k : Nat} {v : Nat} : hR (hX L n) c k (some v) = hX ((c, k, .inr (.inr v)) :: L) n := by
  show (wI L, wJ L, up2 (wR L) c k (some v), n) = _
  rw [up2_w]; rfl
theorem wI_0 {c : Nat} : ∀ {L : WL}, (∀ q ∈ L, q.1 ≠ c) → wI L c = fun _ => 0
  | [], _ => rfl
  | q :: r, h => by
    funext j
    have ih := congrFun (wI_0 (c := c) (L := r) fun x hx => h x (List.mem_cons_of_mem _ hx)) j
    have h0 := h q List.mem_cons_self
    obtain ⟨a, k, v | v⟩ := q
    · show (if c = a ∧ j = k then v else wI r c j) = 0
      rw [if_neg fun z => h0 z.1.symm]; exact ih
    · exact ih
theorem wJ_0 {c : Nat} : ∀ {L : WL}, (∀ q ∈ L, q.1 ≠ c) → wJ L c = fun _ => 0
  | [], _ => rfl
  | q :: r, h => by
    funext j
    have ih := congrFun (wJ_0 (c := c) (L := r) fun x hx => h x (List.mem_cons_of_mem _ hx)) j
    have h0 := h q List.mem_cons_self
    obtain ⟨a, k, v | v | v⟩ := q
    · exact ih
    · show (if c = a ∧ j = k then v else wJ r c j) = 0
      rw [if_neg fun z => h0 z.1.symm]; exact ih
    · exact ih
theorem wR_0 {c : Nat} : ∀ {L : WL}, (∀ q ∈ L, q.1 ≠ c) → wR L c = fun _ => none
  | [], _ => rfl
  | q :: r, h => by
    funext j
    have ih := congrFun (wR_0 (c := c) (L := r) fun x hx => h x (List.mem_cons_of_mem _ hx)) j
    have h0 := h q List.mem_cons_self
    obtain ⟨a, k, v | v | v⟩ := q
    · exact ih
    · exact ih
    · show (if c = a ∧ j = k then some v else wR r c j) = none
      rw [if_neg fun z => h0 z.1.symm]; exact ih
theorem up1_id {α : Type} {f : Nat → α} {c : Nat} {g : α} (h : f c = g) : up1 f c g = f := by
  funext d
  by_cases z : d = c
  · subst z; rw [up1, if_pos rfl, h]
  · rw [up1, if_neg z]
theorem hN_X {L : WL} {n : Nat} (b : Lb n L) : hN (hX L n) = hX L (n + 1) := by
  have h : ∀ q ∈ L, q.1 ≠ n := fun q hq => Nat.ne_of_lt (b q hq)
  show (up1 (wI L) n (fun _ => 0), up1 (wJ L) n (fun _ => 0), up1 (wR L) n (fun _ => none), n + 1) = _
  rw [up1_id (wI_0 h), up1_id (wJ_0 h), up1_id (wR_0 h)]; rfl
/-- what a new object's fields hold -/
def dfl (t : FieldType) : Value := match t with
  | .long => .long 0
  | .object _ => .null
  | .array _ => .null
  | _ => .int 0
def okty (t : FieldType) : Bool := match t with
  | .int => true
  | .long => true
  | .boolean => true
  | .object _ => true
  | .array _ => true
  | _ => false
theorem dfl_ok {t : FieldType} (h : okty t = true) : defaultValue t = dfl t := by
  cases t <;> first | rfl | cases h
theorem fvC_N {ad : Nat → Nat} {h : Hp} {k : Nat} {t : FieldType} (o : okty t = true) : fvC ad (hN h) h.2.2.2 k t = dfl t := by
  have e1 : (hN h).1 h.2.2.2 = fun _ => 0 := if_pos rfl
  have e2 : (hN h).2.1 h.2.2.2 = fun _ => 0 := if_pos rfl
  have e3 : (hN h).2.2.1 h.2.2.2 = fun _ => none := if_pos rfl
  cases t with
  | int => show Value.int ((hN h).1 h.2.2.2 k) = _; rw [e1]; rfl
  | boolean => show Value.int ((hN h).1 h.2.2.2 k) = _; rw [e1]; rfl
  | long => show Value.long ((hN h).2.1 h.2.2.2 k) = _; rw [e2]; rfl
  | object s => show va_rf (((hN h).2.2.1 h.2.2.2 k).map ad) = _; rw [e3]; rfl
  | array s => show va_rf (((hN h).2.2.1 h.2.2.2 k).map ad) = _; rw [e3]; rfl
  | _ => cases o
def RmN (C : Ctx) (k n N : Nat) : Prop := match C with
  | (_, _, _, R, _, _, _, _, _, _, _, _, _, _, _, _) => k + 1 ≤ R.cells ∧ n + N ≤ R.slots
section MADE
variable {C : Ctx} {μ : MI} {k n pc ix N ci : Nat} {lv : List (Nat × Value)} {st : List Value} {h : Hp}
/-- the world with one more cell -/
theorem wd_new {p : Program} {l : Launch} {e : Env} {R : Room} {s : State} {m : MethodId} {args : Array Value} {below : List Frame} {meth : Method} {c : Code} {D : va_G} {g : G3} {A : Nat → Prop} {ad0 ad : Nat → Nat} {n0 : Nat} {Qf : State → Prop} {H H1 : Heap} {locs : List Loc} {q : Nat} {E : va_E}
    (hW : Wd (p, l, e, R, s, m, args, below, meth, c, D, g, A, ad0, n0, Qf) ad h H locs) (h9 : h.2.2.2 < 1000) (hE : ∀ ad', cellC g ad' (hN h) (SHP h.2.2.2) h.2.2.2 = E) (hP : va_P D vwCl (wsC g ad h ++ [(q, E)]) H1) (hD : va_D A (wsC g ad h ++ [(q, E)])) (hS : va_S A s.heap H1 locs) :
    Wd (p, l, e, R, s, m, args, below, meth, c, D, g, A, ad0, n0, Qf) (fun c => if c = h.2.2.2 then q else ad c) (hN h) H1 locs := by
  obtain ⟨w1, w2, w3, w4, w5, w6, w7⟩ := hW
  have ha : ∀ d, d < h.2.2.2 → (fun c => if c = h.2.2.2 then q else ad c) d = ad d := fun d hd => if_neg (Nat.ne_of_lt hd)
  have ew : wsC g ad h ++ [(q, E)] = wsC g (fun c => if c = h.2.2.2 then q else ad c) (hN h) := by
    have := wsC_push (g := g) (ad := ad) (ad' := fun c => if c = h.2.2.2 then q else ad c) (h := h) (h' := hN h) rfl ha (fun d hd => ⟨if_neg (Nat.ne_of_lt hd), if_neg (Nat.ne_of_lt hd), if_neg (Nat.ne_of_lt hd)⟩) fun d k c hd hc => if_neg (Nat.ne_of_lt (w7 d k c hd hc))
    rw [hE] at this
    rw [if_pos rfl] at this
    exact this
  rw [ew] at hP hD
  refine ⟨hP, hD, hS, fun c hc => ?_, Nat.le_succ_of_le w5, h9, fun d k c hd hc => ?_⟩
  · have : c ≠ h.2.2.2 := by
      rcases hc with z | z
      · exact Nat.ne_of_lt (Nat.lt_of_lt_of_le z w5)
      · omega
    show (if c = h.2.2.2 then q else ad c) = ad0 c
    rw [if_neg this]
    exact w4 c hc
  · show c < h.2.2.2 + 1
    by_cases z : d = h.2.2.2
    · have hc : up1 h.2.2.1 h.2.2.2 (fun _ => none) d k = some c := hc
      rw [up1, if_pos z] at hc; cases hc
    · have hc : up1 h.2.2.1 h.2.2.2 (fun _ => none) d k = some c := hc
      rw [up1, if_neg z] at hc
      have hd : d < h.2.2.2 + 1 := hd
      exact Nat.lt_succ_of_lt (w7 d k c (by omega) hc)
theorem ro_N {v : Value} (hv : RO h.2.2.2 v) : RO (hN h).2.2.2 v := hv.mono (Nat.le_succ _)
theorem lv_N {lv : List (Nat × Value)} {ad : Nat → Nat} {q : Nat} (h9 : h.2.2.2 < 1000) (hlv : ∀ q ∈ lv, RO h.2.2.2 q.2) : lv.map (cvl (fun c => if c = h.2.2.2 then q else ad c)) = lv.map (cvl ad) := lv_cvl (n := h.2.2.2) hlv fun c hc => if_neg (by omega)
theorem st_N {st : List Value} {ad : Nat → Nat} {q : Nat} (h9 : h.2.2.2 < 1000) (hst : ∀ v ∈ st, RO h.2.2.2 v) : st.map (cv (fun c => if c = h.2.2.2 then q else ad c)) = st.map (cv ad) := st_cv (n := h.2.2.2) hst fun c hc => if_neg (by omega)
theorem w_new {CN : String} {T : u_T} {tyf : Nat → FieldType} {tys : List FieldType} (hC : CxOK C μ) (hd : decode μ.2.1 pc = .ok (.new ix, 3)) (hs : SHP h.2.2.2 = .inr (ci, tys)) (hv : vwCl[ci]? = some (CN, T, N)) (hin : ∀ w ∈ u_ws CN T N, w ∈ BIG) (hty : ∀ k, k < N → parseFieldDescriptor (T k).2.2.1 = some (tyf k)) (hT : ∀ j, j < N → tys[j]? = some (tyf j)) (ok : ∀ t ∈ tys, okty t = true) (hcl : Cond.classLink μ.1.cls ix CN ∈ BIG) (hinst : Cond.instantiable CN N ∈ BIG) (hini : Cond.initialized CN ∈ BIG) (hR : RmN C k n N) (h9 : h.2.2.2 < 1000)
    (kk : WW C μ (k + 1) (n + N) (pc + 3) lv (.ref h.2.2.2 :: st) (hN h)) : WW C μ k n pc lv st h := by
  obtain ⟨p, l, e, R, s, m, args, below, meth, c, D, g, A, ad0, n0, Qf⟩ := C
  obtain ⟨hx, hb, hml, hown, hts, hr0, hlk, hK, hA, hl9, hNs, hTs, hZ⟩ := hC
  intro ad H locs ls hW hlv hst hl
  obtain ⟨w1, w2, w3, w4, w5, w6, w7⟩ := id hW
  have hE : ∀ ad', cellC g ad' (hN h) (SHP h.2.2.2) h.2.2.2 = .inr (ci, tys.map dfl) := fun ad' => by
    rw [hs]
    show Sum.inr (ci, tys.mapIdx (fun k ty => fvC ad' (hN h) h.2.2.2 k ty)) = _
    congr 2
    apply List.ext_getElem?
    intro j
    rw [List.getElem?_mapIdx, List.getElem?_map]
    cases ej : tys[j]? with
    | none => rfl
    | some t => exact congrArg some (fvC_N (ok t (List.mem_of_getElem? ej)))
  refine va_new (ci := ci) (fs := tys.map dfl) (C := CN) (T := T) (N := N) hx hb hts hin tyf hty hown (hts _ hcl) (hts _ hinst) (hts _ hini) hK w1 w2 w3 hA hv (fun j hj => ?_) hR.1 hR.2 hd (fun q H1 hP hD hS => ?_)
  · have e1 := hT j hj
    show defaultValue (tyf j) = (tys.map dfl).getD j .null
    rw [List.getD_eq_getElem?_getD, List.getElem?_map, e1]
    exact dfl_ok (ok _ (List.mem_of_getElem? e1))
  · have := kk _ H1 locs ls (wd_new hW h9 hE hP hD hS) (fun q hq => ro_N (hlv q hq)) (fun v hv => (List.mem_cons.mp hv).elim (fun z => by rw [z]; exact Or.inl (Nat.lt_succ_self _)) fun z => ro_N (hst v z)) (by rw [lv_N h9 hlv]; exact hl)
    rw [List.map_cons, st_N h9 hst] at this
    have e2 : cv (fun c => if c = h.2.2.2 then q else ad c) (.ref h.2.2.2) = .ref q := congrArg Value.ref (if_pos rfl)
    rw [e2] at this
    exact this
theorem w_newa {at_ : ArrayType} {ty : FieldType} {a0 : vp_A} {v : Int32} (hC : CxOK C μ) (hd : decode μ.2.1 pc = .ok (.newarray at_, 2)) (hty : newarray.typeOf at_ = ty) (hs : SHP h.2.2.2 = .inl (ty, N)) (h3 : (ty = .int ∧ a0 = (N, .inl fun _ => 0)) ∨ (ty = .long ∧ a0 = (N, .inr (.inl fun _ => 0))) ∨ (ty = .boolean ∧ a0 = (N, .inl fun _ => 0))) (ha : ∀ cA : ClassId, vp_cell cA a0 = arrV cA N (fun _ => defaultValue ty)) (hv0 : ¬ v < 0) (hvN : v.toNatClampNeg = N) (hby : N * componentBytes ty ≤ 536870912) (hw : Cond.arrayClass ty ∈ BIG) (hR : RmN C k n N) (h9 : h.2.2.2 < 1000)
    (kk : WW C μ (k + 1) (n + N) (pc + 2) lv (.ref h.2.2.2 :: st) (hN h)) : WW C μ k n pc lv (.int v :: st) h := by
  obtain ⟨p, l, e, R, s, m, args, below, meth, c, D, g, A, ad0, n0, Qf⟩ := C
  obtain ⟨hx, hb, hml, hown, hts, hr0, hlk, hK, hA, hl9, hNs, hTs, hZ⟩ := hC
  intro ad H locs ls hW hlv hst hl
  obtain ⟨w1, w2, w3, w4, w5, w6, w7⟩ := id hW
  have hst' : ∀ v ∈ st, RO h.2.2.2 v := fun v hv => hst v (List.mem_cons_of_mem _ hv)
  refine va_newa (a0 := a0) hx hb (by rw [hty]; exact hts _ hw) hty hK w1 w2 w3 hA ha hv0 hvN hby hR.1 hR.2 hd (fun q cA H1 hK1 hP hD hS => ?_)
  have hE : ∀ ad', cellC g ad' (hN h) (SHP h.2.2.2) h.2.2.2 = .inl (cA, a0) := fun ad' => by
    have e1 : (hN h).1 h.2.2.2 = fun _ => 0 := if_pos rfl
    have e2 : (hN h).2.1 h.2.2.2 = fun _ => 0 := if_pos rfl
    have k3 := (hK1.2 3 (cA, ty) rfl).2
    rw [hs]
    obtain ⟨rfl, rfl⟩ | ⟨rfl, rfl⟩ | ⟨rfl, rfl⟩ := h3
    · have k0 := (hK.2 0 (g.1, .int) rfl).2
      have eg : g.1 = cA := Option.some.inj ((show s.vm.findClass _ = some g.1 from k0).symm.trans (show s.vm.findClass _ = some cA from k3))
      show Sum.inl (g.1, N, Sum.inl ((hN h).1 h.2.2.2)) = _
      rw [e1, eg]
    · have k0 := (hK.2 1 (g.2.1, .long) rfl).2
      have eg : g.2.1 = cA := Option.some.inj ((show s.vm.findClass _ = some g.2.1 from k0).symm.trans (show s.vm.findClass _ = some cA from k3))
      show Sum.inl (g.2.1, N, Sum.inr (Sum.inl ((hN h).2.1 h.2.2.2))) = _
      rw [e2, eg]
    · have k0 := (hK.2 2 (g.2.2, .boolean) rfl).2
      have eg : g.2.2 = cA := Option.some.inj ((show s.vm.findClass _ = some g.2.2 from k0).symm.trans (show s.vm.findClass _ = some cA from k3))
      show Sum.inl (g.2.2, N, Sum.inl ((hN h).1 h.2.2.2)) = _
      rw [e1, eg]
  have := kk _ H1 locs ls (wd_new hW h9 hE hP hD hS) (fun q hq => ro_N (hlv q hq)) (fun v hv => (List.mem_cons.mp hv).elim (fun z => by rw [z]; exact Or.inl (Nat.lt_succ_self _)) fun z => ro_N (hst' v z)) (by rw [lv_N h9 hlv]; exact hl)
  rw [List.map_cons, st_N h9 hst'] at this
  have e2 : cv (fun c => if c = h.2.2.2 then q else ad c) (.ref h.2.2.2) = .ref q := congrArg Value.ref (if_pos rfl)
  rw [e2] at this
  exact this
/-- the constructor of Object -/
theorem w_obj {b : Nat} {d : Nat} {Q : Option Value → Hp → Prop} {X : String → Hp → Prop} (hC : CxOK C μ) (hX : MX C μ d Q X) (hd1 : 1 ≤ d) (hd : decode μ.2.1 pc = .ok (.invokespecial ix, 3)) (hl : Cond.methodLink μ.1.cls ix Lib.objectInit ∈ BIG) (kk : WW C μ k n (pc + 3) lv [] h) : WW C μ k n pc lv [.ref b] h := by
  obtain ⟨p, l, e, R, s, m, args, below, meth, c, D, g, A, ad0, n0, Qf⟩ := C
  obtain ⟨hx, hb, hml, hown, hts, hr0, hlk, hK, hA, hl9, hNs, hTs, hZ⟩ := hC
  obtain ⟨htab, rfl, hCs, rfl⟩ := hX
  intro ad H locs ls hW hlv hst hl2
  refine W.objInit hx hb hown (hts _ hl) (hts _ b_1_33) (hts _ b_1_34) rfl (by rw [hml]; exact hl2.1) rfl hd hd1 ?_ (kk ad H locs ls hW hlv (fun v hv => nomatch hv) hl2)
  show 2 * 0 + 0 + 12 ≤ 40 * d
  omega
end MADE
