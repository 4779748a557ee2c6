theorem wd_same {C : Ctx} {ad : Nat → Nat} {h : Hp} {H : Heap} {locs : List Loc} (hW : Wd C ad h H locs) : ∀ d k c, d < h.2.2.2 → h.2.2.1 d k = some c → c < h.2.2.2 := by
  obtain ⟨p, l, e, R, s, m, args, below, meth, c, D, g, A, ad0, n0, Qf⟩ := C
  exact hW.2.2.2.2.2.2
theorem sf_get {g : G3} {ad : Nat → Nat} {h : Hp} {c k ci : Nat} {ty : FieldType} (hs : SF c k ci ty) : ∃ fs : List Value, cellC g ad h (SHP c) c = .inr (ci, fs) ∧ fs[k]? = some (fvC ad h c k ty) ∧ k < fs.length := by
  obtain ⟨tys, h1, h2⟩ := hs
  refine ⟨tys.mapIdx (fun k ty => fvC ad h c k ty), by rw [h1]; rfl, by rw [List.getElem?_mapIdx, h2]; rfl, by rw [List.length_mapIdx]; exact (List.getElem?_eq_some_iff.mp h2).1⟩
/-- a field of an object is put: the heap that comes -/
theorem sf_put {g : G3} {ad : Nat → Nat} {h h' : Hp} {c k ci : Nat} {ty : FieldType} {v : Value} (hs : SF c k ci ty) (hv : fvC ad h' c k ty = v) (ho : ∀ j t, j ≠ k → fvC ad h' c j t = fvC ad h c j t) {fs : List Value} (hf : cellC g ad h (SHP c) c = .inr (ci, fs)) : cellC g ad h' (SHP c) c = .inr (ci, fs.set k v) := by
  obtain ⟨tys, h1, h2⟩ := hs
  rw [h1] at hf ⊢
  have hfs : fs = tys.mapIdx (fun k ty => fvC ad h c k ty) := by
    have := Sum.inr.inj hf
    exact (Prod.mk.inj this).2.symm
  subst hfs
  show Sum.inr (ci, tys.mapIdx (fun k ty => fvC ad h' c k ty)) = _
  congr 2
  apply List.ext_getElem?
  intro j
  rw [List.getElem?_mapIdx]
  by_cases hj : j = k
  · subst hj
    rw [List.getElem?_set_self (by rw [List.length_mapIdx]; exact (List.getElem?_eq_some_iff.mp h2).1), h2]
    exact congrArg some hv
  · rw [List.getElem?_set_ne (Ne.symm hj), List.getElem?_mapIdx]
    cases tys[j]? with
    | none => rfl
    | some t => exact congrArg some (ho j t hj)
section CELLS
variable {C : Ctx} {μ : MI} {k n pc : Nat} {lv : List (Nat × Value)} {st : List Value} {h : Hp}
theorem w_getv {ix ci f c : Nat} {ty : FieldType} {fin : Bool} (hC : CxOK C μ) (hd : decode μ.2.1 pc = .ok (.getfield ix, 3)) (hf : FLK μ.1.cls ix ci f ty fin) (hs : SF c f ci ty) (hc : c < h.2.2.2) {v : Value} (hv : ∀ ad, cv ad v = fvC ad h c f ty) (hro : (∀ d j e, d < h.2.2.2 → h.2.2.1 d j = some e → e < h.2.2.2) → RO h.2.2.2 v)
    (kk : WW C μ k n (pc + 3) lv (v :: st) h) : WW C μ k n pc lv (.ref c :: st) h := by
  obtain ⟨p, l, e, R, s, m, args, below, meth, cd, D, g, A, ad0, n0, Qf⟩ := C
  obtain ⟨hx, hb, hml, hown, hts, hr, hlk, hK, hA, hl9, hN, hT, hZ⟩ := hC
  intro ad H locs ls hW hlv hst hl
  obtain ⟨CN, T, N, tyf, h1, h2, h3, h4, h5, h6, h7, h8, h9⟩ := hf
  obtain ⟨fs, e1, e2, e3⟩ := sf_get (g := g) (ad := ad) (h := h) hs
  have hg : (wsC g ad h)[c]? = some (ad c, .inr (ci, fs)) := by rw [wsC_get hc, e1]
  refine va_get (D := D) (ci := ci) (C := CN) (T := T) (N := N) hx hb hts h2 hown hK hW.1 c hg h1 f h5 (hts _ h6) (fun _ h9 => h9) e2 hd ?_
  have := kk ad H locs ls hW hlv (fun w hw => (List.mem_cons.mp hw).elim (fun q => by rw [q]; exact hro (wd_same hW)) (fun hw => hst w (List.mem_cons_of_mem _ hw))) hl
  rw [List.map_cons, hv ad] at this
  exact this
theorem w_getI {ix ci f c : Nat} {fin : Bool} (hC : CxOK C μ) (hd : decode μ.2.1 pc = .ok (.getfield ix, 3)) (hf : FLK μ.1.cls ix ci f .int fin) (hs : SF c f ci .int) (hc : c < h.2.2.2)
    (kk : WW C μ k n (pc + 3) lv (.int (h.1 c f) :: st) h) : WW C μ k n pc lv (.ref c :: st) h := w_getv (v := .int (h.1 c f)) hC hd hf hs hc (fun _ => rfl) (fun _ => trivial) kk
theorem w_getZ {ix ci f c : Nat} {fin : Bool} (hC : CxOK C μ) (hd : decode μ.2.1 pc = .ok (.getfield ix, 3)) (hf : FLK μ.1.cls ix ci f .boolean fin) (hs : SF c f ci .boolean) (hc : c < h.2.2.2)
    (kk : WW C μ k n (pc + 3) lv (.int (h.1 c f) :: st) h) : WW C μ k n pc lv (.ref c :: st) h := w_getv (v := .int (h.1 c f)) hC hd hf hs hc (fun _ => rfl) (fun _ => trivial) kk
theorem w_getJ {ix ci f c : Nat} {fin : Bool} (hC : CxOK C μ) (hd : decode μ.2.1 pc = .ok (.getfield ix, 3)) (hf : FLK μ.1.cls ix ci f .long fin) (hs : SF c f ci .long) (hc : c < h.2.2.2)
    (kk : WW C μ k n (pc + 3) lv (.long (h.2.1 c f) :: st) h) : WW C μ k n pc lv (.ref c :: st) h := w_getv (v := .long (h.2.1 c f)) hC hd hf hs hc (fun _ => rfl) (fun _ => trivial) kk
theorem w_getR {ix ci f c d : Nat} {ty : FieldType} {fin : Bool} (hC : CxOK C μ) (hd : decode μ.2.1 pc = .ok (.getfield ix, 3)) (hf : FLK μ.1.cls ix ci f ty fin) (ht : (∃ t, ty = .object t) ∨ ∃ t, ty = .array t) (hs : SF c f ci ty) (hc : c < h.2.2.2) (hr : h.2.2.1 c f = some d)
    (kk : WW C μ k n (pc + 3) lv (.ref d :: st) h) : WW C μ k n pc lv (.ref c :: st) h := by
  refine w_getv hC hd hf hs hc (v := .ref d) (fun ad => ?_) (fun hq => Or.inl (hq c f d hc hr)) kk
  rcases ht with ⟨t, rfl⟩ | ⟨t, rfl⟩
  · show Value.ref (ad d) = va_rf ((h.2.2.1 c f).map ad)
    rw [hr]; rfl
  · show Value.ref (ad d) = va_rf ((h.2.2.1 c f).map ad)
    rw [hr]; rfl
/-- a store into an object -/
theorem w_putv {ix ci f c : Nat} {ty : FieldType} {fin : Bool} (hC : CxOK C μ) (hd : decode μ.2.1 pc = .ok (.putfield ix, 3)) (hf : FLK μ.1.cls ix ci f ty fin) (hs : SF c f ci ty) (hc : c < h.2.2.2) {v : Value} {h' : Hp} (hn : h'.2.2.2 = h.2.2.2) (he : ∀ d, d ≠ c → h'.1 d = h.1 d ∧ h'.2.1 d = h.2.1 d ∧ h'.2.2.1 d = h.2.2.1 d)
    (hv : ∀ ad, fvC ad h' c f ty = cv ad v) (ho : ∀ ad j t, j ≠ f → fvC ad h' c j t = fvC ad h c j t) (hnar : ∀ ad, narrow ty (cv ad v) = cv ad v) (hfit : ∀ ad, fits ty (cv ad v) = true) (hre : RO h.2.2.2 v → (∀ d j e, d < h.2.2.2 → h.2.2.1 d j = some e → e < h.2.2.2) → ∀ d j e, d < h'.2.2.2 → h'.2.2.1 d j = some e → e < h'.2.2.2)
    (hfin : fin = false ∨ (∀ p l e R s m args below meth c2 D g A ad0 n0 Qf, C = (p, l, e, R, s, m, args, below, meth, c2, D, g, A, ad0, n0, Qf) → meth.name = "<init>") ∧ (∀ CN T N, vwCl[ci]? = some (CN, T, N) → (T f).1 = μ.1.cls))
    (kk : WW C μ k n (pc + 3) lv st h') : WW C μ k n pc lv (v :: .ref c :: st) h := by
  obtain ⟨p, l, e, R, s, m, args, below, meth, cd, D, g, A, ad0, n0, Qf⟩ := C
  obtain ⟨hx, hb, hml, hown, hts, hr, hlk, hK, hA, hl9, hN, hT, hZ⟩ := hC
  intro ad H locs ls hW hlv hst hl
  obtain ⟨CN, T, N, tyf, h1, h2, h3, h4, h5, h6, h7, h8, h9⟩ := hf
  obtain ⟨fs, e1, e2, e3⟩ := sf_get (g := g) (ad := ad) (h := h) hs
  have hg : (wsC g ad h)[c]? = some (ad c, .inr (ci, fs)) := by rw [wsC_get hc, e1]
  obtain ⟨w1, w2, w3, w4, w5, w6, w7⟩ := id hW
  have key : ∀ (H1 : Heap) (locs1 : List Loc), va_P D vwCl ((wsC g ad h).set c (ad c, .inr (ci, fs.set f (cv ad v)))) H1 → va_D A ((wsC g ad h).set c (ad c, .inr (ci, fs.set f (cv ad v)))) → va_S A s.heap H1 locs1 → W p l e R s m args below meth cd H1 locs1 k n Qf (F0 m (pc + 3) ls (st.map (cv ad))) := by
    intro H1 locs1 a1 a2 a3
    have e4 : cellC g ad h' (SHP c) c = .inr (ci, fs.set f (cv ad v)) := sf_put hs (hv ad) (ho ad) e1
    rw [← e4, wsC_set hn he] at a1 a2
    refine kk ad H1 locs1 ls ⟨a1, a2, a3, w4, by rw [hn]; exact w5, by rw [hn]; exact w6, hre (hst _ List.mem_cons_self) w7⟩ (fun q hq => by rw [hn]; exact hlv q hq) (fun w hw => by rw [hn]; exact hst w (List.mem_cons_of_mem _ (List.mem_cons_of_mem _ hw))) hl
  rcases hfin with hfin | ⟨hini, hdec⟩
  · exact va_put (D := D) (ci := ci) (C := CN) (T := T) (N := N) hx hb hts h2 tyf h3 h4 hown hK w1 w2 w3 c hg h1 f h5 (hts _ h6) (fun _ h9 => h9) (h8.trans hfin) h7 (hnar ad) (hfit ad) e3 hd key
  · rcases Bool.eq_false_or_eq_true fin with hq | hq
    · exact va_putF (D := D) (ci := ci) (C := CN) (T := T) (N := N) hx hb hts h2 tyf h3 h4 hown hK w1 w2 w3 c hg h1 f h5 (hts _ h6) (fun _ h9 => h9) (h8.trans hq) (hini _ _ _ _ _ _ _ _ _ _ _ _ _ _ _ _ rfl) (hdec _ _ _ h1) h7 (hnar ad) (hfit ad) e3 hd key
    · exact va_put (D := D) (ci := ci) (C := CN) (T := T) (N := N) hx hb hts h2 tyf h3 h4 hown hK w1 w2 w3 c hg h1 f h5 (hts _ h6) (fun _ h9 => h9) (h8.trans hq) h7 (hnar ad) (hfit ad) e3 hd key
theorem hI_ne {c j : Nat} {x : Int32} : ∀ d, d ≠ c → (hI h c j x).1 d = h.1 d ∧ (hI h c j x).2.1 d = h.2.1 d ∧ (hI h c j x).2.2.1 d = h.2.2.1 d := fun _ hd => ⟨up2_ne hd, rfl, rfl⟩
theorem hL_ne {c j : Nat} {x : Int64} : ∀ d, d ≠ c → (hL h c j x).1 d = h.1 d ∧ (hL h c j x).2.1 d = h.2.1 d ∧ (hL h c j x).2.2.1 d = h.2.2.1 d := fun _ hd => ⟨rfl, up2_ne hd, rfl⟩
theorem hR_ne {c j : Nat} {x : Option Nat} : ∀ d, d ≠ c → (hR h c j x).1 d = h.1 d ∧ (hR h c j x).2.1 d = h.2.1 d ∧ (hR h c j x).2.2.1 d = h.2.2.1 d := fun _ hd => ⟨rfl, rfl, up2_ne hd⟩
theorem w_putI {ix ci f c : Nat} {x : Int32} (hC : CxOK C μ) (hd : decode μ.2.1 pc = .ok (.putfield ix, 3)) (hf : FLK μ.1.cls ix ci f .int false) (hs : SF c f ci .int) (hc : c < h.2.2.2)
    (kk : WW C μ k n (pc + 3) lv st (hI h c f x)) : WW C μ k n pc lv (.int x :: .ref c :: st) h :=
  w_putv (h' := hI h c f x) hC hd hf hs hc rfl hI_ne (fun ad => congrArg Value.int up2_kk) (fun ad j t hj => fvC_congr (up2_nk hj) rfl rfl) (fun _ => rfl) (fun _ => rfl) (fun _ w => w) (Or.inl rfl) kk
theorem w_putZ {ix ci f c : Nat} {x : Int32} (hC : CxOK C μ) (hd : decode μ.2.1 pc = .ok (.putfield ix, 3)) (hf : FLK μ.1.cls ix ci f .boolean false) (hs : SF c f ci .boolean) (hc : c < h.2.2.2) (hn : narrow .boolean (.int x) = .int x) (hq : fits .boolean (.int x) = true)
    (kk : WW C μ k n (pc + 3) lv st (hI h c f x)) : WW C μ k n pc lv (.int x :: .ref c :: st) h :=
  w_putv (h' := hI h c f x) hC hd hf hs hc rfl hI_ne (fun ad => congrArg Value.int up2_kk) (fun ad j t hj => fvC_congr (up2_nk hj) rfl rfl) (fun _ => hn) (fun _ => hq) (fun _ w => w) (Or.inl rfl) kk
theorem w_putJ {ix ci f c : Nat} {x : Int64} (hC : CxOK C μ) (hd : decode μ.2.1 pc = .ok (.putfield ix, 3)) (hf : FLK μ.1.cls ix ci f .long false) (hs : SF c f ci .long) (hc : c < h.2.2.2)
    (kk : WW C μ k n (pc + 3) lv st (hL h c f x)) : WW C μ k n pc lv (.long x :: .ref c :: st) h :=
  w_putv (h' := hL h c f x) hC hd hf hs hc rfl hL_ne (fun ad => congrArg Value.long up2_kk) (fun ad j t hj => fvC_congr rfl (up2_nk hj) rfl) (fun _ => rfl) (fun _ => rfl) (fun _ w => w) (Or.inl rfl) kk
theorem w_putR {ix ci f c d : Nat} {ty : FieldType} {fin : Bool} (hC : CxOK C μ) (hd : decode μ.2.1 pc = .ok (.putfield ix, 3)) (hf : FLK μ.1.cls ix ci f ty fin) (ht : (∃ t, ty = .object t) ∨ ∃ t, ty = .array t) (hs : SF c f ci ty) (hc : c < h.2.2.2) (hdl : d < h.2.2.2)
    (hfin : fin = false ∨ (∀ p l e R s m args below meth c2 D g A ad0 n0 Qf, C = (p, l, e, R, s, m, args, below, meth, c2, D, g, A, ad0, n0, Qf) → meth.name = "<init>") ∧ (∀ CN T N, vwCl[ci]? = some (CN, T, N) → (T f).1 = μ.1.cls))
    (kk : WW C μ k n (pc + 3) lv st (hR h c f (some d))) : WW C μ k n pc lv (.ref d :: .ref c :: st) h := by
  have hk : up2 h.2.2.1 c f (some d) c f = some d := up2_kk
  have hre : RO h.2.2.2 (.ref d) → (∀ a j e, a < h.2.2.2 → h.2.2.1 a j = some e → e < h.2.2.2) → ∀ a j e, a < (hR h c f (some d)).2.2.2 → (hR h c f (some d)).2.2.1 a j = some e → e < (hR h c f (some d)).2.2.2 := by
    intro _ hw a j e ha he
    by_cases hac : a = c
    · subst hac
      by_cases hj : j = f
      · subst hj
        have he' : up2 h.2.2.1 a j (some d) a j = some e := he
        rw [up2_kk] at he'
        cases he'
        exact hdl
      · exact hw a j e ha ((up2_nk hj).symm.trans he)
    · exact hw a j e ha ((congrFun (up2_ne hac) j).symm.trans he)
  rcases ht with ⟨t, rfl⟩ | ⟨t, rfl⟩
  · refine w_putv (h' := hR h c f (some d)) (v := .ref d) hC hd hf hs hc rfl hR_ne (fun ad => ?_) (fun ad j t hj => fvC_congr rfl rfl (congrArg (Option.map ad) (up2_nk hj))) (fun _ => rfl) (fun _ => rfl) hre hfin kk
    show va_rf ((up2 h.2.2.1 c f (some d) c f).map ad) = Value.ref (ad d)
    rw [hk]; rfl
  · refine w_putv (h' := hR h c f (some d)) (v := .ref d) hC hd hf hs hc rfl hR_ne (fun ad => ?_) (fun ad j t hj => fvC_congr rfl rfl (congrArg (Option.map ad) (up2_nk hj))) (fun _ => rfl) (fun _ => rfl) hre hfin kk
    show va_rf ((up2 h.2.2.1 c f (some d) c f).map ad) = Value.ref (ad d)
    rw [hk]; rfl
/-! rows of numbers -/
theorem w_iald {c N : Nat} {i : Int32} (hC : CxOK C μ) (hd : decode μ.2.1 pc = .ok (.iaload, 1)) (hs : SHP c = .inl (.int, N)) (hc : c < h.2.2.2) (hi : vp_in i N)
    (kk : WW C μ k n (pc + 1) lv (.int (h.1 c i.toNatClampNeg) :: st) h) : WW C μ k n pc lv (.int i :: .ref c :: st) h := by
  obtain ⟨p, l, e, R, s, m, args, below, meth, cd, D, g, A, ad0, n0, Qf⟩ := C
  obtain ⟨hx, hb, hml, hown, hts, hr, hlk, hK, hA, hl9, hN, hT, hZ⟩ := hC
  intro ad H locs ls hW hlv hst hl
  have hg : (wsC g ad h)[c]? = some (ad c, .inl (g.1, N, .inl (h.1 c))) := by rw [wsC_get hc, hs]; rfl
  exact va_iald (D := D) hx hb hK hW.1 c 0 hg rfl hi hd (kk ad H locs ls hW hlv (fun v hv => (List.mem_cons.mp hv).elim (fun q => by rw [q]; trivial) (fun hv => hst v (List.mem_cons_of_mem _ (List.mem_cons_of_mem _ hv)))) hl)
theorem w_zald {c N : Nat} {i : Int32} (hC : CxOK C μ) (hd : decode μ.2.1 pc = .ok (.baload, 1)) (hs : SHP c = .inl (.boolean, N)) (hc : c < h.2.2.2) (hi : vp_in i N)
    (kk : WW C μ k n (pc + 1) lv (.int (h.1 c i.toNatClampNeg) :: st) h) : WW C μ k n pc lv (.int i :: .ref c :: st) h := by
  obtain ⟨p, l, e, R, s, m, args, below, meth, cd, D, g, A, ad0, n0, Qf⟩ := C
  obtain ⟨hx, hb, hml, hown, hts, hr, hlk, hK, hA, hl9, hN, hT, hZ⟩ := hC
  intro ad H locs ls hW hlv hst hl
  have hg : (wsC g ad h)[c]? = some (ad c, .inl (g.2.2, N, .inl (h.1 c))) := by rw [wsC_get hc, hs]; rfl
  exact va_zald (D := D) hx hb hK hW.1 c 2 hg rfl hi hd (kk ad H locs ls hW hlv (fun v hv => (List.mem_cons.mp hv).elim (fun q => by rw [q]; trivial) (fun hv => hst v (List.mem_cons_of_mem _ (List.mem_cons_of_mem _ hv)))) hl)
theorem w_lald {c N : Nat} {i : Int32} (hC : CxOK C μ) (hd : decode μ.2.1 pc = .ok (.laload, 1)) (hs : SHP c = .inl (.long, N)) (hc : c < h.2.2.2) (hi : vp_in i N)
    (kk : WW C μ k n (pc + 1) lv (.long (h.2.1 c i.toNatClampNeg) :: st) h) : WW C μ k n pc lv (.int i :: .ref c :: st) h := by
  obtain ⟨p, l, e, R, s, m, args, below, meth, cd, D, g, A, ad0, n0, Qf⟩ := C
  obtain ⟨hx, hb, hml, hown, hts, hr, hlk, hK, hA, hl9, hN, hT, hZ⟩ := hC
  intro ad H locs ls hW hlv hst hl
  have hg : (wsC g ad h)[c]? = some (ad c, .inl (g.2.1, N, .inr (.inl (h.2.1 c)))) := by rw [wsC_get hc, hs]; rfl
  exact va_lald (D := D) hx hb hK hW.1 c 1 hg rfl hi hd (kk ad H locs ls hW hlv (fun v hv => (List.mem_cons.mp hv).elim (fun q => by rw [q]; trivial) (fun hv => hst v (List.mem_cons_of_mem _ (List.mem_cons_of_mem _ hv)))) hl)
theorem w_alen {c N : Nat} {ty : FieldType} (hC : CxOK C μ) (hd : decode μ.2.1 pc = .ok (.arraylength, 1)) (hs : SHP c = .inl (ty, N)) (ht : ty = .int ∨ ty = .long ∨ ty = .boolean) (hc : c < h.2.2.2)
    (kk : WW C μ k n (pc + 1) lv (.int (Int32.ofNat N) :: st) h) : WW C μ k n pc lv (.ref c :: st) h := by
  obtain ⟨p, l, e, R, s, m, args, below, meth, cd, D, g, A, ad0, n0, Qf⟩ := C
  obtain ⟨hx, hb, hml, hown, hts, hr, hlk, hK, hA, hl9, hN, hT, hZ⟩ := hC
  intro ad H locs ls hW hlv hst hl
  have kk2 := kk ad H locs ls hW hlv (fun v hv => (List.mem_cons.mp hv).elim (fun q => by rw [q]; trivial) (fun hv => hst v (List.mem_cons_of_mem _ hv))) hl
  rcases ht with rfl | rfl | rfl
  · exact va_alen (D := D) hx hb hK hW.1 c 0 (show (wsC g ad h)[c]? = some (ad c, .inl (g.1, N, .inl (h.1 c))) by rw [wsC_get hc, hs]; rfl) (ty := .int) rfl rfl hd kk2
  · exact va_alen (D := D) hx hb hK hW.1 c 1 (show (wsC g ad h)[c]? = some (ad c, .inl (g.2.1, N, .inr (.inl (h.2.1 c)))) by rw [wsC_get hc, hs]; rfl) (ty := .long) rfl rfl hd kk2
  · exact va_alen (D := D) hx hb hK hW.1 c 2 (show (wsC g ad h)[c]? = some (ad c, .inl (g.2.2, N, .inl (h.1 c))) by rw [wsC_get hc, hs]; rfl) (ty := .boolean) rfl rfl hd kk2
theorem w_iast {c N : Nat} {i x : Int32} (hC : CxOK C μ) (hd : decode μ.2.1 pc = .ok (.iastore, 1)) (hs : SHP c = .inl (.int, N)) (hc : c < h.2.2.2) (hi : vp_in i N)
    (kk : WW C μ k n (pc + 1) lv st (hI h c i.toNatClampNeg x)) : WW C μ k n pc lv (.int x :: .int i :: .ref c :: st) h := by
  obtain ⟨p, l, e, R, s, m, args, below, meth, cd, D, g, A, ad0, n0, Qf⟩ := C
  obtain ⟨hx, hb, hml, hown, hts, hr, hlk, hK, hA, hl9, hN, hT, hZ⟩ := hC
  intro ad H locs ls hW hlv hst hl
  obtain ⟨w1, w2, w3, w4, w5, w6, w7⟩ := id hW
  have hg : (wsC g ad h)[c]? = some (ad c, .inl (g.1, N, .inl (h.1 c))) := by rw [wsC_get hc, hs]; rfl
  refine va_iast (D := D) hx hb hK w1 w2 w3 c 0 hg rfl hi hd (fun H1 locs1 a1 a2 a3 => ?_)
  have e4 : (Sum.inl (g.1, N, .inl (upd (h.1 c) i.toNatClampNeg x)) : va_E) = cellC g ad (hI h c i.toNatClampNeg x) (SHP c) c := by
    rw [hs]
    show _ = (Sum.inl (g.1, N, .inl (up2 h.1 c i.toNatClampNeg x c)) : va_E)
    rw [up2_row]; rfl
  rw [e4, wsC_set (g := g) (ad := ad) (h := h) (h' := hI h c i.toNatClampNeg x) (c := c) rfl hI_ne] at a1 a2
  exact kk ad H1 locs1 ls ⟨a1, a2, a3, w4, w5, w6, w7⟩ hlv (fun w hw => hst w (List.mem_cons_of_mem _ (List.mem_cons_of_mem _ (List.mem_cons_of_mem _ hw)))) hl
theorem w_zast {c N : Nat} {i x : Int32} (hC : CxOK C μ) (hd : decode μ.2.1 pc = .ok (.bastore, 1)) (hs : SHP c = .inl (.boolean, N)) (hc : c < h.2.2.2) (hi : vp_in i N) (hx01 : vp_nar .boolean x = x)
    (kk : WW C μ k n (pc + 1) lv st (hI h c i.toNatClampNeg x)) : WW C μ k n pc lv (.int x :: .int i :: .ref c :: st) h := by
  obtain ⟨p, l, e, R, s, m, args, below, meth, cd, D, g, A, ad0, n0, Qf⟩ := C
  obtain ⟨hx, hb, hml, hown, hts, hr, hlk, hK, hA, hl9, hN, hT, hZ⟩ := hC
  intro ad H locs ls hW hlv hst hl
  obtain ⟨w1, w2, w3, w4, w5, w6, w7⟩ := id hW
  have hg : (wsC g ad h)[c]? = some (ad c, .inl (g.2.2, N, .inl (h.1 c))) := by rw [wsC_get hc, hs]; rfl
  refine va_zast (D := D) hx hb hK w1 w2 w3 c 2 hg rfl hi hd (fun H1 locs1 a1 a2 a3 => ?_)
  rw [hx01] at a1 a2
  have e4 : (Sum.inl (g.2.2, N, .inl (upd (h.1 c) i.toNatClampNeg x)) : va_E) = cellC g ad (hI h c i.toNatClampNeg x) (SHP c) c := by
    rw [hs]
    show _ = (Sum.inl (g.2.2, N, .inl (up2 h.1 c i.toNatClampNeg x c)) : va_E)
    rw [up2_row]; rfl
  rw [e4, wsC_set (g := g) (ad := ad) (h := h) (h' := hI h c i.toNatClampNeg x) (c := c) rfl hI_ne] at a1 a2
  exact kk ad H1 locs1 ls ⟨a1, a2, a3, w4, w5, w6, w7⟩ hlv (fun w hw => hst w (List.mem_cons_of_mem _ (List.mem_cons_of_mem _ (List.mem_cons_of_mem _ hw)))) hl
theorem w_last {c N : Nat} {i : Int32} {x : Int64} (hC : CxOK C μ) (hd : decode μ.2.1 pc = .ok (.lastore, 1)) (hs : SHP c = .inl (.long, N)) (hc : c < h.2.2.2) (hi : vp_in i N)
    (kk : WW C μ k n (pc + 1) lv st (hL h c i.toNatClampNeg x)) : WW C μ k n pc lv (.long x :: .int i :: .ref c :: st) h := by
  obtain ⟨p, l, e, R, s, m, args, below, meth, cd, D, g, A, ad0, n0, Qf⟩ := C
  obtain ⟨hx, hb, hml, hown, hts, hr, hlk, hK, hA, hl9, hN, hT, hZ⟩ := hC
  intro ad H locs ls hW hlv hst hl
  obtain ⟨w1, w2, w3, w4, w5, w6, w7⟩ := id hW
  have hg : (wsC g ad h)[c]? = some (ad c, .inl (g.2.1, N, .inr (.inl (h.2.1 c)))) := by rw [wsC_get hc, hs]; rfl
  refine va_last (D := D) hx hb hK w1 w2 w3 c 1 hg rfl hi hd (fun H1 locs1 a1 a2 a3 => ?_)
  have e4 : (Sum.inl (g.2.1, N, .inr (.inl (vp_updL (h.2.1 c) i.toNatClampNeg x))) : va_E) = cellC g ad (hL h c i.toNatClampNeg x) (SHP c) c := by
    rw [hs]
    show _ = (Sum.inl (g.2.1, N, .inr (.inl (up2 h.2.1 c i.toNatClampNeg x c))) : va_E)
    rw [up2_row]; rfl
  rw [e4, wsC_set (g := g) (ad := ad) (h := h) (h' := hL h c i.toNatClampNeg x) (c := c) rfl hL_ne] at a1 a2
  exact kk ad H1 locs1 ls ⟨a1, a2, a3, w4, w5, w6, w7⟩ hlv (fun w hw => hst w (List.mem_cons_of_mem _ (List.mem_cons_of_mem _ (List.mem_cons_of_mem _ hw)))) hl
end CELLS
