theorem w_iconst {C : Ctx} {μ : MI} {k n pc : Nat} {lv : List (Nat × Value)} {st : List Value} {h : Hp} {z : Int} {x : Int32} (hC : CxOK C μ) (hd : decode μ.2.1 pc = .ok (.iconst z, 1)) (hv : Int32.ofInt z = x) (kk : WW C μ k n (pc + 1) lv (.int x :: st) h) : WW C μ k n pc lv st h := by
  obtain ⟨p, l, e, R, s, m, args, below, meth, c, D, g, A, ad0, n0, Qf⟩ := C
  obtain ⟨hx, hb, hml, hown, hts, hr, hlk, hK, hA, hl9, hN, hT, hZ⟩ := hC
  intro ad H locs ls hW hlv hst hl
  exact lv_iconst hx hb hd hv (kk ad H locs ls hW hlv (fun v hv => (List.mem_cons.mp hv).elim (fun q => by rw [q]; trivial) (fun hv => hst v (hv))) hl)

theorem w_bipush {C : Ctx} {μ : MI} {k n pc : Nat} {lv : List (Nat × Value)} {st : List Value} {h : Hp} {z : Int} {x : Int32} (hC : CxOK C μ) (hd : decode μ.2.1 pc = .ok (.bipush z, 2)) (hv : (Int8.ofInt z).toInt32 = x) (kk : WW C μ k n (pc + 2) lv (.int x :: st) h) : WW C μ k n pc lv st h := by
  obtain ⟨p, l, e, R, s, m, args, below, meth, c, D, g, A, ad0, n0, Qf⟩ := C
  obtain ⟨hx, hb, hml, hown, hts, hr, hlk, hK, hA, hl9, hN, hT, hZ⟩ := hC
  intro ad H locs ls hW hlv hst hl
  exact lv_bipush hx hb hd hv (kk ad H locs ls hW hlv (fun v hv => (List.mem_cons.mp hv).elim (fun q => by rw [q]; trivial) (fun hv => hst v (hv))) hl)

theorem w_sipush {C : Ctx} {μ : MI} {k n pc : Nat} {lv : List (Nat × Value)} {st : List Value} {h : Hp} {z : Int} {x : Int32} (hC : CxOK C μ) (hd : decode μ.2.1 pc = .ok (.sipush z, 3)) (hv : (Int16.ofInt z).toInt32 = x) (kk : WW C μ k n (pc + 3) lv (.int x :: st) h) : WW C μ k n pc lv st h := by
  obtain ⟨p, l, e, R, s, m, args, below, meth, c, D, g, A, ad0, n0, Qf⟩ := C
  obtain ⟨hx, hb, hml, hown, hts, hr, hlk, hK, hA, hl9, hN, hT, hZ⟩ := hC
  intro ad H locs ls hW hlv hst hl
  exact lv_sipush hx hb hd hv (kk ad H locs ls hW hlv (fun v hv => (List.mem_cons.mp hv).elim (fun q => by rw [q]; trivial) (fun hv => hst v (hv))) hl)

theorem w_lconst {C : Ctx} {μ : MI} {k n pc : Nat} {lv : List (Nat × Value)} {st : List Value} {h : Hp} {z : Fin 2} {x : Int64} (hC : CxOK C μ) (hd : decode μ.2.1 pc = .ok (.lconst z, 1)) (hv : Int64.ofNat (z : Nat) = x) (kk : WW C μ k n (pc + 1) lv (.long x :: st) h) : WW C μ k n pc lv st h := by
  obtain ⟨p, l, e, R, s, m, args, below, meth, c, D, g, A, ad0, n0, Qf⟩ := C
  obtain ⟨hx, hb, hml, hown, hts, hr, hlk, hK, hA, hl9, hN, hT, hZ⟩ := hC
  intro ad H locs ls hW hlv hst hl
  exact lv_lconst hx hb hd hv (kk ad H locs ls hW hlv (fun v hv => (List.mem_cons.mp hv).elim (fun q => by rw [q]; trivial) (fun hv => hst v (hv))) hl)

theorem w_ldc {C : Ctx} {μ : MI} {k n pc : Nat} {lv : List (Nat × Value)} {st : List Value} {h : Hp} {ix : Nat} {x : Int32} (hC : CxOK C μ) (hd : decode μ.2.1 pc = .ok (.ldc ix, 2)) (hw : Cond.constant μ.1.cls ix x ∈ BIG) (kk : WW C μ k n (pc + 2) lv (.int x :: st) h) : WW C μ k n pc lv st h := by
  obtain ⟨p, l, e, R, s, m, args, below, meth, c, D, g, A, ad0, n0, Qf⟩ := C
  obtain ⟨hx, hb, hml, hown, hts, hr, hlk, hK, hA, hl9, hN, hT, hZ⟩ := hC
  intro ad H locs ls hW hlv hst hl
  exact lv_ldc hx hb hown (hts _ hw) hd (kk ad H locs ls hW hlv (fun v hv => (List.mem_cons.mp hv).elim (fun q => by rw [q]; trivial) (fun hv => hst v (hv))) hl)

theorem w_ldcw {C : Ctx} {μ : MI} {k n pc : Nat} {lv : List (Nat × Value)} {st : List Value} {h : Hp} {ix : Nat} {x : Int32} (hC : CxOK C μ) (hd : decode μ.2.1 pc = .ok (.ldc_w ix, 3)) (hw : Cond.constant μ.1.cls ix x ∈ BIG) (kk : WW C μ k n (pc + 3) lv (.int x :: st) h) : WW C μ k n pc lv st h := by
  obtain ⟨p, l, e, R, s, m, args, below, meth, c, D, g, A, ad0, n0, Qf⟩ := C
  obtain ⟨hx, hb, hml, hown, hts, hr, hlk, hK, hA, hl9, hN, hT, hZ⟩ := hC
  intro ad H locs ls hW hlv hst hl
  exact lv_ldcw hx hb hown (hts _ hw) hd (kk ad H locs ls hW hlv (fun v hv => (List.mem_cons.mp hv).elim (fun q => by rw [q]; trivial) (fun hv => hst v (hv))) hl)

theorem w_ldc2 {C : Ctx} {μ : MI} {k n pc : Nat} {lv : List (Nat × Value)} {st : List Value} {h : Hp} {ix : Nat} {x : Int64} (hC : CxOK C μ) (hd : decode μ.2.1 pc = .ok (.ldc2_w ix, 3)) (hw : Cond.constantLong μ.1.cls ix x ∈ BIG) (kk : WW C μ k n (pc + 3) lv (.long x :: st) h) : WW C μ k n pc lv st h := by
  obtain ⟨p, l, e, R, s, m, args, below, meth, c, D, g, A, ad0, n0, Qf⟩ := C
  obtain ⟨hx, hb, hml, hown, hts, hr, hlk, hK, hA, hl9, hN, hT, hZ⟩ := hC
  intro ad H locs ls hW hlv hst hl
  exact lv_ldc2 hx hb hown (hts _ hw) hd (kk ad H locs ls hW hlv (fun v hv => (List.mem_cons.mp hv).elim (fun q => by rw [q]; trivial) (fun hv => hst v (hv))) hl)

theorem lv_atc {ls : Array Slot} {nL : Nat} {lv : List (Nat × Value)} {ad : Nat → Nat} (h : lv_has ls nL (lv.map (cvl ad))) (j : Nat) {i : Nat} {v : Value} (hj : lv[j]? = some (i, v)) : ls[i]? = some (.val (cv ad v)) := lv_at h j (by rw [List.getElem?_map, hj]; rfl)
theorem w_iload_n {C : Ctx} {μ : MI} {k n pc : Nat} {lv : List (Nat × Value)} {st : List Value} {h : Hp} {q : Fin 4} {i : Nat} {x : Int32} (hC : CxOK C μ) (hd : decode μ.2.1 pc = .ok (.iload_n q, 1)) (hi : (q : Nat) = i) (j : Nat) (hj : lv[j]? = some (i, .int x)) (kk : WW C μ k n (pc + 1) lv (.int x :: st) h) : WW C μ k n pc lv st h := by
  obtain ⟨p, l, e, R, s, m, args, below, meth, c, D, g, A, ad0, n0, Qf⟩ := C
  obtain ⟨hx, hb, hml, hown, hts, hr, hlk, hK, hA, hl9, hN, hT, hZ⟩ := hC
  intro ad H locs ls hW hlv hst hl
  exact lv_iload_n hx hb hd hi (lv_atc hl j hj) (kk ad H locs ls hW hlv (fun v hv => (List.mem_cons.mp hv).elim (fun q => by rw [q]; trivial) (fun hv => hst v (hv))) hl)

theorem w_iload {C : Ctx} {μ : MI} {k n pc : Nat} {lv : List (Nat × Value)} {st : List Value} {h : Hp} {i : Nat} {x : Int32} (hC : CxOK C μ) (hd : decode μ.2.1 pc = .ok (.iload i, 2)) (j : Nat) (hj : lv[j]? = some (i, .int x)) (kk : WW C μ k n (pc + 2) lv (.int x :: st) h) : WW C μ k n pc lv st h := by
  obtain ⟨p, l, e, R, s, m, args, below, meth, c, D, g, A, ad0, n0, Qf⟩ := C
  obtain ⟨hx, hb, hml, hown, hts, hr, hlk, hK, hA, hl9, hN, hT, hZ⟩ := hC
  intro ad H locs ls hW hlv hst hl
  exact lv_iload hx hb hd (lv_atc hl j hj) (kk ad H locs ls hW hlv (fun v hv => (List.mem_cons.mp hv).elim (fun q => by rw [q]; trivial) (fun hv => hst v (hv))) hl)

theorem w_lload_n {C : Ctx} {μ : MI} {k n pc : Nat} {lv : List (Nat × Value)} {st : List Value} {h : Hp} {q : Fin 4} {i : Nat} {x : Int64} (hC : CxOK C μ) (hd : decode μ.2.1 pc = .ok (.lload_n q, 1)) (hi : (q : Nat) = i) (j : Nat) (hj : lv[j]? = some (i, .long x)) (kk : WW C μ k n (pc + 1) lv (.long x :: st) h) : WW C μ k n pc lv st h := by
  obtain ⟨p, l, e, R, s, m, args, below, meth, c, D, g, A, ad0, n0, Qf⟩ := C
  obtain ⟨hx, hb, hml, hown, hts, hr, hlk, hK, hA, hl9, hN, hT, hZ⟩ := hC
  intro ad H locs ls hW hlv hst hl
  exact lv_lload_n hx hb hd hi (lv_atc hl j hj) (kk ad H locs ls hW hlv (fun v hv => (List.mem_cons.mp hv).elim (fun q => by rw [q]; trivial) (fun hv => hst v (hv))) hl)

theorem w_lload {C : Ctx} {μ : MI} {k n pc : Nat} {lv : List (Nat × Value)} {st : List Value} {h : Hp} {i : Nat} {x : Int64} (hC : CxOK C μ) (hd : decode μ.2.1 pc = .ok (.lload i, 2)) (j : Nat) (hj : lv[j]? = some (i, .long x)) (kk : WW C μ k n (pc + 2) lv (.long x :: st) h) : WW C μ k n pc lv st h := by
  obtain ⟨p, l, e, R, s, m, args, below, meth, c, D, g, A, ad0, n0, Qf⟩ := C
  obtain ⟨hx, hb, hml, hown, hts, hr, hlk, hK, hA, hl9, hN, hT, hZ⟩ := hC
  intro ad H locs ls hW hlv hst hl
  exact lv_lload hx hb hd (lv_atc hl j hj) (kk ad H locs ls hW hlv (fun v hv => (List.mem_cons.mp hv).elim (fun q => by rw [q]; trivial) (fun hv => hst v (hv))) hl)

theorem w_aload_n {C : Ctx} {μ : MI} {k n pc : Nat} {lv : List (Nat × Value)} {st : List Value} {h : Hp} {q : Fin 4} {i : Nat} {x : Nat} (hC : CxOK C μ) (hd : decode μ.2.1 pc = .ok (.aload_n q, 1)) (hi : (q : Nat) = i) (j : Nat) (hj : lv[j]? = some (i, .ref x)) (kk : WW C μ k n (pc + 1) lv (.ref x :: st) h) : WW C μ k n pc lv st h := by
  obtain ⟨p, l, e, R, s, m, args, below, meth, c, D, g, A, ad0, n0, Qf⟩ := C
  obtain ⟨hx, hb, hml, hown, hts, hr, hlk, hK, hA, hl9, hN, hT, hZ⟩ := hC
  intro ad H locs ls hW hlv hst hl
  exact lv_aload_n hx hb hd hi (lv_atc hl j hj) (kk ad H locs ls hW hlv (fun v hv => (List.mem_cons.mp hv).elim (fun q => by rw [q]; exact hlv _ (List.mem_of_getElem? hj)) (fun hv => hst v hv)) hl)

theorem w_aload {C : Ctx} {μ : MI} {k n pc : Nat} {lv : List (Nat × Value)} {st : List Value} {h : Hp} {i : Nat} {x : Nat} (hC : CxOK C μ) (hd : decode μ.2.1 pc = .ok (.aload i, 2)) (j : Nat) (hj : lv[j]? = some (i, .ref x)) (kk : WW C μ k n (pc + 2) lv (.ref x :: st) h) : WW C μ k n pc lv st h := by
  obtain ⟨p, l, e, R, s, m, args, below, meth, c, D, g, A, ad0, n0, Qf⟩ := C
  obtain ⟨hx, hb, hml, hown, hts, hr, hlk, hK, hA, hl9, hN, hT, hZ⟩ := hC
  intro ad H locs ls hW hlv hst hl
  exact lv_aload hx hb hd (lv_atc hl j hj) (kk ad H locs ls hW hlv (fun v hv => (List.mem_cons.mp hv).elim (fun q => by rw [q]; exact hlv _ (List.mem_of_getElem? hj)) (fun hv => hst v hv)) hl)

def ls1 (lv : List (Nat × Value)) (i : Nat) (v : Value) : List (Nat × Value) := (i, v) :: lv.filter (fun q => !(q.1 == i) && !(q.1 + 1 == i && q.2.category == 2))
def ls2 (lv : List (Nat × Value)) (i : Nat) (v : Value) : List (Nat × Value) := (i, v) :: lv.filter (fun q => !(q.1 == i) && (!(q.1 == i + 1) && !(q.1 + 1 == i && q.2.category == 2)))
theorem ls1_cv {lv : List (Nat × Value)} {i : Nat} {v : Value} {ad : Nat → Nat} : (i, cv ad v) :: (lv.map (cvl ad)).filter (fun q => !(q.1 == i) && !(q.1 + 1 == i && q.2.category == 2)) = (ls1 lv i v).map (cvl ad) := by
  unfold ls1
  rw [List.map_cons, List.filter_map]
  congr 2
  apply List.filter_congr
  intro q _
  show (!(q.1 == i) && !(q.1 + 1 == i && (cv ad q.2).category == 2)) = _
  rw [cv_cat]
theorem ls2_cv {lv : List (Nat × Value)} {i : Nat} {v : Value} {ad : Nat → Nat} : (i, cv ad v) :: (lv.map (cvl ad)).filter (fun q => !(q.1 == i) && (!(q.1 == i + 1) && !(q.1 + 1 == i && q.2.category == 2))) = (ls2 lv i v).map (cvl ad) := by
  unfold ls2
  rw [List.map_cons, List.filter_map]
  congr 2
  apply List.filter_congr
  intro q _
  show (!(q.1 == i) && (!(q.1 == i + 1) && !(q.1 + 1 == i && (cv ad q.2).category == 2))) = _
  rw [cv_cat]
theorem pick_map {l : List (Nat × Value)} {ks : List Nat} {ad : Nat → Nat} : lv_pick (l.map (cvl ad)) ks = (lv_pick l ks).map (cvl ad) := by
  unfold lv_pick
  rw [List.map_filterMap]
  exact congrArg (fun f => List.filterMap f ks) (funext fun k => List.getElem?_map)
theorem pick_mem {l : List (Nat × Value)} {ks : List Nat} {q : Nat × Value} (h : q ∈ lv_pick l ks) : q ∈ l := by
  obtain ⟨k, -, hk⟩ := List.mem_filterMap.mp h
  exact List.mem_of_getElem? hk
theorem ls1_mem {lv : List (Nat × Value)} {i : Nat} {v : Value} {q : Nat × Value} (h : q ∈ ls1 lv i v) : q = (i, v) ∨ q ∈ lv := (List.mem_cons.mp h).elim Or.inl (fun h => Or.inr (List.mem_filter.mp h).1)
theorem ls2_mem {lv : List (Nat × Value)} {i : Nat} {v : Value} {q : Nat × Value} (h : q ∈ ls2 lv i v) : q = (i, v) ∨ q ∈ lv := (List.mem_cons.mp h).elim Or.inl (fun h => Or.inr (List.mem_filter.mp h).1)

theorem w_istore_n {C : Ctx} {μ : MI} {k n pc : Nat} {lv : List (Nat × Value)} {st : List Value} {h : Hp} {q : Fin 4} {i : Nat} {x : Int32} {lv' : List (Nat × Value)} (hC : CxOK C μ) (hd : decode μ.2.1 pc = .ok (.istore_n q, 1)) (hi : (q : Nat) = i) (hn : i < μ.2.2.1) (ks : List Nat) (hp : lv_pick (ls1 lv i (.int x)) ks = lv') (kk : WW C μ k n (pc + 1) lv' st h) : WW C μ k n pc lv (.int x :: st) h := by
  obtain ⟨p, l, e, R, s, m, args, below, meth, c, D, g, A, ad0, n0, Qf⟩ := C
  obtain ⟨hx, hb, hml, hown, hts, hr, hlk, hK, hA, hl9, hN, hT, hZ⟩ := hC
  intro ad H locs ls hW hlv hst hl
  refine lv_istore_n hx hb hd hi hl hn rfl (fun ls2 hl2 => kk ad H locs ls2 hW (fun q hq => ?_) (fun v hv => hst v (List.mem_cons_of_mem _ (hv))) ?_)
  · rw [← hp] at hq
    rcases ls1_mem (pick_mem hq) with rfl | hq
    · trivial
    · exact hlv q hq
  · rw [← hp, ← pick_map]
    exact lv_sub hl2 ks (by rw [← ls1_cv]; rfl)

theorem w_istore {C : Ctx} {μ : MI} {k n pc : Nat} {lv : List (Nat × Value)} {st : List Value} {h : Hp} {i : Nat} {x : Int32} {lv' : List (Nat × Value)} (hC : CxOK C μ) (hd : decode μ.2.1 pc = .ok (.istore i, 2)) (hn : i < μ.2.2.1) (ks : List Nat) (hp : lv_pick (ls1 lv i (.int x)) ks = lv') (kk : WW C μ k n (pc + 2) lv' st h) : WW C μ k n pc lv (.int x :: st) h := by
  obtain ⟨p, l, e, R, s, m, args, below, meth, c, D, g, A, ad0, n0, Qf⟩ := C
  obtain ⟨hx, hb, hml, hown, hts, hr, hlk, hK, hA, hl9, hN, hT, hZ⟩ := hC
  intro ad H locs ls hW hlv hst hl
  refine lv_istore hx hb hd hl hn rfl (fun ls2 hl2 => kk ad H locs ls2 hW (fun q hq => ?_) (fun v hv => hst v (List.mem_cons_of_mem _ (hv))) ?_)
  · rw [← hp] at hq
    rcases ls1_mem (pick_mem hq) with rfl | hq
    · trivial
    · exact hlv q hq
  · rw [← hp, ← pick_map]
    exact lv_sub hl2 ks (by rw [← ls1_cv]; rfl)

theorem w_lstore_n {C : Ctx} {μ : MI} {k n pc : Nat} {lv : List (Nat × Value)} {st : List Value} {h : Hp} {q : Fin 4} {i : Nat} {x : Int64} {lv' : List (Nat × Value)} (hC : CxOK C μ) (hd : decode μ.2.1 pc = .ok (.lstore_n q, 1)) (hi : (q : Nat) = i) (hn : i + 1 < μ.2.2.1) (ks : List Nat) (hp : lv_pick (ls2 lv i (.long x)) ks = lv') (kk : WW C μ k n (pc + 1) lv' st h) : WW C μ k n pc lv (.long x :: st) h := by
  obtain ⟨p, l, e, R, s, m, args, below, meth, c, D, g, A, ad0, n0, Qf⟩ := C
  obtain ⟨hx, hb, hml, hown, hts, hr, hlk, hK, hA, hl9, hN, hT, hZ⟩ := hC
  intro ad H locs ls hW hlv hst hl
  refine lv_lstore_n hx hb hd hi hl hn rfl (fun ls2 hl2 => kk ad H locs ls2 hW (fun q hq => ?_) (fun v hv => hst v (List.mem_cons_of_mem _ (hv))) ?_)
  · rw [← hp] at hq
    rcases ls2_mem (pick_mem hq) with rfl | hq
    · trivial
    · exact hlv q hq
  · rw [← hp, ← pick_map]
    exact lv_sub hl2 ks (by rw [← ls2_cv]; rfl)

theorem w_lstore {C : Ctx} {μ : MI} {k n pc : Nat} {lv : List (Nat × Value)} {st : List Value} {h : Hp} {i : Nat} {x : Int64} {lv' : List (Nat × Value)} (hC : CxOK C μ) (hd : decode μ.2.1 pc = .ok (.lstore i, 2)) (hn : i + 1 < μ.2.2.1) (ks : List Nat) (hp : lv_pick (ls2 lv i (.long x)) ks = lv') (kk : WW C μ k n (pc + 2) lv' st h) : WW C μ k n pc lv (.long x :: st) h := by
  obtain ⟨p, l, e, R, s, m, args, below, meth, c, D, g, A, ad0, n0, Qf⟩ := C
  obtain ⟨hx, hb, hml, hown, hts, hr, hlk, hK, hA, hl9, hN, hT, hZ⟩ := hC
  intro ad H locs ls hW hlv hst hl
  refine lv_lstore hx hb hd hl hn rfl (fun ls2 hl2 => kk ad H locs ls2 hW (fun q hq => ?_) (fun v hv => hst v (List.mem_cons_of_mem _ (hv))) ?_)
  · rw [← hp] at hq
    rcases ls2_mem (pick_mem hq) with rfl | hq
    · trivial
    · exact hlv q hq
  · rw [← hp, ← pick_map]
    exact lv_sub hl2 ks (by rw [← ls2_cv]; rfl)

theorem w_astore_n {C : Ctx} {μ : MI} {k n pc : Nat} {lv : List (Nat × Value)} {st : List Value} {h : Hp} {q : Fin 4} {i : Nat} {x : Nat} {lv' : List (Nat × Value)} (hC : CxOK C μ) (hd : decode μ.2.1 pc = .ok (.astore_n q, 1)) (hi : (q : Nat) = i) (hn : i < μ.2.2.1) (ks : List Nat) (hp : lv_pick (ls1 lv i (.ref x)) ks = lv') (kk : WW C μ k n (pc + 1) lv' st h) : WW C μ k n pc lv (.ref x :: st) h := by
  obtain ⟨p, l, e, R, s, m, args, below, meth, c, D, g, A, ad0, n0, Qf⟩ := C
  obtain ⟨hx, hb, hml, hown, hts, hr, hlk, hK, hA, hl9, hN, hT, hZ⟩ := hC
  intro ad H locs ls hW hlv hst hl
  refine lv_astore_n hx hb hd hi hl hn rfl (fun ls2 hl2 => kk ad H locs ls2 hW (fun q hq => ?_) (fun v hv => hst v (List.mem_cons_of_mem _ (hv))) ?_)
  · rw [← hp] at hq
    rcases ls1_mem (pick_mem hq) with rfl | hq
    · exact hst _ List.mem_cons_self
    · exact hlv q hq
  · rw [← hp, ← pick_map]
    exact lv_sub hl2 ks (by rw [← ls1_cv]; rfl)

theorem w_astore {C : Ctx} {μ : MI} {k n pc : Nat} {lv : List (Nat × Value)} {st : List Value} {h : Hp} {i : Nat} {x : Nat} {lv' : List (Nat × Value)} (hC : CxOK C μ) (hd : decode μ.2.1 pc = .ok (.astore i, 2)) (hn : i < μ.2.2.1) (ks : List Nat) (hp : lv_pick (ls1 lv i (.ref x)) ks = lv') (kk : WW C μ k n (pc + 2) lv' st h) : WW C μ k n pc lv (.ref x :: st) h := by
  obtain ⟨p, l, e, R, s, m, args, below, meth, c, D, g, A, ad0, n0, Qf⟩ := C
  obtain ⟨hx, hb, hml, hown, hts, hr, hlk, hK, hA, hl9, hN, hT, hZ⟩ := hC
  intro ad H locs ls hW hlv hst hl
  refine lv_astore hx hb hd hl hn rfl (fun ls2 hl2 => kk ad H locs ls2 hW (fun q hq => ?_) (fun v hv => hst v (List.mem_cons_of_mem _ (hv))) ?_)
  · rw [← hp] at hq
    rcases ls1_mem (pick_mem hq) with rfl | hq
    · exact hst _ List.mem_cons_self
    · exact hlv q hq
  · rw [← hp, ← pick_map]
    exact lv_sub hl2 ks (by rw [← ls1_cv]; rfl)

theorem w_iinc {C : Ctx} {μ : MI} {k n pc : Nat} {lv : List (Nat × Value)} {st : List Value} {h : Hp} {i : Nat} {z : Int} {x v : Int32} {lv' : List (Nat × Value)} (hC : CxOK C μ) (hd : decode μ.2.1 pc = .ok (.iinc i z, 3)) (j : Nat) (hj : lv[j]? = some (i, .int x)) (hv : x + Int32.ofInt z = v) (hn : i < μ.2.2.1) (ks : List Nat) (hp : lv_pick (ls1 lv i (.int v)) ks = lv') (kk : WW C μ k n (pc + 3) lv' st h) : WW C μ k n pc lv st h := by
  obtain ⟨p, l, e, R, s, m, args, below, meth, c, D, g, A, ad0, n0, Qf⟩ := C
  obtain ⟨hx, hb, hml, hown, hts, hr, hlk, hK, hA, hl9, hN, hT, hZ⟩ := hC
  intro ad H locs ls hW hlv hst hl
  refine lv_iinc hx hb hd hl (k := j) (by rw [List.getElem?_map, hj]; rfl) hv hn rfl (fun ls2 hl2 => kk ad H locs ls2 hW (fun q hq => ?_) hst ?_)
  · rw [← hp] at hq
    rcases ls1_mem (pick_mem hq) with rfl | hq
    · trivial
    · exact hlv q hq
  · rw [← hp, ← pick_map]
    exact lv_sub hl2 ks (by rw [← ls1_cv]; rfl)

theorem w_drop {C : Ctx} {μ : MI} {k n pc : Nat} {lv : List (Nat × Value)} {st : List Value} {h : Hp} {lv' : List (Nat × Value)} (ks : List Nat) (hp : lv_pick lv ks = lv') (kk : WW C μ k n pc lv' st h) : WW C μ k n pc lv st h := by
  obtain ⟨p, l, e, R, s, m, args, below, meth, c, D, g, A, ad0, n0, Qf⟩ := C
  intro ad H locs ls hW hlv hst hl
  refine kk ad H locs ls hW (fun q hq => hlv q (by rw [← hp] at hq; exact pick_mem hq)) hst ?_
  rw [← hp, ← pick_map]
  exact lv_sub hl ks rfl

theorem w_iadd {C : Ctx} {μ : MI} {k n pc : Nat} {lv : List (Nat × Value)} {st : List Value} {h : Hp} {x y : Int32} (hC : CxOK C μ) (hd : decode μ.2.1 pc = .ok (.iadd, 1)) (kk : WW C μ k n (pc + 1) lv (.int (x + y) :: st) h) : WW C μ k n pc lv (.int y :: .int x :: st) h := by
  obtain ⟨p, l, e, R, s, m, args, below, meth, c, D, g, A, ad0, n0, Qf⟩ := C
  obtain ⟨hx, hb, hml, hown, hts, hr, hlk, hK, hA, hl9, hN, hT, hZ⟩ := hC
  intro ad H locs ls hW hlv hst hl
  exact lv_iadd hx hb hd (kk ad H locs ls hW hlv (fun v hv => (List.mem_cons.mp hv).elim (fun q => by rw [q]; trivial) (fun hv => hst v (List.mem_cons_of_mem _ (List.mem_cons_of_mem _ (hv))))) hl)

theorem w_isub {C : Ctx} {μ : MI} {k n pc : Nat} {lv : List (Nat × Value)} {st : List Value} {h : Hp} {x y : Int32} (hC : CxOK C μ) (hd : decode μ.2.1 pc = .ok (.isub, 1)) (kk : WW C μ k n (pc + 1) lv (.int (x - y) :: st) h) : WW C μ k n pc lv (.int y :: .int x :: st) h := by
  obtain ⟨p, l, e, R, s, m, args, below, meth, c, D, g, A, ad0, n0, Qf⟩ := C
  obtain ⟨hx, hb, hml, hown, hts, hr, hlk, hK, hA, hl9, hN, hT, hZ⟩ := hC
  intro ad H locs ls hW hlv hst hl
  exact lv_isub hx hb hd (kk ad H locs ls hW hlv (fun v hv => (List.mem_cons.mp hv).elim (fun q => by rw [q]; trivial) (fun hv => hst v (List.mem_cons_of_mem _ (List.mem_cons_of_mem _ (hv))))) hl)

theorem w_imul {C : Ctx} {μ : MI} {k n pc : Nat} {lv : List (Nat × Value)} {st : List Value} {h : Hp} {x y : Int32} (hC : CxOK C μ) (hd : decode μ.2.1 pc = .ok (.imul, 1)) (kk : WW C μ k n (pc + 1) lv (.int (x * y) :: st) h) : WW C μ k n pc lv (.int y :: .int x :: st) h := by
  obtain ⟨p, l, e, R, s, m, args, below, meth, c, D, g, A, ad0, n0, Qf⟩ := C
  obtain ⟨hx, hb, hml, hown, hts, hr, hlk, hK, hA, hl9, hN, hT, hZ⟩ := hC
  intro ad H locs ls hW hlv hst hl
  exact lv_imul hx hb hd (kk ad H locs ls hW hlv (fun v hv => (List.mem_cons.mp hv).elim (fun q => by rw [q]; trivial) (fun hv => hst v (List.mem_cons_of_mem _ (List.mem_cons_of_mem _ (hv))))) hl)

theorem w_iand {C : Ctx} {μ : MI} {k n pc : Nat} {lv : List (Nat × Value)} {st : List Value} {h : Hp} {x y : Int32} (hC : CxOK C μ) (hd : decode μ.2.1 pc = .ok (.iand, 1)) (kk : WW C μ k n (pc + 1) lv (.int (x &&& y) :: st) h) : WW C μ k n pc lv (.int y :: .int x :: st) h := by
  obtain ⟨p, l, e, R, s, m, args, below, meth, c, D, g, A, ad0, n0, Qf⟩ := C
  obtain ⟨hx, hb, hml, hown, hts, hr, hlk, hK, hA, hl9, hN, hT, hZ⟩ := hC
  intro ad H locs ls hW hlv hst hl
  exact lv_iand hx hb hd (kk ad H locs ls hW hlv (fun v hv => (List.mem_cons.mp hv).elim (fun q => by rw [q]; trivial) (fun hv => hst v (List.mem_cons_of_mem _ (List.mem_cons_of_mem _ (hv))))) hl)

theorem w_ior {C : Ctx} {μ : MI} {k n pc : Nat} {lv : List (Nat × Value)} {st : List Value} {h : Hp} {x y : Int32} (hC : CxOK C μ) (hd : decode μ.2.1 pc = .ok (.ior, 1)) (kk : WW C μ k n (pc + 1) lv (.int (x ||| y) :: st) h) : WW C μ k n pc lv (.int y :: .int x :: st) h := by
  obtain ⟨p, l, e, R, s, m, args, below, meth, c, D, g, A, ad0, n0, Qf⟩ := C
  obtain ⟨hx, hb, hml, hown, hts, hr, hlk, hK, hA, hl9, hN, hT, hZ⟩ := hC
  intro ad H locs ls hW hlv hst hl
  exact lv_ior hx hb hd (kk ad H locs ls hW hlv (fun v hv => (List.mem_cons.mp hv).elim (fun q => by rw [q]; trivial) (fun hv => hst v (List.mem_cons_of_mem _ (List.mem_cons_of_mem _ (hv))))) hl)

theorem w_ixor {C : Ctx} {μ : MI} {k n pc : Nat} {lv : List (Nat × Value)} {st : List Value} {h : Hp} {x y : Int32} (hC : CxOK C μ) (hd : decode μ.2.1 pc = .ok (.ixor, 1)) (kk : WW C μ k n (pc + 1) lv (.int (x ^^^ y) :: st) h) : WW C μ k n pc lv (.int y :: .int x :: st) h := by
  obtain ⟨p, l, e, R, s, m, args, below, meth, c, D, g, A, ad0, n0, Qf⟩ := C
  obtain ⟨hx, hb, hml, hown, hts, hr, hlk, hK, hA, hl9, hN, hT, hZ⟩ := hC
  intro ad H locs ls hW hlv hst hl
  exact lv_ixor hx hb hd (kk ad H locs ls hW hlv (fun v hv => (List.mem_cons.mp hv).elim (fun q => by rw [q]; trivial) (fun hv => hst v (List.mem_cons_of_mem _ (List.mem_cons_of_mem _ (hv))))) hl)

theorem w_ladd {C : Ctx} {μ : MI} {k n pc : Nat} {lv : List (Nat × Value)} {st : List Value} {h : Hp} {x y : Int64} (hC : CxOK C μ) (hd : decode μ.2.1 pc = .ok (.ladd, 1)) (kk : WW C μ k n (pc + 1) lv (.long (x + y) :: st) h) : WW C μ k n pc lv (.long y :: .long x :: st) h := by
  obtain ⟨p, l, e, R, s, m, args, below, meth, c, D, g, A, ad0, n0, Qf⟩ := C
  obtain ⟨hx, hb, hml, hown, hts, hr, hlk, hK, hA, hl9, hN, hT, hZ⟩ := hC
  intro ad H locs ls hW hlv hst hl
  exact lv_ladd hx hb hd (kk ad H locs ls hW hlv (fun v hv => (List.mem_cons.mp hv).elim (fun q => by rw [q]; trivial) (fun hv => hst v (List.mem_cons_of_mem _ (List.mem_cons_of_mem _ (hv))))) hl)

theorem w_lsub {C : Ctx} {μ : MI} {k n pc : Nat} {lv : List (Nat × Value)} {st : List Value} {h : Hp} {x y : Int64} (hC : CxOK C μ) (hd : decode μ.2.1 pc = .ok (.lsub, 1)) (kk : WW C μ k n (pc + 1) lv (.long (x - y) :: st) h) : WW C μ k n pc lv (.long y :: .long x :: st) h := by
  obtain ⟨p, l, e, R, s, m, args, below, meth, c, D, g, A, ad0, n0, Qf⟩ := C
  obtain ⟨hx, hb, hml, hown, hts, hr, hlk, hK, hA, hl9, hN, hT, hZ⟩ := hC
  intro ad H locs ls hW hlv hst hl
  exact lv_lsub hx hb hd (kk ad H locs ls hW hlv (fun v hv => (List.mem_cons.mp hv).elim (fun q => by rw [q]; trivial) (fun hv => hst v (List.mem_cons_of_mem _ (List.mem_cons_of_mem _ (hv))))) hl)

theorem w_lmul {C : Ctx} {μ : MI} {k n pc : Nat} {lv : List (Nat × Value)} {st : List Value} {h : Hp} {x y : Int64} (hC : CxOK C μ) (hd : decode μ.2.1 pc = .ok (.lmul, 1)) (kk : WW C μ k n (pc + 1) lv (.long (x * y) :: st) h) : WW C μ k n pc lv (.long y :: .long x :: st) h := by
  obtain ⟨p, l, e, R, s, m, args, below, meth, c, D, g, A, ad0, n0, Qf⟩ := C
  obtain ⟨hx, hb, hml, hown, hts, hr, hlk, hK, hA, hl9, hN, hT, hZ⟩ := hC
  intro ad H locs ls hW hlv hst hl
  exact lv_lmul hx hb hd (kk ad H locs ls hW hlv (fun v hv => (List.mem_cons.mp hv).elim (fun q => by rw [q]; trivial) (fun hv => hst v (List.mem_cons_of_mem _ (List.mem_cons_of_mem _ (hv))))) hl)

theorem w_land {C : Ctx} {μ : MI} {k n pc : Nat} {lv : List (Nat × Value)} {st : List Value} {h : Hp} {x y : Int64} (hC : CxOK C μ) (hd : decode μ.2.1 pc = .ok (.land, 1)) (kk : WW C μ k n (pc + 1) lv (.long (x &&& y) :: st) h) : WW C μ k n pc lv (.long y :: .long x :: st) h := by
  obtain ⟨p, l, e, R, s, m, args, below, meth, c, D, g, A, ad0, n0, Qf⟩ := C
  obtain ⟨hx, hb, hml, hown, hts, hr, hlk, hK, hA, hl9, hN, hT, hZ⟩ := hC
  intro ad H locs ls hW hlv hst hl
  exact lv_land hx hb hd (kk ad H locs ls hW hlv (fun v hv => (List.mem_cons.mp hv).elim (fun q => by rw [q]; trivial) (fun hv => hst v (List.mem_cons_of_mem _ (List.mem_cons_of_mem _ (hv))))) hl)

theorem w_lor {C : Ctx} {μ : MI} {k n pc : Nat} {lv : List (Nat × Value)} {st : List Value} {h : Hp} {x y : Int64} (hC : CxOK C μ) (hd : decode μ.2.1 pc = .ok (.lor, 1)) (kk : WW C μ k n (pc + 1) lv (.long (x ||| y) :: st) h) : WW C μ k n pc lv (.long y :: .long x :: st) h := by
  obtain ⟨p, l, e, R, s, m, args, below, meth, c, D, g, A, ad0, n0, Qf⟩ := C
  obtain ⟨hx, hb, hml, hown, hts, hr, hlk, hK, hA, hl9, hN, hT, hZ⟩ := hC
  intro ad H locs ls hW hlv hst hl
  exact lv_lor hx hb hd (kk ad H locs ls hW hlv (fun v hv => (List.mem_cons.mp hv).elim (fun q => by rw [q]; trivial) (fun hv => hst v (List.mem_cons_of_mem _ (List.mem_cons_of_mem _ (hv))))) hl)

theorem w_lxor {C : Ctx} {μ : MI} {k n pc : Nat} {lv : List (Nat × Value)} {st : List Value} {h : Hp} {x y : Int64} (hC : CxOK C μ) (hd : decode μ.2.1 pc = .ok (.lxor, 1)) (kk : WW C μ k n (pc + 1) lv (.long (x ^^^ y) :: st) h) : WW C μ k n pc lv (.long y :: .long x :: st) h := by
  obtain ⟨p, l, e, R, s, m, args, below, meth, c, D, g, A, ad0, n0, Qf⟩ := C
  obtain ⟨hx, hb, hml, hown, hts, hr, hlk, hK, hA, hl9, hN, hT, hZ⟩ := hC
  intro ad H locs ls hW hlv hst hl
  exact lv_lxor hx hb hd (kk ad H locs ls hW hlv (fun v hv => (List.mem_cons.mp hv).elim (fun q => by rw [q]; trivial) (fun hv => hst v (List.mem_cons_of_mem _ (List.mem_cons_of_mem _ (hv))))) hl)

theorem w_ishl {C : Ctx} {μ : MI} {k n pc : Nat} {lv : List (Nat × Value)} {st : List Value} {h : Hp} {x y : Int32} (hC : CxOK C μ) (hd : decode μ.2.1 pc = .ok (.ishl, 1)) (kk : WW C μ k n (pc + 1) lv (.int (x <<< (y &&& 31)) :: st) h) : WW C μ k n pc lv (.int y :: .int x :: st) h := by
  obtain ⟨p, l, e, R, s, m, args, below, meth, c, D, g, A, ad0, n0, Qf⟩ := C
  obtain ⟨hx, hb, hml, hown, hts, hr, hlk, hK, hA, hl9, hN, hT, hZ⟩ := hC
  intro ad H locs ls hW hlv hst hl
  exact lv_ishl hx hb hd (kk ad H locs ls hW hlv (fun v hv => (List.mem_cons.mp hv).elim (fun q => by rw [q]; trivial) (fun hv => hst v (List.mem_cons_of_mem _ (List.mem_cons_of_mem _ (hv))))) hl)

theorem w_ishr {C : Ctx} {μ : MI} {k n pc : Nat} {lv : List (Nat × Value)} {st : List Value} {h : Hp} {x y : Int32} (hC : CxOK C μ) (hd : decode μ.2.1 pc = .ok (.ishr, 1)) (kk : WW C μ k n (pc + 1) lv (.int (x >>> (y &&& 31)) :: st) h) : WW C μ k n pc lv (.int y :: .int x :: st) h := by
  obtain ⟨p, l, e, R, s, m, args, below, meth, c, D, g, A, ad0, n0, Qf⟩ := C
  obtain ⟨hx, hb, hml, hown, hts, hr, hlk, hK, hA, hl9, hN, hT, hZ⟩ := hC
  intro ad H locs ls hW hlv hst hl
  exact lv_ishr hx hb hd (kk ad H locs ls hW hlv (fun v hv => (List.mem_cons.mp hv).elim (fun q => by rw [q]; trivial) (fun hv => hst v (List.mem_cons_of_mem _ (List.mem_cons_of_mem _ (hv))))) hl)

theorem w_idiv {C : Ctx} {μ : MI} {k n pc : Nat} {lv : List (Nat × Value)} {st : List Value} {h : Hp} {x y : Int32} (hC : CxOK C μ) (hd : decode μ.2.1 pc = .ok (.idiv, 1)) (hne : ¬ y = 0) (kk : WW C μ k n (pc + 1) lv (.int (x / y) :: st) h) : WW C μ k n pc lv (.int y :: .int x :: st) h := by
  obtain ⟨p, l, e, R, s, m, args, below, meth, c, D, g, A, ad0, n0, Qf⟩ := C
  obtain ⟨hx, hb, hml, hown, hts, hr, hlk, hK, hA, hl9, hN, hT, hZ⟩ := hC
  intro ad H locs ls hW hlv hst hl
  exact lv_idiv hx hb hd hne (kk ad H locs ls hW hlv (fun v hv => (List.mem_cons.mp hv).elim (fun q => by rw [q]; trivial) (fun hv => hst v (List.mem_cons_of_mem _ (List.mem_cons_of_mem _ (hv))))) hl)

theorem w_irem {C : Ctx} {μ : MI} {k n pc : Nat} {lv : List (Nat × Value)} {st : List Value} {h : Hp} {x y : Int32} (hC : CxOK C μ) (hd : decode μ.2.1 pc = .ok (.irem, 1)) (hne : ¬ y = 0) (kk : WW C μ k n (pc + 1) lv (.int (x - x / y * y) :: st) h) : WW C μ k n pc lv (.int y :: .int x :: st) h := by
  obtain ⟨p, l, e, R, s, m, args, below, meth, c, D, g, A, ad0, n0, Qf⟩ := C
  obtain ⟨hx, hb, hml, hown, hts, hr, hlk, hK, hA, hl9, hN, hT, hZ⟩ := hC
  intro ad H locs ls hW hlv hst hl
  exact lv_irem hx hb hd hne (kk ad H locs ls hW hlv (fun v hv => (List.mem_cons.mp hv).elim (fun q => by rw [q]; trivial) (fun hv => hst v (List.mem_cons_of_mem _ (List.mem_cons_of_mem _ (hv))))) hl)

theorem w_ldiv {C : Ctx} {μ : MI} {k n pc : Nat} {lv : List (Nat × Value)} {st : List Value} {h : Hp} {x y : Int64} (hC : CxOK C μ) (hd : decode μ.2.1 pc = .ok (.ldiv, 1)) (hne : ¬ y = 0) (kk : WW C μ k n (pc + 1) lv (.long (x / y) :: st) h) : WW C μ k n pc lv (.long y :: .long x :: st) h := by
  obtain ⟨p, l, e, R, s, m, args, below, meth, c, D, g, A, ad0, n0, Qf⟩ := C
  obtain ⟨hx, hb, hml, hown, hts, hr, hlk, hK, hA, hl9, hN, hT, hZ⟩ := hC
  intro ad H locs ls hW hlv hst hl
  exact lv_ldiv hx hb hd hne (kk ad H locs ls hW hlv (fun v hv => (List.mem_cons.mp hv).elim (fun q => by rw [q]; trivial) (fun hv => hst v (List.mem_cons_of_mem _ (List.mem_cons_of_mem _ (hv))))) hl)

theorem w_lrem {C : Ctx} {μ : MI} {k n pc : Nat} {lv : List (Nat × Value)} {st : List Value} {h : Hp} {x y : Int64} (hC : CxOK C μ) (hd : decode μ.2.1 pc = .ok (.lrem, 1)) (hne : ¬ y = 0) (kk : WW C μ k n (pc + 1) lv (.long (x - x / y * y) :: st) h) : WW C μ k n pc lv (.long y :: .long x :: st) h := by
  obtain ⟨p, l, e, R, s, m, args, below, meth, c, D, g, A, ad0, n0, Qf⟩ := C
  obtain ⟨hx, hb, hml, hown, hts, hr, hlk, hK, hA, hl9, hN, hT, hZ⟩ := hC
  intro ad H locs ls hW hlv hst hl
  exact lv_lrem hx hb hd hne (kk ad H locs ls hW hlv (fun v hv => (List.mem_cons.mp hv).elim (fun q => by rw [q]; trivial) (fun hv => hst v (List.mem_cons_of_mem _ (List.mem_cons_of_mem _ (hv))))) hl)

theorem w_lshl {C : Ctx} {μ : MI} {k n pc : Nat} {lv : List (Nat × Value)} {st : List Value} {h : Hp} {x : Int64} {y : Int32} (hC : CxOK C μ) (hd : decode μ.2.1 pc = .ok (.lshl, 1)) (kk : WW C μ k n (pc + 1) lv (.long (x <<< (y.toInt64 &&& 63)) :: st) h) : WW C μ k n pc lv (.int y :: .long x :: st) h := by
  obtain ⟨p, l, e, R, s, m, args, below, meth, c, D, g, A, ad0, n0, Qf⟩ := C
  obtain ⟨hx, hb, hml, hown, hts, hr, hlk, hK, hA, hl9, hN, hT, hZ⟩ := hC
  intro ad H locs ls hW hlv hst hl
  exact lv_lshl hx hb hd rfl (kk ad H locs ls hW hlv (fun v hv => (List.mem_cons.mp hv).elim (fun q => by rw [q]; trivial) (fun hv => hst v (List.mem_cons_of_mem _ (List.mem_cons_of_mem _ (hv))))) hl)

theorem w_lshr {C : Ctx} {μ : MI} {k n pc : Nat} {lv : List (Nat × Value)} {st : List Value} {h : Hp} {x : Int64} {y : Int32} (hC : CxOK C μ) (hd : decode μ.2.1 pc = .ok (.lshr, 1)) (kk : WW C μ k n (pc + 1) lv (.long (x >>> (y.toInt64 &&& 63)) :: st) h) : WW C μ k n pc lv (.int y :: .long x :: st) h := by
  obtain ⟨p, l, e, R, s, m, args, below, meth, c, D, g, A, ad0, n0, Qf⟩ := C
  obtain ⟨hx, hb, hml, hown, hts, hr, hlk, hK, hA, hl9, hN, hT, hZ⟩ := hC
  intro ad H locs ls hW hlv hst hl
  exact lv_lshr hx hb hd rfl (kk ad H locs ls hW hlv (fun v hv => (List.mem_cons.mp hv).elim (fun q => by rw [q]; trivial) (fun hv => hst v (List.mem_cons_of_mem _ (List.mem_cons_of_mem _ (hv))))) hl)

theorem w_lushr {C : Ctx} {μ : MI} {k n pc : Nat} {lv : List (Nat × Value)} {st : List Value} {h : Hp} {x : Int64} {y : Int32} (hC : CxOK C μ) (hd : decode μ.2.1 pc = .ok (.lushr, 1)) (kk : WW C μ k n (pc + 1) lv (.long ((x.toUInt64 >>> (y.toInt64.toUInt64 &&& Int64.toUInt64 63)).toInt64) :: st) h) : WW C μ k n pc lv (.int y :: .long x :: st) h := by
  obtain ⟨p, l, e, R, s, m, args, below, meth, c, D, g, A, ad0, n0, Qf⟩ := C
  obtain ⟨hx, hb, hml, hown, hts, hr, hlk, hK, hA, hl9, hN, hT, hZ⟩ := hC
  intro ad H locs ls hW hlv hst hl
  exact lv_lushr hx hb hd rfl (kk ad H locs ls hW hlv (fun v hv => (List.mem_cons.mp hv).elim (fun q => by rw [q]; trivial) (fun hv => hst v (List.mem_cons_of_mem _ (List.mem_cons_of_mem _ (hv))))) hl)

theorem w_iushr {C : Ctx} {μ : MI} {k n pc : Nat} {lv : List (Nat × Value)} {st : List Value} {h : Hp} {x y : Int32} (hC : CxOK C μ) (hd : decode μ.2.1 pc = .ok (.iushr, 1)) (kk : WW C μ k n (pc + 1) lv (.int ((x.toUInt32 >>> (y.toUInt32 &&& Int32.toUInt32 31)).toInt32) :: st) h) : WW C μ k n pc lv (.int y :: .int x :: st) h := by
  obtain ⟨p, l, e, R, s, m, args, below, meth, c, D, g, A, ad0, n0, Qf⟩ := C
  obtain ⟨hx, hb, hml, hown, hts, hr, hlk, hK, hA, hl9, hN, hT, hZ⟩ := hC
  intro ad H locs ls hW hlv hst hl
  exact lv_iushr hx hb hd rfl (kk ad H locs ls hW hlv (fun v hv => (List.mem_cons.mp hv).elim (fun q => by rw [q]; trivial) (fun hv => hst v (List.mem_cons_of_mem _ (List.mem_cons_of_mem _ (hv))))) hl)

theorem w_i2l {C : Ctx} {μ : MI} {k n pc : Nat} {lv : List (Nat × Value)} {st : List Value} {h : Hp} {x : Int32} (hC : CxOK C μ) (hd : decode μ.2.1 pc = .ok (.i2l, 1)) (kk : WW C μ k n (pc + 1) lv (.long (x.toInt64) :: st) h) : WW C μ k n pc lv (.int x :: st) h := by
  obtain ⟨p, l, e, R, s, m, args, below, meth, c, D, g, A, ad0, n0, Qf⟩ := C
  obtain ⟨hx, hb, hml, hown, hts, hr, hlk, hK, hA, hl9, hN, hT, hZ⟩ := hC
  intro ad H locs ls hW hlv hst hl
  exact lv_i2l hx hb hd rfl (kk ad H locs ls hW hlv (fun v hv => (List.mem_cons.mp hv).elim (fun q => by rw [q]; trivial) (fun hv => hst v (List.mem_cons_of_mem _ (hv)))) hl)

theorem w_l2i {C : Ctx} {μ : MI} {k n pc : Nat} {lv : List (Nat × Value)} {st : List Value} {h : Hp} {x : Int64} (hC : CxOK C μ) (hd : decode μ.2.1 pc = .ok (.l2i, 1)) (kk : WW C μ k n (pc + 1) lv (.int (x.toInt32) :: st) h) : WW C μ k n pc lv (.long x :: st) h := by
  obtain ⟨p, l, e, R, s, m, args, below, meth, c, D, g, A, ad0, n0, Qf⟩ := C
  obtain ⟨hx, hb, hml, hown, hts, hr, hlk, hK, hA, hl9, hN, hT, hZ⟩ := hC
  intro ad H locs ls hW hlv hst hl
  exact lv_l2i hx hb hd rfl (kk ad H locs ls hW hlv (fun v hv => (List.mem_cons.mp hv).elim (fun q => by rw [q]; trivial) (fun hv => hst v (List.mem_cons_of_mem _ (hv)))) hl)

theorem w_i2b {C : Ctx} {μ : MI} {k n pc : Nat} {lv : List (Nat × Value)} {st : List Value} {h : Hp} {x : Int32} (hC : CxOK C μ) (hd : decode μ.2.1 pc = .ok (.i2b, 1)) (kk : WW C μ k n (pc + 1) lv (.int (x.toInt8.toInt32) :: st) h) : WW C μ k n pc lv (.int x :: st) h := by
  obtain ⟨p, l, e, R, s, m, args, below, meth, c, D, g, A, ad0, n0, Qf⟩ := C
  obtain ⟨hx, hb, hml, hown, hts, hr, hlk, hK, hA, hl9, hN, hT, hZ⟩ := hC
  intro ad H locs ls hW hlv hst hl
  exact lv_i2b hx hb hd rfl (kk ad H locs ls hW hlv (fun v hv => (List.mem_cons.mp hv).elim (fun q => by rw [q]; trivial) (fun hv => hst v (List.mem_cons_of_mem _ (hv)))) hl)

theorem w_i2s {C : Ctx} {μ : MI} {k n pc : Nat} {lv : List (Nat × Value)} {st : List Value} {h : Hp} {x : Int32} (hC : CxOK C μ) (hd : decode μ.2.1 pc = .ok (.i2s, 1)) (kk : WW C μ k n (pc + 1) lv (.int (x.toInt16.toInt32) :: st) h) : WW C μ k n pc lv (.int x :: st) h := by
  obtain ⟨p, l, e, R, s, m, args, below, meth, c, D, g, A, ad0, n0, Qf⟩ := C
  obtain ⟨hx, hb, hml, hown, hts, hr, hlk, hK, hA, hl9, hN, hT, hZ⟩ := hC
  intro ad H locs ls hW hlv hst hl
  exact lv_i2s hx hb hd rfl (kk ad H locs ls hW hlv (fun v hv => (List.mem_cons.mp hv).elim (fun q => by rw [q]; trivial) (fun hv => hst v (List.mem_cons_of_mem _ (hv)))) hl)

theorem w_ineg {C : Ctx} {μ : MI} {k n pc : Nat} {lv : List (Nat × Value)} {st : List Value} {h : Hp} {x : Int32} (hC : CxOK C μ) (hd : decode μ.2.1 pc = .ok (.ineg, 1)) (kk : WW C μ k n (pc + 1) lv (.int (-x) :: st) h) : WW C μ k n pc lv (.int x :: st) h := by
  obtain ⟨p, l, e, R, s, m, args, below, meth, c, D, g, A, ad0, n0, Qf⟩ := C
  obtain ⟨hx, hb, hml, hown, hts, hr, hlk, hK, hA, hl9, hN, hT, hZ⟩ := hC
  intro ad H locs ls hW hlv hst hl
  exact lv_ineg hx hb hd (kk ad H locs ls hW hlv (fun v hv => (List.mem_cons.mp hv).elim (fun q => by rw [q]; trivial) (fun hv => hst v (List.mem_cons_of_mem _ (hv)))) hl)

theorem w_lcmp {C : Ctx} {μ : MI} {k n pc : Nat} {lv : List (Nat × Value)} {st : List Value} {h : Hp} {x y : Int64} (hC : CxOK C μ) (hd : decode μ.2.1 pc = .ok (.lcmp, 1)) (kk : WW C μ k n (pc + 1) lv (.int (lg_cmp x y) :: st) h) : WW C μ k n pc lv (.long y :: .long x :: st) h := by
  obtain ⟨p, l, e, R, s, m, args, below, meth, c, D, g, A, ad0, n0, Qf⟩ := C
  obtain ⟨hx, hb, hml, hown, hts, hr, hlk, hK, hA, hl9, hN, hT, hZ⟩ := hC
  intro ad H locs ls hW hlv hst hl
  exact W.lcmp hx hb hd (kk ad H locs ls hW hlv (fun v hv => (List.mem_cons.mp hv).elim (fun q => by rw [q]; trivial) (fun hv => hst v (List.mem_cons_of_mem _ (List.mem_cons_of_mem _ (hv))))) hl)

theorem w_dup {C : Ctx} {μ : MI} {k n pc : Nat} {lv : List (Nat × Value)} {st : List Value} {h : Hp} {a : Value} (hC : CxOK C μ) (hd : decode μ.2.1 pc = .ok (.dup, 1)) (hc : a.category = 1) (kk : WW C μ k n (pc + 1) lv (a :: a :: st) h) : WW C μ k n pc lv (a :: st) h := by
  obtain ⟨p, l, e, R, s, m, args, below, meth, c, D, g, A, ad0, n0, Qf⟩ := C
  obtain ⟨hx, hb, hml, hown, hts, hr, hlk, hK, hA, hl9, hN, hT, hZ⟩ := hC
  intro ad H locs ls hW hlv hst hl
  exact lv_dup hx hb hd (by rw [cv_cat]; exact hc) (kk ad H locs ls hW hlv (fun v hv => (List.mem_cons.mp hv).elim (fun q => hst v (by rw [q]; exact List.mem_cons_self)) (fun hv => hst v hv)) hl)

theorem w_pop {C : Ctx} {μ : MI} {k n pc : Nat} {lv : List (Nat × Value)} {st : List Value} {h : Hp} {a : Value} (hC : CxOK C μ) (hd : decode μ.2.1 pc = .ok (.pop, 1)) (hc : a.category = 1) (kk : WW C μ k n (pc + 1) lv st h) : WW C μ k n pc lv (a :: st) h := by
  obtain ⟨p, l, e, R, s, m, args, below, meth, c, D, g, A, ad0, n0, Qf⟩ := C
  obtain ⟨hx, hb, hml, hown, hts, hr, hlk, hK, hA, hl9, hN, hT, hZ⟩ := hC
  intro ad H locs ls hW hlv hst hl
  exact lv_pop hx hb hd (by rw [cv_cat]; exact hc) (kk ad H locs ls hW hlv (fun v hv => hst v (List.mem_cons_of_mem _ (hv))) hl)

theorem w_dup_x1 {C : Ctx} {μ : MI} {k n pc : Nat} {lv : List (Nat × Value)} {st : List Value} {h : Hp} {a b : Value} (hC : CxOK C μ) (hd : decode μ.2.1 pc = .ok (.dup_x1, 1)) (hc : a.category = 1) (hc2 : b.category = 1) (kk : WW C μ k n (pc + 1) lv (a :: b :: a :: st) h) : WW C μ k n pc lv (a :: b :: st) h := by
  obtain ⟨p, l, e, R, s, m, args, below, meth, c, D, g, A, ad0, n0, Qf⟩ := C
  obtain ⟨hx, hb, hml, hown, hts, hr, hlk, hK, hA, hl9, hN, hT, hZ⟩ := hC
  intro ad H locs ls hW hlv hst hl
  exact lv_dup_x1 hx hb hd (by rw [cv_cat]; exact hc) (by rw [cv_cat]; exact hc2) (kk ad H locs ls hW hlv (fun v hv => by simp only [List.mem_cons] at hv; rcases hv with q | q | q | q <;> exact hst v (by simp [q])) hl)

theorem w_dup2 {C : Ctx} {μ : MI} {k n pc : Nat} {lv : List (Nat × Value)} {st : List Value} {h : Hp} {a b : Value} (hC : CxOK C μ) (hd : decode μ.2.1 pc = .ok (.dup2, 1)) (hc : a.category = 1) (hc2 : b.category = 1) (kk : WW C μ k n (pc + 1) lv (a :: b :: a :: b :: st) h) : WW C μ k n pc lv (a :: b :: st) h := by
  obtain ⟨p, l, e, R, s, m, args, below, meth, c, D, g, A, ad0, n0, Qf⟩ := C
  obtain ⟨hx, hb, hml, hown, hts, hr, hlk, hK, hA, hl9, hN, hT, hZ⟩ := hC
  intro ad H locs ls hW hlv hst hl
  exact lv_dup2_11 hx hb hd (by rw [cv_cat]; exact hc) (by rw [cv_cat]; exact hc2) (kk ad H locs ls hW hlv (fun v hv => by simp only [List.mem_cons] at hv; rcases hv with q | q | q | q | q <;> exact hst v (by simp [q])) hl)

theorem w_if_eq {C : Ctx} {μ : MI} {k n pc : Nat} {lv : List (Nat × Value)} {st : List Value} {h : Hp} {x : Int32} {off : Int} {tgt : Nat} (hC : CxOK C μ) (hd : decode μ.2.1 pc = .ok (.ifCond .eq off, 3)) (ht : (pc : Int) + off = (tgt : Int)) (kt : x = 0 → WW C μ k n tgt lv st h) (kf : ¬ x = 0 → WW C μ k n (pc + 3) lv st h) : WW C μ k n pc lv (.int x :: st) h := by
  obtain ⟨p, l, e, R, s, m, args, below, meth, c, D, g, A, ad0, n0, Qf⟩ := C
  obtain ⟨hx, hb, hml, hown, hts, hr, hlk, hK, hA, hl9, hN, hT, hZ⟩ := hC
  intro ad H locs ls hW hlv hst hl
  exact lv_if_eq hx hb hd ht (fun q => kt q ad H locs ls hW hlv (fun v hv => hst v (List.mem_cons_of_mem _ (hv))) hl) (fun q => kf q ad H locs ls hW hlv (fun v hv => hst v (List.mem_cons_of_mem _ (hv))) hl)

theorem w_icmp_eq {C : Ctx} {μ : MI} {k n pc : Nat} {lv : List (Nat × Value)} {st : List Value} {h : Hp} {x y : Int32} {off : Int} {tgt : Nat} (hC : CxOK C μ) (hd : decode μ.2.1 pc = .ok (.if_icmp .eq off, 3)) (ht : (pc : Int) + off = (tgt : Int)) (kt : x = y → WW C μ k n tgt lv st h) (kf : ¬ x = y → WW C μ k n (pc + 3) lv st h) : WW C μ k n pc lv (.int y :: .int x :: st) h := by
  obtain ⟨p, l, e, R, s, m, args, below, meth, c, D, g, A, ad0, n0, Qf⟩ := C
  obtain ⟨hx, hb, hml, hown, hts, hr, hlk, hK, hA, hl9, hN, hT, hZ⟩ := hC
  intro ad H locs ls hW hlv hst hl
  exact lv_icmp_eq hx hb hd ht (fun q => kt q ad H locs ls hW hlv (fun v hv => hst v (List.mem_cons_of_mem _ (List.mem_cons_of_mem _ (hv)))) hl) (fun q => kf q ad H locs ls hW hlv (fun v hv => hst v (List.mem_cons_of_mem _ (List.mem_cons_of_mem _ (hv)))) hl)

theorem w_if_ne {C : Ctx} {μ : MI} {k n pc : Nat} {lv : List (Nat × Value)} {st : List Value} {h : Hp} {x : Int32} {off : Int} {tgt : Nat} (hC : CxOK C μ) (hd : decode μ.2.1 pc = .ok (.ifCond .ne off, 3)) (ht : (pc : Int) + off = (tgt : Int)) (kt : ¬ x = 0 → WW C μ k n tgt lv st h) (kf : x = 0 → WW C μ k n (pc + 3) lv st h) : WW C μ k n pc lv (.int x :: st) h := by
  obtain ⟨p, l, e, R, s, m, args, below, meth, c, D, g, A, ad0, n0, Qf⟩ := C
  obtain ⟨hx, hb, hml, hown, hts, hr, hlk, hK, hA, hl9, hN, hT, hZ⟩ := hC
  intro ad H locs ls hW hlv hst hl
  exact lv_if_ne hx hb hd ht (fun q => kt q ad H locs ls hW hlv (fun v hv => hst v (List.mem_cons_of_mem _ (hv))) hl) (fun q => kf q ad H locs ls hW hlv (fun v hv => hst v (List.mem_cons_of_mem _ (hv))) hl)

theorem w_icmp_ne {C : Ctx} {μ : MI} {k n pc : Nat} {lv : List (Nat × Value)} {st : List Value} {h : Hp} {x y : Int32} {off : Int} {tgt : Nat} (hC : CxOK C μ) (hd : decode μ.2.1 pc = .ok (.if_icmp .ne off, 3)) (ht : (pc : Int) + off = (tgt : Int)) (kt : ¬ x = y → WW C μ k n tgt lv st h) (kf : x = y → WW C μ k n (pc + 3) lv st h) : WW C μ k n pc lv (.int y :: .int x :: st) h := by
  obtain ⟨p, l, e, R, s, m, args, below, meth, c, D, g, A, ad0, n0, Qf⟩ := C
  obtain ⟨hx, hb, hml, hown, hts, hr, hlk, hK, hA, hl9, hN, hT, hZ⟩ := hC
  intro ad H locs ls hW hlv hst hl
  exact lv_icmp_ne hx hb hd ht (fun q => kt q ad H locs ls hW hlv (fun v hv => hst v (List.mem_cons_of_mem _ (List.mem_cons_of_mem _ (hv)))) hl) (fun q => kf q ad H locs ls hW hlv (fun v hv => hst v (List.mem_cons_of_mem _ (List.mem_cons_of_mem _ (hv)))) hl)

theorem w_if_lt {C : Ctx} {μ : MI} {k n pc : Nat} {lv : List (Nat × Value)} {st : List Value} {h : Hp} {x : Int32} {off : Int} {tgt : Nat} (hC : CxOK C μ) (hd : decode μ.2.1 pc = .ok (.ifCond .lt off, 3)) (ht : (pc : Int) + off = (tgt : Int)) (kt : x < 0 → WW C μ k n tgt lv st h) (kf : ¬ x < 0 → WW C μ k n (pc + 3) lv st h) : WW C μ k n pc lv (.int x :: st) h := by
  obtain ⟨p, l, e, R, s, m, args, below, meth, c, D, g, A, ad0, n0, Qf⟩ := C
  obtain ⟨hx, hb, hml, hown, hts, hr, hlk, hK, hA, hl9, hN, hT, hZ⟩ := hC
  intro ad H locs ls hW hlv hst hl
  exact lv_if_lt hx hb hd ht (fun q => kt q ad H locs ls hW hlv (fun v hv => hst v (List.mem_cons_of_mem _ (hv))) hl) (fun q => kf q ad H locs ls hW hlv (fun v hv => hst v (List.mem_cons_of_mem _ (hv))) hl)

theorem w_icmp_lt {C : Ctx} {μ : MI} {k n pc : Nat} {lv : List (Nat × Value)} {st : List Value} {h : Hp} {x y : Int32} {off : Int} {tgt : Nat} (hC : CxOK C μ) (hd : decode μ.2.1 pc = .ok (.if_icmp .lt off, 3)) (ht : (pc : Int) + off = (tgt : Int)) (kt : x < y → WW C μ k n tgt lv st h) (kf : ¬ x < y → WW C μ k n (pc + 3) lv st h) : WW C μ k n pc lv (.int y :: .int x :: st) h := by
  obtain ⟨p, l, e, R, s, m, args, below, meth, c, D, g, A, ad0, n0, Qf⟩ := C
  obtain ⟨hx, hb, hml, hown, hts, hr, hlk, hK, hA, hl9, hN, hT, hZ⟩ := hC
  intro ad H locs ls hW hlv hst hl
  exact lv_icmp_lt hx hb hd ht (fun q => kt q ad H locs ls hW hlv (fun v hv => hst v (List.mem_cons_of_mem _ (List.mem_cons_of_mem _ (hv)))) hl) (fun q => kf q ad H locs ls hW hlv (fun v hv => hst v (List.mem_cons_of_mem _ (List.mem_cons_of_mem _ (hv)))) hl)

theorem w_if_ge {C : Ctx} {μ : MI} {k n pc : Nat} {lv : List (Nat × Value)} {st : List Value} {h : Hp} {x : Int32} {off : Int} {tgt : Nat} (hC : CxOK C μ) (hd : decode μ.2.1 pc = .ok (.ifCond .ge off, 3)) (ht : (pc : Int) + off = (tgt : Int)) (kt : 0 ≤ x → WW C μ k n tgt lv st h) (kf : ¬ 0 ≤ x → WW C μ k n (pc + 3) lv st h) : WW C μ k n pc lv (.int x :: st) h := by
  obtain ⟨p, l, e, R, s, m, args, below, meth, c, D, g, A, ad0, n0, Qf⟩ := C
  obtain ⟨hx, hb, hml, hown, hts, hr, hlk, hK, hA, hl9, hN, hT, hZ⟩ := hC
  intro ad H locs ls hW hlv hst hl
  exact lv_if_ge hx hb hd ht (fun q => kt q ad H locs ls hW hlv (fun v hv => hst v (List.mem_cons_of_mem _ (hv))) hl) (fun q => kf q ad H locs ls hW hlv (fun v hv => hst v (List.mem_cons_of_mem _ (hv))) hl)

theorem w_icmp_ge {C : Ctx} {μ : MI} {k n pc : Nat} {lv : List (Nat × Value)} {st : List Value} {h : Hp} {x y : Int32} {off : Int} {tgt : Nat} (hC : CxOK C μ) (hd : decode μ.2.1 pc = .ok (.if_icmp .ge off, 3)) (ht : (pc : Int) + off = (tgt : Int)) (kt : y ≤ x → WW C μ k n tgt lv st h) (kf : ¬ y ≤ x → WW C μ k n (pc + 3) lv st h) : WW C μ k n pc lv (.int y :: .int x :: st) h := by
  obtain ⟨p, l, e, R, s, m, args, below, meth, c, D, g, A, ad0, n0, Qf⟩ := C
  obtain ⟨hx, hb, hml, hown, hts, hr, hlk, hK, hA, hl9, hN, hT, hZ⟩ := hC
  intro ad H locs ls hW hlv hst hl
  exact lv_icmp_ge hx hb hd ht (fun q => kt q ad H locs ls hW hlv (fun v hv => hst v (List.mem_cons_of_mem _ (List.mem_cons_of_mem _ (hv)))) hl) (fun q => kf q ad H locs ls hW hlv (fun v hv => hst v (List.mem_cons_of_mem _ (List.mem_cons_of_mem _ (hv)))) hl)

theorem w_if_gt {C : Ctx} {μ : MI} {k n pc : Nat} {lv : List (Nat × Value)} {st : List Value} {h : Hp} {x : Int32} {off : Int} {tgt : Nat} (hC : CxOK C μ) (hd : decode μ.2.1 pc = .ok (.ifCond .gt off, 3)) (ht : (pc : Int) + off = (tgt : Int)) (kt : 0 < x → WW C μ k n tgt lv st h) (kf : ¬ 0 < x → WW C μ k n (pc + 3) lv st h) : WW C μ k n pc lv (.int x :: st) h := by
  obtain ⟨p, l, e, R, s, m, args, below, meth, c, D, g, A, ad0, n0, Qf⟩ := C
  obtain ⟨hx, hb, hml, hown, hts, hr, hlk, hK, hA, hl9, hN, hT, hZ⟩ := hC
  intro ad H locs ls hW hlv hst hl
  exact lv_if_gt hx hb hd ht (fun q => kt q ad H locs ls hW hlv (fun v hv => hst v (List.mem_cons_of_mem _ (hv))) hl) (fun q => kf q ad H locs ls hW hlv (fun v hv => hst v (List.mem_cons_of_mem _ (hv))) hl)

theorem w_icmp_gt {C : Ctx} {μ : MI} {k n pc : Nat} {lv : List (Nat × Value)} {st : List Value} {h : Hp} {x y : Int32} {off : Int} {tgt : Nat} (hC : CxOK C μ) (hd : decode μ.2.1 pc = .ok (.if_icmp .gt off, 3)) (ht : (pc : Int) + off = (tgt : Int)) (kt : y < x → WW C μ k n tgt lv st h) (kf : ¬ y < x → WW C μ k n (pc + 3) lv st h) : WW C μ k n pc lv (.int y :: .int x :: st) h := by
  obtain ⟨p, l, e, R, s, m, args, below, meth, c, D, g, A, ad0, n0, Qf⟩ := C
  obtain ⟨hx, hb, hml, hown, hts, hr, hlk, hK, hA, hl9, hN, hT, hZ⟩ := hC
  intro ad H locs ls hW hlv hst hl
  exact lv_icmp_gt hx hb hd ht (fun q => kt q ad H locs ls hW hlv (fun v hv => hst v (List.mem_cons_of_mem _ (List.mem_cons_of_mem _ (hv)))) hl) (fun q => kf q ad H locs ls hW hlv (fun v hv => hst v (List.mem_cons_of_mem _ (List.mem_cons_of_mem _ (hv)))) hl)

theorem w_if_le {C : Ctx} {μ : MI} {k n pc : Nat} {lv : List (Nat × Value)} {st : List Value} {h : Hp} {x : Int32} {off : Int} {tgt : Nat} (hC : CxOK C μ) (hd : decode μ.2.1 pc = .ok (.ifCond .le off, 3)) (ht : (pc : Int) + off = (tgt : Int)) (kt : x ≤ 0 → WW C μ k n tgt lv st h) (kf : ¬ x ≤ 0 → WW C μ k n (pc + 3) lv st h) : WW C μ k n pc lv (.int x :: st) h := by
  obtain ⟨p, l, e, R, s, m, args, below, meth, c, D, g, A, ad0, n0, Qf⟩ := C
  obtain ⟨hx, hb, hml, hown, hts, hr, hlk, hK, hA, hl9, hN, hT, hZ⟩ := hC
  intro ad H locs ls hW hlv hst hl
  exact lv_if_le hx hb hd ht (fun q => kt q ad H locs ls hW hlv (fun v hv => hst v (List.mem_cons_of_mem _ (hv))) hl) (fun q => kf q ad H locs ls hW hlv (fun v hv => hst v (List.mem_cons_of_mem _ (hv))) hl)

theorem w_icmp_le {C : Ctx} {μ : MI} {k n pc : Nat} {lv : List (Nat × Value)} {st : List Value} {h : Hp} {x y : Int32} {off : Int} {tgt : Nat} (hC : CxOK C μ) (hd : decode μ.2.1 pc = .ok (.if_icmp .le off, 3)) (ht : (pc : Int) + off = (tgt : Int)) (kt : x ≤ y → WW C μ k n tgt lv st h) (kf : ¬ x ≤ y → WW C μ k n (pc + 3) lv st h) : WW C μ k n pc lv (.int y :: .int x :: st) h := by
  obtain ⟨p, l, e, R, s, m, args, below, meth, c, D, g, A, ad0, n0, Qf⟩ := C
  obtain ⟨hx, hb, hml, hown, hts, hr, hlk, hK, hA, hl9, hN, hT, hZ⟩ := hC
  intro ad H locs ls hW hlv hst hl
  exact lv_icmp_le hx hb hd ht (fun q => kt q ad H locs ls hW hlv (fun v hv => hst v (List.mem_cons_of_mem _ (List.mem_cons_of_mem _ (hv)))) hl) (fun q => kf q ad H locs ls hW hlv (fun v hv => hst v (List.mem_cons_of_mem _ (List.mem_cons_of_mem _ (hv)))) hl)

theorem w_goto {C : Ctx} {μ : MI} {k n pc : Nat} {lv : List (Nat × Value)} {st : List Value} {h : Hp} {off : Int} {tgt : Nat} (hC : CxOK C μ) (hd : decode μ.2.1 pc = .ok (.goto off, 3)) (ht : (pc : Int) + off = (tgt : Int)) (kk : WW C μ k n tgt lv st h) : WW C μ k n pc lv st h := by
  obtain ⟨p, l, e, R, s, m, args, below, meth, c, D, g, A, ad0, n0, Qf⟩ := C
  obtain ⟨hx, hb, hml, hown, hts, hr, hlk, hK, hA, hl9, hN, hT, hZ⟩ := hC
  intro ad H locs ls hW hlv hst hl
  exact lv_goto hx hb hd ht (kk ad H locs ls hW hlv hst hl)

theorem w_tableIn {C : Ctx} {μ : MI} {k n pc : Nat} {lv : List (Nat × Value)} {st : List Value} {h : Hp} {dflt lo hi : Int} {offs : Array Int} {len : Nat} {x : Int32} {off : Int} {tgt : Nat} (hC : CxOK C μ) (hd : decode μ.2.1 pc = .ok (.tableswitch dflt lo hi offs, len)) (h1 : ¬ x.toInt < lo) (h2 : ¬ hi < x.toInt) (ho : offs[(x.toInt - lo).toNat]? = some off) (ht : (pc : Int) + off = (tgt : Int)) (kk : WW C μ k n tgt lv st h) : WW C μ k n pc lv (.int x :: st) h := by
  obtain ⟨p, l, e, R, s, m, args, below, meth, c, D, g, A, ad0, n0, Qf⟩ := C
  obtain ⟨hx, hb, hml, hown, hts, hr, hlk, hK, hA, hl9, hN, hT, hZ⟩ := hC
  intro ad H locs ls hW hlv hst hl
  exact lv_tableIn hx hb hd h1 h2 ho ht (kk ad H locs ls hW hlv (fun v hv => hst v (List.mem_cons_of_mem _ (hv))) hl)

theorem w_tableOut {C : Ctx} {μ : MI} {k n pc : Nat} {lv : List (Nat × Value)} {st : List Value} {h : Hp} {dflt lo hi : Int} {offs : Array Int} {len : Nat} {x : Int32} {tgt : Nat} (hC : CxOK C μ) (hd : decode μ.2.1 pc = .ok (.tableswitch dflt lo hi offs, len)) (h1 : x.toInt < lo ∨ hi < x.toInt) (ht : (pc : Int) + dflt = (tgt : Int)) (kk : WW C μ k n tgt lv st h) : WW C μ k n pc lv (.int x :: st) h := by
  obtain ⟨p, l, e, R, s, m, args, below, meth, c, D, g, A, ad0, n0, Qf⟩ := C
  obtain ⟨hx, hb, hml, hown, hts, hr, hlk, hK, hA, hl9, hN, hT, hZ⟩ := hC
  intro ad H locs ls hW hlv hst hl
  exact lv_tableOut hx hb hd h1 ht (kk ad H locs ls hW hlv (fun v hv => hst v (List.mem_cons_of_mem _ (hv))) hl)

theorem w_lookup {C : Ctx} {μ : MI} {k n pc : Nat} {lv : List (Nat × Value)} {st : List Value} {h : Hp} {dflt : Int} {ps : Array (Int × Int)} {len : Nat} {x : Int32} {off : Int} {tgt : Nat} (hC : CxOK C μ) (hd : decode μ.2.1 pc = .ok (.lookupswitch dflt ps, len)) (hp : (ps.toList.zip (ps.toList.drop 1)).all (fun (a, next) => a.1 < next.1) = true) (ho : Op.lookupswitch.offset ps.toList dflt x.toInt = off) (ht : (pc : Int) + off = (tgt : Int)) (kk : WW C μ k n tgt lv st h) : WW C μ k n pc lv (.int x :: st) h := by
  obtain ⟨p, l, e, R, s, m, args, below, meth, c, D, g, A, ad0, n0, Qf⟩ := C
  obtain ⟨hx, hb, hml, hown, hts, hr, hlk, hK, hA, hl9, hN, hT, hZ⟩ := hC
  intro ad H locs ls hW hlv hst hl
  exact lv_lookup hx hb hd hp ho ht (kk ad H locs ls hW hlv (fun v hv => hst v (List.mem_cons_of_mem _ (hv))) hl)

