/-! THE CLAIM OUT OF ONE WALK OF THE LAW'S BODY. Your part is whole_start (and what it stands on); all else here is the same for every law, but numbers. -/
def R_law : String := "OneHandLaw"
def lw_P (b : Addr) (xs : List Int32) (args : Array Value) (s : State) : Prop := args = #[.ref b] ∧ s.IntsAt b xs ∧ xs.length ≤ 3584 ∧ (Jvm.Cond.and given_1 narrow_1).before args s = true
def lw_Q (_ : Array Value) (s : State) (o : Outcome) (t : State) : Prop := o = .returned (some (.int 1)) ∧ Framed s o t [] 601024 7293034
def lw_Z (below : List Frame) (a : Array Value) (s : State) : State → Prop := fun t => ∃ o, t.status = .running ∧ Ended t below o ∧ lw_Q a s o t
/-- the law's own end, with 1 on the stack, nothing written that was there before, its room as the claim has it -/
theorem lw_ret {p : Program} {l : Launch} {e : Env} {s : State} {m : MethodId} {below : List Frame} {meth : Method} {c : Code} {b : Nat} (hx : p.tables.exec = Jvm.exec) (hb : c.code = code) (hr : meth.sig.returnType = ret) (hlocks : meth.locks = false) {pc : Nat} {H : Heap} {ls : Array Slot} (hdg : decode code pc = .ok (.ireturn, 1)) : W p l e room_1 s m #[Value.ref b] below meth c H [] 601024 7293034 (lw_Z below #[Value.ref b] s) (F0 m pc ls [.int 1]) := by
  intro T hT X
  obtain ⟨fs, hret, hrun, hended, hW, hframe⟩ := X.leave (v := some (.int 1)) (hlocks := hlocks) (fun h => by rw [hr] at h; cases h)
  have hmeth' : T.vm.method? m = some meth := X.method'
  refine ⟨T.setFrames fs, ?_, .returned (some (.int 1)), hrun, hended, rfl, ⟨_, rfl⟩, hW, hframe⟩
  jvm_step X.here [X.here.top, hx, hb, hdg, hmeth', hr, ret, narrow_b1]
  (try refine ⟨rfl, ?_⟩); (try refine ⟨rfl, ?_⟩)
  first | (intro acts; rw [hret _ acts rfl rfl rfl]) | rw [hret _ _ rfl rfl rfl]
  exact Steps.refl _
/-- what holds at the law's entry: the machine, the code, the tables' words (any of lw_tbl by 'hts w (by decide +kernel)'), the script of L ints xs at the cell b, what the Statement gives of the start (any of its parts by flat_of_before) -/
def lw_At (p : Program) (s : State) (m : MethodId) (meth : Method) (c : Code) (b L : Nat) (xs : Nat → Int32) : Prop :=
  p.tables.exec = Jvm.exec ∧ c.code = code ∧ meth.sig.returnType = ret ∧ c.maxLocals = 8 ∧ s.vm.findClass R_law = some m.cls ∧ (∀ w ∈ lw_tbl, w.before #[Value.ref b] s = true) ∧ va_X b L xs s s.heap ∧ b < s.heap.size ∧ meth.locks = false ∧ (Jvm.Cond.and given_1 narrow_1).before #[Value.ref b] s = true
/-! the law's own rows over the abstract machine -/
abbrev mL_law : MI := (yL_law, code, 8, ret, (fun _ => True), 601024, 7293034)
def LX (xs : Nat → Int32) (L : Nat) (C : Ctx) : Prop := match C with
  | (_, _, _, R, s, _, args, below, _, _, _, _, A, ad0, _, Qf) => R = room_1 ∧ CasOK s ∧ NcOK s ∧ (∀ q, A q → s.heap.size ≤ q) ∧ args = #[.ref (ad0 4000)] ∧ va_X (ad0 4000) L xs s s.heap ∧ ad0 4000 < s.heap.size ∧ Qf = lw_Z below args s
def EL (xs : Nat → Int32) (L k n pc : Nat) (lv : List (Nat × Value)) (st : List Value) (h : Hp) : Prop := ∀ C : Ctx, CxOK C mL_law → LX xs L C → WW C mL_law k n pc lv st h
def NX : String → Hp → Prop := fun _ _ => False
section LAWX
variable {xs : Nat → Int32} {L : Nat} {C : Ctx} {μ' : MI} {hh : HT} {k n k2 n2 pc ix : Nat} {lv : List (Nat × Value)} {st : List Value} {h : Hp}
theorem cas_L (hL : LX xs L C) : CasC C := by
  obtain ⟨p, l, e, R, s, m, args, below, meth, c, D, g, A, ad0, n0, Qf⟩ := C
  exact hL.2.1
theorem nc_L (hL : LX xs L C) : NcC C := by
  obtain ⟨p, l, e, R, s, m, args, below, meth, c, D, g, A, ad0, n0, Qf⟩ := C
  exact hL.2.2.1
theorem rm_L {d' : Nat} (hL : LX xs L C) (hd : d' < 41) (hloc : μ'.2.2.1 ≤ 21) (h1 : k + μ'.2.2.2.2.2.1 ≤ 601024) (h2 : n + μ'.2.2.2.2.2.2 ≤ 7293034) : RmOK C μ' d' k n := by
  obtain ⟨p, l, e, R, s, m, args, below, meth, c, D, g, A, ad0, n0, Qf⟩ := C
  obtain ⟨rfl, -⟩ := hL
  refine ⟨?_, ?_, h1, h2⟩
  · show d' + 1 ≤ 2048
    omega
  · show 8 + (μ'.2.2.1 + 11) + 40 * d' ≤ 84000
    omega
theorem l_sld {i v : Int32} (hC : CxOK C mL_law) (hL : LX xs L C) (hd : decode code pc = .ok (.iaload, 1)) (hin : vp_in i L) (hv : xs i.toNatClampNeg = v) (kk : WW C mL_law k n (pc + 1) lv (.int v :: st) h) : WW C mL_law k n pc lv (.int i :: .ref 4000 :: st) h := by
  obtain ⟨p, l, e, R, s, m, args, below, meth, c, D, g, A, ad0, n0, Qf⟩ := C
  obtain ⟨hx, hb, hml, hown, hts, hr, hlk, hK, hA, hl9, hN, hT, hZ⟩ := hC
  obtain ⟨l1, l2, l3, l4, l5, l6, l7, l8⟩ := hL
  intro ad H locs ls hW hlv hst hl
  obtain ⟨w1, w2, w3, w4, w5, w6, w7⟩ := id hW
  have e4 : ad 4000 = ad0 4000 := w4 4000 (Or.inr (by decide))
  have := kk ad H locs ls hW hlv (fun w hw => (List.mem_cons.mp hw).elim (fun q => by rw [q]; trivial) fun q => hst w (List.mem_cons_of_mem _ (List.mem_cons_of_mem _ q))) hl
  show W p l e R s m args below meth c H locs k n Qf (F0 m pc ls (.int i :: .ref (ad 4000) :: st.map (cv ad)))
  rw [e4]
  refine va_sld hx hb l6 l7 (fun z => absurd (l4 _ z) (Nat.not_le.mpr l7)) w3 hin hd ?_
  rw [hv]
  exact this
theorem l_slen (hC : CxOK C mL_law) (hL : LX xs L C) (hd : decode code pc = .ok (.arraylength, 1)) (kk : WW C mL_law k n (pc + 1) lv (.int (Int32.ofNat L) :: st) h) : WW C mL_law k n pc lv (.ref 4000 :: st) h := by
  obtain ⟨p, l, e, R, s, m, args, below, meth, c, D, g, A, ad0, n0, Qf⟩ := C
  obtain ⟨hx, hb, hml, hown, hts, hr, hlk, hK, hA, hl9, hN, hT, hZ⟩ := hC
  obtain ⟨l1, l2, l3, l4, l5, l6, l7, l8⟩ := hL
  intro ad H locs ls hW hlv hst hl
  obtain ⟨w1, w2, w3, w4, w5, w6, w7⟩ := id hW
  have e4 : ad 4000 = ad0 4000 := w4 4000 (Or.inr (by decide))
  have := kk ad H locs ls hW hlv (fun w hw => (List.mem_cons.mp hw).elim (fun q => by rw [q]; trivial) fun q => hst w (List.mem_cons_of_mem _ q)) hl
  show W p l e R s m args below meth c H locs k n Qf (F0 m pc ls (.ref (ad 4000) :: st.map (cv ad)))
  rw [e4]
  exact va_slen hx hb l6 l7 (fun z => absurd (l4 _ z) (Nat.not_le.mpr l7)) w3 hd this
theorem l_ret (hC : CxOK C mL_law) (hL : LX xs L C) (hd : decode code pc = .ok (.ireturn, 1)) (hk : k ≤ 601024) (hn : n ≤ 7293034) : WW C mL_law k n pc lv [.int 1] h := by
  obtain ⟨p, l, e, R, s, m, args, below, meth, c, D, g, A, ad0, n0, Qf⟩ := C
  obtain ⟨hx, hb, hml, hown, hts, hr, hlk, hK, hA, hl9, hN, hT, hZ⟩ := hC
  obtain ⟨rfl, l2, l3, l4, rfl, l6, l7, rfl⟩ := hL
  intro ad H locs ls hW hlv hst hl
  obtain ⟨w1, w2, w3, w4, w5, w6, w7⟩ := id hW
  exact W.widen hk hn (va_forget (fun q hq => l4 _ (w3.2.2 q hq)) (lw_ret hx hb hr hlk hd))
theorem l_wid (hk : k ≤ k2) (hn : n ≤ n2) (kk : WW C mL_law k2 n2 pc lv st h) : WW C mL_law k n pc lv st h := by
  obtain ⟨p, l, e, R, s, m, args, below, meth, c, D, g, A, ad0, n0, Qf⟩ := C
  intro ad H locs ls hW hlv hst hl
  exact W.widen hk hn (kk ad H locs ls hW hlv hst hl)
theorem l_callSh (avs rest : List Value) {F : Int32 → Hp → Prop} (hC : CxOK C mL_law) (hL : LX xs L C) (hM : OKh 41 μ' hh avs h F) (hk2 : k2 = k + μ'.2.2.2.2.2.1) (hn2 : n2 = n + μ'.2.2.2.2.2.2) (hk : k + μ'.2.2.2.2.2.1 ≤ 601024) (hn : n + μ'.2.2.2.2.2.2 ≤ 7293034) (hloc : μ'.2.2.1 ≤ 21) (hd : decode code pc = .ok (.invokestatic ix, 3)) (cl : CLSh RL ix μ' hh avs.length) (hs0 : st = avs.reverse ++ rest) (h8 : (rest.map fun v => v.category).sum ≤ 8)
    (kk : ∀ (r : Int32) (h1 : Hp), F r h1 → μ'.2.2.2.2.1 h1.2.2 → WW C mL_law k2 n2 (pc + 3) lv (.int r :: rest) h1) : WW C mL_law k n pc lv st h := by
  obtain ⟨d', hdd, hM⟩ := hM
  subst hk2; subst hn2
  refine w_callSh avs rest hC (cas_L hL) (nc_L hL) hM (rm_L hL hdd hloc hk hn) hd cl hs0 h8 (fun v h1 hq hs _ _ => ?_)
  obtain ⟨r, rfl, hf⟩ := hq
  exact kk r h1 hf hs
theorem l_callVi {b : Nat} (avs rest : List Value) {F : Int32 → Hp → Prop} (hC : CxOK C mL_law) (hL : LX xs L C) (hM : OKi 40 μ' (.ref b :: avs) h F NX) (hk2 : k2 = k + μ'.2.2.2.2.2.1) (hn2 : n2 = n + μ'.2.2.2.2.2.2) (hk : k + μ'.2.2.2.2.2.1 ≤ 601024) (hn : n + μ'.2.2.2.2.2.2 ≤ 7293034) (hloc : μ'.2.2.1 ≤ 21) (hd : decode code pc = .ok (.invokevirtual ix, 3)) (cl : CLV RL ix μ' avs.length) (ob : OB b μ'.1.cls) (hb : b < h.2.2.2) (hs0 : st = avs.reverse ++ .ref b :: rest) (h8 : (rest.map fun v => v.category).sum ≤ 8)
    (kk : ∀ (r : Int32) (h1 : Hp), F r h1 → μ'.2.2.2.2.1 h1.2.2 → WW C mL_law k2 n2 (pc + 3) lv (.int r :: rest) h1) : WW C mL_law k n pc lv st h := by
  obtain ⟨d', hdd, hM⟩ := hM
  subst hk2; subst hn2
  refine w_callV avs rest hC (cas_L hL) hM (rm_L hL (Nat.lt_succ_of_lt hdd) hloc hk hn) hd cl ob hb hs0 h8 (fun v h1 hq hs _ _ => ?_) (fun E h1 hq hs _ => hq.elim)
  obtain ⟨r, rfl, hf⟩ := hq
  exact kk r h1 hf hs
theorem l_callVl {b : Nat} (avs rest : List Value) {F : Int64 → Hp → Prop} (hC : CxOK C mL_law) (hL : LX xs L C) (hM : OKl 40 μ' (.ref b :: avs) h F NX) (hk2 : k2 = k + μ'.2.2.2.2.2.1) (hn2 : n2 = n + μ'.2.2.2.2.2.2) (hk : k + μ'.2.2.2.2.2.1 ≤ 601024) (hn : n + μ'.2.2.2.2.2.2 ≤ 7293034) (hloc : μ'.2.2.1 ≤ 21) (hd : decode code pc = .ok (.invokevirtual ix, 3)) (cl : CLV RL ix μ' avs.length) (ob : OB b μ'.1.cls) (hb : b < h.2.2.2) (hs0 : st = avs.reverse ++ .ref b :: rest) (h8 : (rest.map fun v => v.category).sum ≤ 8)
    (kk : ∀ (r : Int64) (h1 : Hp), F r h1 → μ'.2.2.2.2.1 h1.2.2 → WW C mL_law k2 n2 (pc + 3) lv (.long r :: rest) h1) : WW C mL_law k n pc lv st h := by
  obtain ⟨d', hdd, hM⟩ := hM
  subst hk2; subst hn2
  refine w_callV avs rest hC (cas_L hL) hM (rm_L hL (Nat.lt_succ_of_lt hdd) hloc hk hn) hd cl ob hb hs0 h8 (fun v h1 hq hs _ _ => ?_) (fun E h1 hq hs _ => hq.elim)
  obtain ⟨r, rfl, hf⟩ := hq
  exact kk r h1 hf hs
theorem l_callVv {b : Nat} (avs rest : List Value) {F : Hp → Prop} (hC : CxOK C mL_law) (hL : LX xs L C) (hM : OKv 40 μ' (.ref b :: avs) h F NX) (hk2 : k2 = k + μ'.2.2.2.2.2.1) (hn2 : n2 = n + μ'.2.2.2.2.2.2) (hk : k + μ'.2.2.2.2.2.1 ≤ 601024) (hn : n + μ'.2.2.2.2.2.2 ≤ 7293034) (hloc : μ'.2.2.1 ≤ 21) (hd : decode code pc = .ok (.invokevirtual ix, 3)) (cl : CLV RL ix μ' avs.length) (ob : OB b μ'.1.cls) (hb : b < h.2.2.2) (hs0 : st = avs.reverse ++ .ref b :: rest) (h8 : (rest.map fun v => v.category).sum ≤ 8)
    (kk : ∀ (h1 : Hp), F h1 → μ'.2.2.2.2.1 h1.2.2 → WW C mL_law k2 n2 (pc + 3) lv rest h1) : WW C mL_law k n pc lv st h := by
  obtain ⟨d', hdd, hM⟩ := hM
  subst hk2; subst hn2
  refine w_callV avs rest hC (cas_L hL) hM (rm_L hL (Nat.lt_succ_of_lt hdd) hloc hk hn) hd cl ob hb hs0 h8 (fun v h1 hq hs _ _ => ?_) (fun E h1 hq hs _ => hq.elim)
  obtain ⟨rfl, hf⟩ := hq
  exact kk h1 hf hs
theorem l_callIv {b : Nat} (avs rest : List Value) {F : Hp → Prop} (hC : CxOK C mL_law) (hL : LX xs L C) (hM : OKv 40 μ' (.ref b :: avs) h F NX) (hk2 : k2 = k + μ'.2.2.2.2.2.1) (hn2 : n2 = n + μ'.2.2.2.2.2.2) (hk : k + μ'.2.2.2.2.2.1 ≤ 601024) (hn : n + μ'.2.2.2.2.2.2 ≤ 7293034) (hloc : μ'.2.2.1 ≤ 21) (hd : decode code pc = .ok (.invokespecial ix, 3)) (cl : CLI RL ix μ' avs.length) (hs0 : st = avs.reverse ++ .ref b :: rest) (h8 : (rest.map fun v => v.category).sum ≤ 8)
    (kk : ∀ (h1 : Hp), F h1 → μ'.2.2.2.2.1 h1.2.2 → WW C mL_law k2 n2 (pc + 3) lv rest h1) : WW C mL_law k n pc lv st h := by
  obtain ⟨d', hdd, hM⟩ := hM
  subst hk2; subst hn2
  refine w_callI avs rest hC (cas_L hL) hM (rm_L hL (Nat.lt_succ_of_lt hdd) hloc hk hn) hd cl hs0 h8 (fun v h1 hq hs _ _ => ?_) (fun E h1 hq hs _ => hq.elim)
  obtain ⟨rfl, hf⟩ := hq
  exact kk h1 hf hs
/-- a word of the script, as a boolean -/
theorem l_nz {x : Int32} (hC : CxOK C mL_law) (d1 : decode code pc = .ok (.ifCond .eq 7, 3)) (d2 : decode code (pc + 3) = .ok (.iconst 1, 1)) (d3 : decode code (pc + 4) = .ok (.goto 4, 3)) (d4 : decode code (pc + 7) = .ok (.iconst 0, 1)) (kk : WW C mL_law k n (pc + 8) lv (.int (bI (!decide (x = 0))) :: st) h) : WW C mL_law k n pc lv (.int x :: st) h := by
  by_cases z : x = 0
  · rw [decide_eq_true z] at kk
    refine w_if_eq hC d1 (tgt := pc + 7) (by omega) (fun _ => w_iconst (x := 0) hC d4 ic_0 kk) (fun c => absurd z c)
  · rw [decide_eq_false z] at kk
    refine w_if_eq hC d1 (tgt := pc + 7) (by omega) (fun c => absurd c z) (fun _ => w_iconst (x := 1) hC d2 ic_1 (w_goto hC d3 (tgt := pc + 8) (by omega) kk))
end LAWX
/-- the words of a call, out of the script -/
def SX (xs : Nat → Int32) (L : Nat) (i x1 x2 x3 x4 x5 x6 : Int32) : Prop := (vp_in (i + 1) L ∧ xs (i + 1).toNatClampNeg = x1) ∧ (vp_in (i + 2) L ∧ xs (i + 2).toNatClampNeg = x2) ∧ (vp_in (i + 3) L ∧ xs (i + 3).toNatClampNeg = x3) ∧ (vp_in (i + 4) L ∧ xs (i + 4).toNatClampNeg = x4) ∧ (vp_in (i + 5) L ∧ xs (i + 5).toNatClampNeg = x5) ∧ (vp_in (i + 6) L ∧ xs (i + 6).toNatClampNeg = x6)
abbrev lvI (i : Int32) : List (Nat × Value) := [(0, .ref 4000), (1, .ref 0), (2, .ref 91), (3, .ref 146), (4, .int i)]
