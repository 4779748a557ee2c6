/-! The abstract machine over the kit: a heap of numbered cells, values whose references are cell numbers. -/
abbrev Hp : Type := (Nat → Nat → Int32) × (Nat → Nat → Int64) × Hr
def up1 {α : Type} (f : Nat → α) (c : Nat) (g : α) : Nat → α := fun d => if d = c then g else f d
def up2 {α : Type} (f : Nat → Nat → α) (c k : Nat) (v : α) : Nat → Nat → α := fun d => if d = c then (fun j => if j = k then v else f c j) else f d
def hI (h : Hp) (c k : Nat) (v : Int32) : Hp := (up2 h.1 c k v, h.2)
def hL (h : Hp) (c k : Nat) (v : Int64) : Hp := (h.1, up2 h.2.1 c k v, h.2.2)
def hR (h : Hp) (c k : Nat) (v : Option Nat) : Hp := (h.1, h.2.1, up2 h.2.2.1 c k v, h.2.2.2)
/-- a new cell: all nought -/
def hN (h : Hp) : Hp := (up1 h.1 h.2.2.2 (fun _ => 0), up1 h.2.1 h.2.2.2 (fun _ => 0), up1 h.2.2.1 h.2.2.2 (fun _ => none), h.2.2.2 + 1)
def fvC (ad : Nat → Nat) (h : Hp) (c k : Nat) (ty : FieldType) : Value := match ty with
  | .long => .long (h.2.1 c k)
  | .object _ => va_rf ((h.2.2.1 c k).map ad)
  | .array _ => va_rf ((h.2.2.1 c k).map ad)
  | _ => .int (h.1 c k)
abbrev G3 : Type := ClassId × ClassId × ClassId
def cellC (g : G3) (ad : Nat → Nat) (h : Hp) (S : Sh) (c : Nat) : va_E := match S with
  | .inl (.long, n) => .inl (g.2.1, n, .inr (.inl (h.2.1 c)))
  | .inl (.boolean, n) => .inl (g.2.2, n, .inl (h.1 c))
  | .inl (_, n) => .inl (g.1, n, .inl (h.1 c))
  | .inr (ci, tys) => .inr (ci, tys.mapIdx (fun k ty => fvC ad h c k ty))
def wsC (g : G3) (ad : Nat → Nat) (h : Hp) : va_W := (List.range h.2.2.2).map (fun c => (ad c, cellC g ad h (SHP c) c))
def tysC (g : G3) : List (ClassId × FieldType) := [(g.1, .int), (g.2.1, .long), (g.2.2, .boolean)]
def cv (ad : Nat → Nat) (v : Value) : Value := match v with
  | .ref c => .ref (ad c)
  | v => v
def cvl (ad : Nat → Nat) (q : Nat × Value) : Nat × Value := (q.1, cv ad q.2)
def RO (n : Nat) (v : Value) : Prop := match v with
  | .ref c => c < n ∨ 1000 ≤ c
  | _ => True
theorem cv_cat (ad : Nat → Nat) (v : Value) : (cv ad v).category = v.category := by cases v <;> rfl
theorem cv_agree {ad ad' : Nat → Nat} {n : Nat} {v : Value} (h : RO n v) (ha : ∀ c, (c < n ∨ 1000 ≤ c) → ad' c = ad c) : cv ad' v = cv ad v := by
  cases v with
  | ref c => exact congrArg Value.ref (ha c h)
  | _ => rfl
theorem RO.mono {n n' : Nat} {v : Value} (h : RO n v) (hn : n ≤ n') : RO n' v := by
  cases v with
  | ref c => exact h.elim (fun q => Or.inl (Nat.lt_of_lt_of_le q hn)) Or.inr
  | _ => trivial
theorem wsC_get {g : G3} {ad : Nat → Nat} {h : Hp} {c : Nat} (hc : c < h.2.2.2) : (wsC g ad h)[c]? = some (ad c, cellC g ad h (SHP c) c) := by
  unfold wsC
  rw [List.getElem?_map, List.getElem?_range hc]
  rfl
theorem wsC_lt {g : G3} {ad : Nat → Nat} {h : Hp} {c : Nat} {q : Nat × va_E} (hq : (wsC g ad h)[c]? = some q) : c < h.2.2.2 ∧ q = (ad c, cellC g ad h (SHP c) c) := by
  have hl := (List.getElem?_eq_some_iff.mp hq).1
  have hl' : c < h.2.2.2 := by simpa [wsC] using hl
  exact ⟨hl', by rw [wsC_get hl'] at hq; exact (Option.some.inj hq).symm⟩
theorem wsC_len {g : G3} {ad : Nat → Nat} {h : Hp} : (wsC g ad h).length = h.2.2.2 := by simp [wsC]
theorem fvC_congr {ad ad' : Nat → Nat} {h h' : Hp} {c k : Nat} {ty : FieldType} (h1 : h'.1 c k = h.1 c k) (h2 : h'.2.1 c k = h.2.1 c k) (h3 : (h'.2.2.1 c k).map ad' = (h.2.2.1 c k).map ad) : fvC ad' h' c k ty = fvC ad h c k ty := by
  cases ty <;> simp only [fvC, h1, h2, h3]
theorem cellC_congr {g : G3} {ad ad' : Nat → Nat} {h h' : Hp} {S : Sh} {c : Nat} (h1 : h'.1 c = h.1 c) (h2 : h'.2.1 c = h.2.1 c) (h3 : ∀ k, (h'.2.2.1 c k).map ad' = (h.2.2.1 c k).map ad) : cellC g ad' h' S c = cellC g ad h S c := by
  rcases S with ⟨ty, n⟩ | ⟨ci, tys⟩
  · cases ty <;> simp only [cellC, h1, h2]
  · simp only [cellC]
    congr 2
    congr 1
    funext k ty
    exact fvC_congr (congrFun h1 k) (congrFun h2 k) (h3 k)
theorem wsC_set {g : G3} {ad : Nat → Nat} {h h' : Hp} {c : Nat} (hn : h'.2.2.2 = h.2.2.2) (he : ∀ d, d ≠ c → h'.1 d = h.1 d ∧ h'.2.1 d = h.2.1 d ∧ h'.2.2.1 d = h.2.2.1 d) : (wsC g ad h).set c (ad c, cellC g ad h' (SHP c) c) = wsC g ad h' := by
  apply List.ext_getElem?
  intro k
  by_cases hk : k < h.2.2.2
  · have hk' : k < h'.2.2.2 := by rw [hn]; exact hk
    rw [wsC_get hk']
    by_cases hkc : k = c
    · subst hkc
      rw [List.getElem?_set_self (by rw [wsC_len]; exact hk)]
    · rw [List.getElem?_set_ne (Ne.symm hkc), wsC_get hk]
      obtain ⟨e1, e2, e3⟩ := he k hkc
      rw [cellC_congr e1 e2 (fun j => by rw [e3])]
  · rw [List.getElem?_eq_none (by rw [List.length_set, wsC_len]; omega), List.getElem?_eq_none (by rw [wsC_len, hn]; omega)]
theorem wsC_push {g : G3} {ad ad' : Nat → Nat} {h h' : Hp} (hn : h'.2.2.2 = h.2.2.2 + 1) (ha : ∀ d, d < h.2.2.2 → ad' d = ad d) (he : ∀ d, d < h.2.2.2 → h'.1 d = h.1 d ∧ h'.2.1 d = h.2.1 d ∧ h'.2.2.1 d = h.2.2.1 d) (hr : ∀ d k c, d < h.2.2.2 → h.2.2.1 d k = some c → ad' c = ad c) : wsC g ad h ++ [(ad' h.2.2.2, cellC g ad' h' (SHP h.2.2.2) h.2.2.2)] = wsC g ad' h' := by
  apply List.ext_getElem?
  intro k
  by_cases hk : k < h.2.2.2
  · rw [List.getElem?_append_left (by rw [wsC_len]; exact hk), wsC_get hk, wsC_get (by rw [hn]; omega)]
    obtain ⟨e1, e2, e3⟩ := he k hk
    rw [ha k hk, cellC_congr (ad := ad) (ad' := ad') e1 e2 (fun j => ?_)]
    rw [e3]
    cases hq : h.2.2.1 k j with
    | none => rfl
    | some c => exact congrArg some (hr k j c hk hq)
  · rw [List.getElem?_append_right (by rw [wsC_len]; omega), wsC_len]
    by_cases hk2 : k = h.2.2.2
    · subst hk2
      rw [wsC_get (by rw [hn]; omega)]
      simp
    · rw [List.getElem?_eq_none (by simp; omega), List.getElem?_eq_none (by rw [wsC_len, hn]; omega)]
theorem up2_ne {α : Type} {f : Nat → Nat → α} {c k d : Nat} {v : α} (h : d ≠ c) : up2 f c k v d = f d := if_neg h
theorem up2_nk {α : Type} {f : Nat → Nat → α} {c k j : Nat} {v : α} (h : j ≠ k) : up2 f c k v c j = f c j := by
  show (if c = c then (fun j => if j = k then v else f c j) else f c) j = f c j
  rw [if_pos rfl]
  exact if_neg h
theorem up2_kk {α : Type} {f : Nat → Nat → α} {c k : Nat} {v : α} : up2 f c k v c k = v := by
  show (if c = c then (fun j => if j = k then v else f c j) else f c) k = v
  rw [if_pos rfl]
  exact if_pos rfl
theorem up2_row {α : Type} {f : Nat → Nat → α} {c k : Nat} {v : α} : up2 f c k v c = fun j => if j = k then v else f c j := if_pos rfl
/-- a method: its name, code, locals, answer; what it takes of the references and keeps so; the cells and slots that it may make -/
abbrev MI : Type := MethodName × ByteArray × Nat × Option FieldType × (Hr → Prop) × Nat × Nat
abbrev Ctx : Type := Program × Launch × Env × Room × State × MethodId × Array Value × List Frame × Method × Code × va_G × G3 × (Nat → Prop) × (Nat → Nat) × Nat × (State → Prop)
/-- the world of a call: cells at their addresses, apart; what is not its own stays -/
def Wd (C : Ctx) (ad : Nat → Nat) (h : Hp) (H : Heap) (locs : List Loc) : Prop := match C with
  | (_, _, _, _, s, _, _, _, _, _, D, g, A, ad0, n0, _) => va_P D vwCl (wsC g ad h) H ∧ va_D A (wsC g ad h) ∧ va_S A s.heap H locs ∧ (∀ c, (c < n0 ∨ 1000 ≤ c) → ad c = ad0 c) ∧ n0 ≤ h.2.2.2 ∧ h.2.2.2 ≤ 1000 ∧ (∀ d k c, d < h.2.2.2 → h.2.2.1 d k = some c → c < h.2.2.2)
def StrOK (ad : Nat → Nat) (s : State) : Prop := ∀ (i : Nat) (q : String × Nat × String), strL[i]? = some q → vk_R q.1 q.2.1 q.2.2 (ad (1000 + i)) s
def NstOK (s : State) : Prop := ∀ q ∈ nstL, va_Nw (.methodLinkNest q.1 q.2.1 q.2.2.1 q.2.2.2) s
def StaOK (A : Nat → Prop) (s : State) (H : Heap) : Prop := vx_Zq Bundle.tN "UNASSIGNED_STACK" Bundle.steD A s H ∧ vx_Zq Bundle.tN "SUPPRESSED_SENTINEL" Bundle.listD A s H
/-- the texts whose letters are read: their bytes -/
def txL : List (Nat × List Int32) := [(28, [108, 101, 116, 32, 32, 32, 32, 98, 97, 114, 32, 32, 32, 32, 107, 101, 101, 112, 32, 32, 32, 105, 102, 32, 32, 32, 32, 32, 111, 114, 32, 32, 32, 32, 32, 97, 110, 100, 32, 32, 32, 32, 110, 111, 116, 32, 32, 32, 32, 114, 97, 110, 107, 32, 32, 32, 108, 97, 110, 100, 32, 32, 32, 97, 103, 101, 32, 32, 32, 32, 115, 111, 108, 118, 101, 100, 32, 100, 111, 117, 98, 116, 101, 100, 116, 104, 101, 114, 101, 32, 32, 108, 105, 110, 107, 115, 32, 32]),
  (34, [108, 101, 116]),
  (35, [98, 97, 114]),
  (36, [107, 101, 101, 112]),
  (37, [114, 97, 110, 107]),
  (38, [108, 97, 110, 100]),
  (39, [97, 103, 101]),
  (40, [115, 111, 108, 118, 101, 100]),
  (41, [100, 111, 117, 98, 116, 101, 100]),
  (42, [116, 104, 101, 114, 101]),
  (43, [108, 105, 110, 107, 115]),
  (44, [105, 102]),
  (45, [110, 111, 116]),
  (46, [97, 110, 100]),
  (47, [111, 114])]
def TxtOK (A : Nat → Prop) (ad : Nat → Nat) (s : State) (H : Heap) : Prop := (∀ q ∈ txL, va_O "java/lang/String" (ad (1000 + q.1)) A s H ∧ va_OF "java/lang/String" "coder" "B" (.int 0) (ad (1000 + q.1)) A s H ∧ va_OF "java/lang/String" "value" "[B" (.ref (ad (2000 + q.1))) (ad (1000 + q.1)) A s H ∧ va_T .byte (ad (2000 + q.1)) q.2.length (fun j => .int (q.2.getD j 0)) A s H) ∧
  va_Z "java/lang/String" "COMPACT_STRINGS" "Z" (.int 1) A s H ∧ (va_Z "jdk/internal/util/Preconditions" "SIOOBE_FORMATTER" "Ljava/util/function/BiFunction;" (.ref (ad 3000)) A s H ∨ va_Z "jdk/internal/util/Preconditions" "SIOOBE_FORMATTER" "Ljava/util/function/BiFunction;" .null A s H)
theorem TxtOK.moved {A : Nat → Prop} {ad : Nat → Nat} {u U : State} {H : Heap} (hvm : u.vm.Alike U.vm) (h : TxtOK A ad u H) : TxtOK A ad U H :=
  ⟨fun q hq => ⟨va_O.moved hvm (h.1 q hq).1, va_OF.moved hvm (h.1 q hq).2.1, va_OF.moved hvm (h.1 q hq).2.2.1, va_T.moved hvm (h.1 q hq).2.2.2⟩, va_Z.moved hvm h.2.1, h.2.2.imp (va_Z.moved hvm) (va_Z.moved hvm)⟩
theorem TxtOK.kept {A : Nat → Prop} {ad : Nat → Nat} {U : State} {H H1 : Heap} (h : TxtOK A ad U H) (hq : ∀ a : Nat, a < H.size → ¬ A a → H1[a]? = H[a]?) : TxtOK A ad U H1 :=
  ⟨fun q hm => ⟨(h.1 q hm).1.kept hq, (h.1 q hm).2.1.kept hq, (h.1 q hm).2.2.1.kept hq, (h.1 q hm).2.2.2.kept hq⟩, h.2.1.kept hq, h.2.2.imp (fun z => z.kept hq) fun z => z.kept hq⟩
theorem TxtOK.narrow {A B : Nat → Prop} {ad : Nat → Nat} {U : State} {H : Heap} (h : TxtOK A ad U H) (hAB : ∀ q, B q → A q) : TxtOK B ad U H :=
  ⟨fun q hm => ⟨(h.1 q hm).1.narrow hAB, (h.1 q hm).2.1.narrow hAB, (h.1 q hm).2.2.1.narrow hAB, (h.1 q hm).2.2.2.narrow hAB⟩, h.2.1.narrow hAB, h.2.2.imp (fun z => z.narrow hAB) fun z => z.narrow hAB⟩
theorem TxtOK.adr {A : Nat → Prop} {ad ad' : Nat → Nat} {U : State} {H : Heap} (h : TxtOK A ad U H) (ha : ∀ c, 1000 ≤ c → ad' c = ad c) : TxtOK A ad' U H := by
  refine ⟨fun q hm => ?_, h.2.1, ?_⟩
  · rw [ha _ (Nat.le_add_right _ _), ha (2000 + q.1) (Nat.le_trans (by decide) (Nat.le_add_right 2000 _))]
    exact h.1 q hm
  · rw [ha 3000 (by decide)]; exact h.2.2
def CxOK (C : Ctx) (μ : MI) : Prop := match C with
  | (p, l, _, _, s, m, args, _, meth, c, D, g, A, ad0, _, _) => p.tables.exec = Jvm.exec ∧ c.code = μ.2.1 ∧ c.maxLocals = μ.2.2.1 ∧ s.vm.findClass μ.1.cls = some m.cls ∧ (∀ w ∈ BIG, w.before args s = true) ∧ meth.sig.returnType = μ.2.2.2.1 ∧ meth.locks = false ∧ va_K D vwCl (tysC g) s ∧ (∀ q, s.heap.size ≤ q → A q) ∧ l.stackTraces = false ∧ NstOK s ∧ StrOK ad0 s ∧ StaOK A s s.heap ∧ TxtOK A ad0 s s.heap
def WW (C : Ctx) (μ : MI) (k n pc : Nat) (lv : List (Nat × Value)) (st : List Value) (h : Hp) : Prop := match C with
  | (p, l, e, R, s, m, args, below, meth, c, _, _, _, _, _, Qf) => ∀ (ad : Nat → Nat) (H : Heap) (locs : List Loc) (ls : Array Slot), Wd C ad h H locs → (∀ q ∈ lv, RO h.2.2.2 q.2) → (∀ v ∈ st, RO h.2.2.2 v) → lv_has ls μ.2.2.1 (lv.map (cvl ad)) → W p l e R s m args below meth c H locs k n Qf (F0 m pc ls (st.map (cv ad)))
