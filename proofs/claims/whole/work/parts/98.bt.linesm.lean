/-! rights read: all lines, by the reference -/
section LINESM
variable {K V : Nat → Int32} {P B : Nat → Nat} {Y : Hp → Nat → Prop} {h q g : Hp} {d k b num op kind : Nat} {X : String → Hp → Prop} {F : Int32 → Hp → Prop} {G : Hp → Prop} {ls : List LI}
/-- lines, as the reference holds them (c: the codes, e: the lines) -/
def LsM (c e : Nat) (h : Hp) (ls : List LI) : Prop := (∀ i, i < (tRl ls).length → h.1 c i = (tRl ls).getD i 0) ∧ ∀ j l, ls[j]? = some l → h.1 e (4 * j) = l.1 ∧ h.1 e (4 * j + 1) = nI (pR ls j) ∧ h.1 e (4 * j + 2) = nI (pR ls j + l.2.1.2.length) ∧ h.1 e (4 * j + 3) = nI (pR ls j + l.2.1.2.length + l.2.2.2.length)
theorem LsM_s (L : LsM 137 139 h ls) (z : (liR K V k ls.length (tRl ls).length).1 = 0) (p : PLM K B Y h k ls.length (tRl ls).length (liR K V k ls.length (tRl ls).length) q) : LsM 137 139 q (ls ++ [(K k, (liR K V k ls.length (tRl ls).length).2.2.1, (liR K V k ls.length (tRl ls).length).2.2.2)]) := by
  obtain ⟨c, ⟨a1, a2, a3, a4⟩, b1, y1, y2, y0⟩ := p.2.1 z
  obtain ⟨g3, g4⟩ := L
  refine ⟨fun i hi => ?_, fun j l e => ?_⟩
  · rw [tRl_app] at hi ⊢
    rw [List.length_append, rcL_m, List.length_append] at hi
    rw [List.getD_eq_getElem?_getD]
    by_cases i1 : i < (tRl ls).length
    · rw [List.getElem?_append_left i1, ← List.getD_eq_getElem?_getD, y0 i i1]; exact g3 i i1
    · rw [List.getElem?_append_right (by omega), rcL_m]
      by_cases i2 : i - (tRl ls).length < (liR K V k ls.length (tRl ls).length).2.2.1.2.length
      · rw [List.getElem?_append_left i2, ← List.getD_eq_getElem?_getD, ← y1 _ i2, show (tRl ls).length + (i - (tRl ls).length) = i by omega]
      · rw [List.getElem?_append_right (by omega), ← List.getD_eq_getElem?_getD, ← y2 _ (by omega), show (tRl ls).length + (liR K V k ls.length (tRl ls).length).2.2.1.2.length + (i - (tRl ls).length - (liR K V k ls.length (tRl ls).length).2.2.1.2.length) = i by omega]
  · obtain ⟨hj, e⟩ | ⟨hj, e⟩ := app_get e
    · rw [pR_app (by omega), b1 _ (by omega), b1 _ (by omega), b1 _ (by omega), b1 _ (by omega)]; exact g4 j l e
    · subst e
      rw [hj, pR_app (Nat.le_refl _), pR_len]
      exact ⟨a1, a2, a3, a4⟩
def PRM (K V : Nat → Int32) (P B : Nat → Nat) (Y : Hp → Nat → Prop) (h : Hp) (r : Nat × Nat × List LI) (q : Hp) : Prop := FLM h q ∧ (r.1 = 0 → RSt Y q r.2.1 (tRl r.2.2).length 0 ∧ LsM 137 139 q r.2.2 ∧ LsOK K P r.2.1 r.2.2 ∧ OKk K r.2.1) ∧ (r.1 ≠ 0 → RFd B q r.1 r.2.1)
theorem ty_0 {s : Int32} : ty s = 0 ↔ s = 16 := by
  unfold ty
  by_cases h1 : s = 16
  · rw [if_pos h1]; exact ⟨fun _ => h1, fun _ => rfl⟩
  rw [if_neg h1]
  by_cases h2 : s = 17
  · rw [if_pos h2]; exact ⟨fun z => absurd z (by decide), fun z => absurd z h1⟩
  rw [if_neg h2]
  by_cases h3 : s = 15
  · rw [if_pos h3]; exact ⟨fun z => absurd z (by decide), fun z => absurd z h1⟩
  rw [if_neg h3]
  by_cases h4 : s < 15
  · rw [if_pos h4]; exact ⟨fun z => absurd z (by decide), fun z => absurd z h1⟩
  · rw [if_neg h4]; exact ⟨fun z => absurd z (by decide), fun z => absurd z h1⟩
theorem lp_text (W : YOK K V B Y) (Tk : TkP K V P) : ∀ (f k : Nat) (ls : List LI) (g : Hp), 300 < f + k → Std g.2.2 → LsOK K P k ls → OKk K k → RSt Y g k (tRl ls).length 0 → LsM 137 139 g ls → (∀ q m, PRM K V P B Y g (rdR K V f k ls) q → ((rdR K V f k ls).1 = 0 → m = (rdR K V f k ls).2.2.length) → E mX12_text 32 0 0 86 [(0, .ref 91), (2, .int (nI m))] [] q (Qi F) X) → E mX12_text 32 0 0 61 [(0, .ref 91), (2, .int (nI ls.length))] [] g (Qi F) X := by
  intro f
  induction f with
  | zero =>
    intro k ls g hT hS L o s C hq
    have := Tk.k300 o
    omega
  | succ f ih =>
    intro k ls g hT hS L o s C hq
    rw [rdR] at hq
    have y1 := (W.1 g k s.1).1
    refine sgX12_text_61 _ (by decide) hS ⟨fun _ => ⟨fun w => ?_, fun w => ?_⟩, fun w => absurd s.2.1 w⟩
    · have w := ty_0.mp (y1.symm.trans w)
      rw [if_pos w] at hq
      exact hq g _ ⟨Fr.rf, fun _ => ⟨s, C, L, o⟩, fun y => absurd rfl y⟩ fun _ => rfl
    · have w : ¬ K k = 16 := fun y => w (y1.trans (ty_0.mpr y))
      rw [if_neg w] at hq
      refine ok_readLine W Tk hS o L.2.2.1 L.2.1 s fun q p => ?_
      have hSq := p.1.sd hS
      rw [nI_1]
      by_cases z : (liR K V k ls.length (tRl ls).length).1 = 0
      · rw [if_neg (fun y => y z)] at hq
        obtain ⟨L2, o2, k2⟩ := LsOK_s Tk o L z
        have c2 := (p.2.1 z).1
        have e1 : ls.length + 1 = (ls ++ [(K k, (liR K V k ls.length (tRl ls).length).2.2.1, (liR K V k ls.length (tRl ls).length).2.2.2)]).length := by rw [List.length_append, List.length_singleton]
        rw [e1]
        refine ih _ _ q (by omega) hSq L2 o2 ?_ (LsM_s C z p) fun q2 m p2 hm => hq q2 m ⟨p.1.tr p2.1, p2.2⟩ hm
        rw [tRl_app, List.length_append, rcL_m, List.length_append, ← Nat.add_assoc]
        exact c2
      · rw [if_pos z] at hq
        have fd := p.2.2 z
        exact sgX12_text_61 _ (by decide) hSq ⟨fun w3 => absurd w3 fd.ne0, fun _ => hq q _ ⟨p.1, fun y => absurd y z, fun _ => fd⟩ fun y => absurd y z⟩
/-- what stands behind a text that is taken -/
theorem ok_textE {m : Nat} {r : Nat × Nat × List LI} (Tk : TkP K V P) (hS : Std h.2.2) (p : PRM K V P B Y g r h) (hm : r.1 = 0 → m = r.2.2.length) (h0 : r.1 = 0 → ∀ q, Fr [138, 140] [(91, 75), (91, 76), (91, 79)] h q → q.1 91 75 = 0 → q.1 91 76 = -1 → q.1 91 79 = nI r.2.2.length → LsM 138 140 q r.2.2 → F (nI r.2.2.length) q) (h1 : r.1 ≠ 0 → ∀ q, Fr [] [(91, 75), (91, 76)] h q → q.1 91 75 = nI r.1 → q.1 91 76 = nI (B r.2.1) → F (-10 - nI r.1) q) : E mX12_text 32 0 0 86 [(0, .ref 91), (2, .int (nI m))] [] h (Qi F) X := by
  by_cases z : r.1 = 0
  · obtain ⟨s, L, LO, o⟩ := p.2.1 z
    have fin := h0 z
    have em := hm z
    subst em
    have n12 := LO.2.2.1
    obtain ⟨cd, ln⟩ := L
    have a := LO.2.1
    have b2 := Tk.2.2.1 _ o
    -- the codes
    have lpA : ∀ (n i : Nat) (q : Hp), i + n = (tRl r.2.2).length → Fr [138, 140] [(91, 75), (91, 76), (91, 79)] h q → q.1 91 75 = 0 → q.1 91 76 = -1 → q.1 91 79 = nI r.2.2.length → (∀ j, j < i → q.1 138 j = h.1 137 j) → (∀ q2, Fr [138, 140] [(91, 75), (91, 76), (91, 79)] h q2 → q2.1 91 75 = 0 → q2.1 91 76 = -1 → q2.1 91 79 = nI r.2.2.length → (∀ j, j < (tRl r.2.2).length → q2.1 138 j = h.1 137 j) → E mX12_text 32 0 0 163 [(0, .ref 91), (2, .int (nI r.2.2.length)), (3, .int (nI 0))] [] q2 (Qi F) X) → E mX12_text 32 0 0 135 [(0, .ref 91), (2, .int (nI r.2.2.length)), (3, .int (nI i))] [] q (Qi F) X := by
      intro n
      induction n with
      | zero =>
        intro i q e f x1 x2 x3 I nx
        have e77 : q.1 91 77 = nI (tRl r.2.2).length := by rw [f.i 91 77]; exact s.2.2.1
        exact sgX12_text_135 _ _ (by decide) (f.sd hS) ⟨fun _ => nx q f x1 x2 x3 fun j hj => I j (by omega), fun w => absurd (by rw [e77]; exact nI_le (by omega) (by omega)) w⟩
      | succ n ih =>
        intro i q e f x1 x2 x3 I nx
        have e77 : q.1 91 77 = nI (tRl r.2.2).length := by rw [f.i 91 77]; exact s.2.2.1
        refine sgX12_text_135 _ _ (by decide) (f.sd hS) ⟨fun w => absurd w (by rw [e77]; exact nI_ge (by omega) (by omega)), fun _ => ?_⟩
        rw [nI_clamp (by omega), nI_1]
        refine ⟨vin (by omega), vin (by omega), ih (i + 1) _ (by omega) (f.tr Fr.pI) ?_ ?_ ?_ (fun j hj => ?_) nx⟩
        · rw [hI_c (by decide)]; exact x1
        · rw [hI_c (by decide)]; exact x2
        · rw [hI_c (by decide)]; exact x3
        · by_cases e2 : j = i
          · rw [e2, hI_k, f.i 137]
          · rw [hI_j e2]; exact I j (by omega)
    have lpB : ∀ (n i : Nat) (q : Hp), i + n = 4 * r.2.2.length → Fr [138, 140] [(91, 75), (91, 76), (91, 79)] h q → q.1 91 75 = 0 → q.1 91 76 = -1 → q.1 91 79 = nI r.2.2.length → (∀ j, j < (tRl r.2.2).length → q.1 138 j = h.1 137 j) → (∀ j, j < i → q.1 140 j = h.1 139 j) → E mX12_text 32 0 0 163 [(0, .ref 91), (2, .int (nI r.2.2.length)), (3, .int (nI i))] [] q (Qi F) X := by
      intro n
      induction n with
      | zero =>
        intro i q e f x1 x2 x3 J I
        have i4 : i = 4 * r.2.2.length := by omega
        refine sgX12_text_163 _ _ (by decide) (f.sd hS) ⟨fun _ => fin q f x1 x2 x3 ⟨fun j hj => by rw [J j hj]; exact cd j hj, fun j l e2 => ?_⟩, fun w => absurd (by rw [f4, i4]; exact Int32.le_refl _) w⟩
        have hj : j < r.2.2.length := (List.getElem?_eq_some_iff.mp e2).1
        rw [I _ (by omega), I _ (by omega), I _ (by omega), I _ (by omega)]
        exact ln j l e2
      | succ n ih =>
        intro i q e f x1 x2 x3 J I
        refine sgX12_text_163 _ _ (by decide) (f.sd hS) ⟨fun w => absurd w (by rw [f4]; exact nI_ge (by omega) (by omega)), fun _ => ?_⟩
        rw [nI_clamp (by omega), nI_1]
        refine ⟨vin (by omega), vin (by omega), ih (i + 1) _ (by omega) (f.tr Fr.pI) ?_ ?_ ?_ (fun j hj => ?_) fun j hj => ?_⟩
        · rw [hI_c (by decide)]; exact x1
        · rw [hI_c (by decide)]; exact x2
        · rw [hI_c (by decide)]; exact x3
        · rw [hI_c (by decide)]; exact J j hj
        · by_cases e2 : j = i
          · rw [e2, hI_k, f.i 139]
          · rw [hI_j e2]; exact I j (by omega)
    refine sgX12_text_86 _ (by decide) hS ⟨fun _ => ?_, fun w => absurd s.2.1 w⟩
    rw [s.2.1]
    have hS1 : Std (hI h 91 75 0).2.2 := hS
    refine sgX12_text_110 _ _ (by decide) hS1 ⟨fun _ => ?_, fun w => absurd (show (hI h 91 75 0).1 91 73 = 0 from s.2.1) w⟩
    have f0 : Fr [138, 140] [(91, 75), (91, 76), (91, 79)] h (hI (hI (hI h 91 75 0) 91 76 (-1)) 91 79 (nI r.2.2.length)) := Fr.tr (Fr.tr Fr.pI Fr.pI) Fr.pI
    exact lpA _ 0 _ (Nat.zero_add _) f0 rfl rfl rfl (fun j hj => absurd hj (Nat.not_lt_zero _)) fun q2 f2 x1 x2 x3 J => lpB _ 0 q2 (Nat.zero_add _) f2 x1 x2 x3 J fun j hj => absurd hj (Nat.not_lt_zero _)
  · have fd := p.2.2 z
    refine sgX12_text_86 _ (by decide) hS ⟨fun w => absurd w fd.ne0, fun _ => ?_⟩
    have e73 : ∀ x, (hI h 91 75 x).1 91 73 = nI r.1 := fun _ => fd.1
    refine sgX12_text_110 _ _ (by decide) hS ⟨fun w => absurd w fd.ne0, fun _ => ?_⟩
    rw [e73, fd.1, fd.2.2]
    exact h1 z _ (Fr.tr Fr.pI Fr.pI) rfl rfl
end LINESM
