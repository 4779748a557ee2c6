/-! words, compared -/
section WORDS
variable {t : Nat → Int32} {n p b e w k T i : Nat} {h q g : Hp} {d : Nat} {X : String → Hp → Prop} {F : Int32 → Hp → Prop} {G : Hp → Prop} {bs : List Int32}
theorem wdB_iff : ∀ m k, wdB t b e w m k = true ↔ ∀ j, k ≤ j → j < k + m → (if b + j < e then t (b + j) else 32) = txb_28.getD (w * 7 + j) 0
  | 0, k => ⟨fun _ j h1 h2 => by omega, fun _ => rfl⟩
  | m + 1, k => by
    rw [wdB, Bool.and_eq_true, decide_eq_true_eq, wdB_iff m (k + 1)]
    refine ⟨fun z j h1 h2 => ?_, fun z => ⟨z k (Nat.le_refl _) (by omega), fun j h1 h2 => z j (by omega) (by omega)⟩⟩
    by_cases q : j = k
    · rw [q]; exact z.1
    · exact z.2 j (by omega) (by omega)
def isB (t : Nat → Int32) (b : Nat) (bs : List Int32) : Nat → Nat → Bool
  | 0, _ => true
  | m + 1, k => decide (t (b + k) = bs.getD k 0) && isB t b bs m (k + 1)
theorem isB_iff : ∀ m k, isB t b bs m k = true ↔ ∀ j, k ≤ j → j < k + m → t (b + j) = bs.getD j 0
  | 0, k => ⟨fun _ j h1 h2 => by omega, fun _ => rfl⟩
  | m + 1, k => by
    rw [isB, Bool.and_eq_true, decide_eq_true_eq, isB_iff m (k + 1)]
    refine ⟨fun z j h1 h2 => ?_, fun z => ⟨z k (Nat.le_refl _) (by omega), fun j h1 h2 => z j (by omega) (by omega)⟩⟩
    by_cases q : j = k
    · rw [q]; exact z.1
    · exact z.2 j (by omega) (by omega)
def wt3 : List (Nat × Nat × List Int32) := [(37, 7, txb_37), (38, 8, txb_38), (39, 9, txb_39), (40, 10, txb_40), (41, 11, txb_41), (42, 12, txb_42), (43, 13, txb_43), (34, 0, txb_34), (35, 1, txb_35), (36, 2, txb_36), (44, 3, txb_44), (45, 6, txb_45), (46, 5, txb_46), (47, 4, txb_47)]
theorem wt3_ok : ∀ r ∈ wt3, (r.1, r.2.2) ∈ txL ∧ r.2.1 < 14 ∧ r.2.2.length ≤ 7 ∧ (∀ k, k < 7 → txb_28.getD (r.2.1 * 7 + k) 0 = if k < r.2.2.length then r.2.2.getD k 0 else 32) ∧ ∀ k, k < r.2.2.length → isLt (r.2.2.getD k 0) = true := by decide +kernel
theorem wtab_3 : ∀ q ∈ wtab, ∃ r ∈ wt3, r.1 = q.1 ∧ q.2 = nI r.2.1 := by decide +kernel
theorem wd_uq : ∀ x, x < 14 → ∀ y, y < 14 → (∀ k, k < 7 → txb_28.getD (x * 7 + k) 0 = txb_28.getD (y * 7 + k) 0) → x = y := by decide +kernel
theorem isWd_uq {x y : Nat} (hx : x < 14) (hy : y < 14) (h1 : isWd t b e x = true) (h2 : isWd t b e y = true) : x = y := by
  rw [isWd, Bool.and_eq_true, wdB_iff] at h1 h2
  exact wd_uq x hx y hy fun k hk => (h1.2 k (Nat.zero_le _) (by omega)).symm.trans (h2.2 k (Nat.zero_le _) (by omega))
theorem wdF_is (hw : w < 14) : ∀ m, m ≤ 14 → (wdF t b e m = nI w ↔ w < m ∧ isWd t b e w = true)
  | 0, _ => by
    refine ⟨fun z => ?_, fun z => absurd z.1 (Nat.not_lt_zero _)⟩
    have z : (14 : Int32) = nI w := z
    rw [lit_nI 14] at z
    have := nI_inj (by omega) (by omega) z
    omega
  | m + 1, hm => by
    rw [wdF]
    by_cases q : isWd t b e m = true
    · rw [if_pos q]
      refine ⟨fun z => ?_, fun z => ?_⟩
      · have := nI_inj (by omega) (by omega) z
        subst this
        exact ⟨Nat.lt_succ_self _, q⟩
      · rw [isWd_uq (by omega) hw q z.2]
    · rw [if_neg q, wdF_is hw m (by omega)]
      refine ⟨fun z => ⟨by omega, z.2⟩, fun z => ⟨?_, z.2⟩⟩
      refine Nat.lt_of_le_of_ne (by omega) fun y => q ?_
      rw [← y]; exact z.2
theorem wd_eq (hbe : b ≤ e) (hl : ∀ j, b ≤ j → j < e → isLt (t j) = true) (hL : bs.length ≤ 7) (hW : ∀ k, k < 7 → txb_28.getD (w * 7 + k) 0 = if k < bs.length then bs.getD k 0 else 32) (hB : ∀ k, k < bs.length → isLt (bs.getD k 0) = true) : isWd t b e w = (decide (e - b = bs.length) && isB t b bs bs.length 0) := by
  rw [Bool.eq_iff_iff, isWd, Bool.and_eq_true, Bool.and_eq_true, decide_eq_true_eq, decide_eq_true_eq, wdB_iff, isB_iff]
  have bl : ∀ c : Int32, isLt c = true → c ≠ 32 := fun c h z => by rw [z] at h; exact absurd h (by decide)
  refine ⟨fun z => ?_, fun z => ?_⟩
  · obtain ⟨z1, z2⟩ := z
    have en : e - b = bs.length := by
      refine Nat.le_antisymm (Nat.not_lt.mp fun y => ?_) (Nat.not_lt.mp fun y => ?_)
      · have := z2 bs.length (Nat.zero_le _) (by omega)
        rw [if_pos (by omega), hW _ (by omega), if_neg (by omega)] at this
        exact bl _ (hl _ (by omega) (by omega)) this
      · have := z2 (e - b) (Nat.zero_le _) (by omega)
        rw [if_neg (by omega), hW _ (by omega), if_pos y] at this
        exact bl _ (hB _ y) this.symm
    refine ⟨en, fun j h1 h2 => ?_⟩
    have := z2 j (Nat.zero_le _) (by omega)
    rw [if_pos (by omega), hW _ (by omega), if_pos (by omega)] at this
    exact this
  · obtain ⟨z1, z2⟩ := z
    refine ⟨by omega, fun j h1 h2 => ?_⟩
    rw [hW j (by omega)]
    by_cases y : j < bs.length
    · rw [if_pos (by omega), if_pos y]; exact z2 j (Nat.zero_le _) (by omega)
    · rw [if_neg (by omega), if_neg y]
theorem ok_isX (hd : 9 ≤ d) (hS : Std h.2.2) (tq : (i, bs) ∈ txL) (TX : TxM t n h) (hbe : b ≤ e) (he : e ≤ n) (hn : n ≤ 300) (h9 : h.1 91 69 = nI e) (h0 : h.1 91 70 = nI b) (hb3 : h.1 91 73 = 0) (hq : F (bI (decide (h.1 91 71 = 1) && (decide (e - b = bs.length) && isB t b bs bs.length 0))) h) : OKi d mX12_is [.ref 91, .ref (1000 + i)] h F X := by
  have l200 : bs.length < 200 := (tx_ok _ tq).2.1
  have eL : Int32.ofNat bs.length = nI bs.length := rfl
  have no : ∀ k, F 0 h → E mX12_is 8 0 0 39 [(0, .ref 91), (1, .ref (1000 + i)), (2, .int 0), (3, .int k)] [] h (Qi F) X := fun k z => sgX12_is_39 tq _ _ (Nat.le_refl _) hS ⟨fun _ => ⟨Or.inl rfl, z⟩, fun y => absurd rfl y⟩
  have go : e - b = bs.length → ∀ m k, k + m = bs.length → F (bI (isB t b bs m k)) h → E mX12_is 8 0 0 39 [(0, .ref 91), (1, .ref (1000 + i)), (2, .int 1), (3, .int (nI k))] [] h (Qi F) X := by
    intro en m
    induction m with
    | zero =>
      intro k ek hF
      refine sgX12_is_39 tq _ _ (Nat.le_refl _) hS ⟨fun y => absurd y (by decide), fun _ => ok_lengthT tq (by decide) hS ⟨fun _ => ⟨Or.inr rfl, hF⟩, fun y => absurd (by rw [eL]; exact nI_le (by omega) (by omega)) y⟩⟩
    | succ m ih =>
      intro k ek hF
      rw [isB] at hF
      refine sgX12_is_39 tq _ _ (Nat.le_refl _) hS ⟨fun y => absurd y (by decide), fun _ => ok_lengthT tq (by decide) hS ⟨fun y => absurd y (by rw [eL]; exact nI_ge (by omega) (by omega)), fun _ => ?_⟩⟩
      rw [h0, nI_add, nI_clamp (by omega), TX.1 _ (by omega)]
      refine ⟨vin (by omega), ok_charAtT tq (vin (by omega) (by omega)) (by decide) hS ?_⟩
      rw [nI_clamp (by omega), nI_1]
      refine ⟨fun y => ?_, fun y => ?_⟩
      · rw [decide_eq_true y, Bool.true_and] at hF
        exact ih (k + 1) (by omega) hF
      · rw [decide_eq_false y, Bool.false_and] at hF
        exact no _ hF
  refine enX12_is tq hd hS ⟨fun _ => ⟨fun w => ?_, fun w => ?_⟩, fun w => absurd hb3 w⟩
  · rw [decide_eq_true w, Bool.true_and] at hq
    refine ok_lengthT tq (by decide) hS ?_
    rw [h9, h0, pk_sub hbe, eL]
    refine ⟨fun y => ?_, fun y => ?_⟩
    · have y := nI_inj (by omega) (by omega) y
      rw [decide_eq_true y, Bool.true_and] at hq
      exact go y _ 0 (Nat.zero_add _) hq
    · rw [decide_eq_false (fun z => y (by rw [z])), Bool.false_and] at hq
      exact no 0 hq
  · rw [decide_eq_false w, Bool.false_and] at hq
    exact no 0 hq
theorem ok_isXF (hd : 9 ≤ d) (hS : Std h.2.2) (tq : (i, bs) ∈ txL) (hb3 : h.1 91 73 ≠ 0) (hq : F 0 h) : OKi d mX12_is [.ref 91, .ref (1000 + i)] h F X :=
  enX12_is tq hd hS ⟨fun w => absurd w hb3, fun _ => sgX12_is_39 tq _ _ (Nat.le_refl _) hS ⟨fun _ => ⟨Or.inl rfl, hq⟩, fun y => absurd rfl y⟩⟩
/-- the tokens, as both read them -/
def Kc (t : Nat → Int32) (n T k : Nat) : Int32 := if k = T then 16 else Kr t n k
theorem Kc_eq (S : ScT t n T) (o : OKk (Kc t n T) k) : Kc t n T k = Kr t n k ∧ k ≤ T := by
  have kT : k ≤ T := Nat.not_lt.mp fun z => (o T z).1 (if_pos rfl)
  by_cases e : k = T
  · rw [Kc, if_pos e]
    obtain z | ⟨z1, z2⟩ := S.2.2.2
    · rw [e]; exact ⟨z.symm, Nat.le_refl _⟩
    · have := (o (T - 1) (by omega)).2
      rw [Kc, if_neg (by omega)] at this
      exact absurd z2 this
  · rw [Kc, if_neg e]; exact ⟨rfl, kT⟩
def Bc (t : Nat → Int32) (n T k : Nat) : Nat := if k = T then n else Br t n k
theorem Bc_eq (S : ScT t n T) (o : OKk (Kc t n T) k) : Bc t n T k = Br t n k := by
  by_cases e : k = T
  · rw [Bc, if_pos e]
    have := (Kc_eq S o).1
    rw [Kc, if_pos e] at this
    have ge : n ≤ Br t n k := tkK_16.mp this.symm
    have le : Br t n k ≤ n := rnE_le (PT_le k)
    omega
  · rw [Bc, if_neg e]
def Ytk (t : Nat → Int32) (n T : Nat) (h : Hp) (k : Nat) : Prop := TxM t n h ∧ TkR t n h (PT t n k) ∧ OKk (Kc t n T) k
theorem YOK_tk (S : ScT t n T) (hn : n ≤ 300) : YOK (Kc t n T) (Vr t n) (Bc t n T) (Ytk t n T) := by
  refine ⟨fun h k y => ?_, fun h q k y f => ?_, fun h k d G X hd hS y o hq => ?_, fun h k d F X i w hd hS y b0 m hF => ?_, fun h d F X i w hd hS b0 m hF => ?_⟩
  · rw [(Kc_eq S y.2.2).1, Bc_eq S y.2.2]
    obtain ⟨y1, y2, y3, y4, y5⟩ := y.2.1
    exact ⟨y3, y4, y5, y2⟩
  · obtain ⟨y1, y2, y3, y4, y5⟩ := y.2.1
    exact ⟨y.1.fr f, ⟨by rw [f.i 91 69]; exact y1, by rw [f.i 91 70]; exact y2, by rw [f.i 91 71]; exact y3, fun z => by rw [f.i 91 72]; exact y4 z, fun z => by rw [f.i 91 72]; exact y5 z⟩, y.2.2⟩
  · exact ok_nextX hd hS y.1 hn (PT_le (k + 1)) y.2.1.1 fun q f r => hq q f ⟨y.1.fr f, r, o⟩
  · obtain ⟨r, hr, e1, e2⟩ := wtab_3 _ m
    obtain ⟨tq, w14, L7, hW, hB⟩ := wt3_ok r hr
    have e1 : r.1 = i := e1
    have e2 : w = nI r.2.1 := e2
    rw [e1] at tq
    rw [(Kc_eq S y.2.2).1] at hF
    obtain ⟨y1, y2, y3, y4, y5⟩ := y.2.1
    have pn := PT_le (t := t) (n := n) k
    have bn : bg t n (PT t n k) ≤ n := rnE_le pn
    have en : tkE t n (PT t n k) ≤ n := tkE_le pn
    have be : bg t n (PT t n k) ≤ tkE t n (PT t n k) := by
      unfold tkE
      split
      · exact Nat.le_refl _
      · split
        · exact rnE_ge
        · split
          · exact rnE_ge
          · omega
    refine ok_isX hd hS tq y.1 be en hn y1 y2 b0 ?_
    have goal : decide (Kr t n k = w) = (decide (h.1 91 71 = 1) && (decide (tkE t n (PT t n k) - bg t n (PT t n k) = r.2.2.length) && isB t (bg t n (PT t n k)) r.2.2 r.2.2.length 0)) := by
      rw [y3]
      by_cases lt : ¬ n ≤ bg t n (PT t n k) ∧ isLt (t (bg t n (PT t n k))) = true
      · have eE : tkE t n (PT t n k) = rnE isLt t n (bg t n (PT t n k)) := by unfold tkE; rw [if_neg lt.1, if_pos lt.2]
        have eK : tkK t n (PT t n k) = wdF t (bg t n (PT t n k)) (rnE isLt t n (bg t n (PT t n k))) 14 := by unfold tkK; rw [if_neg lt.1, if_pos lt.2]
        obtain ⟨j, hj, ej⟩ := wdF_14 (t := t) (b := bg t n (PT t n k)) (e := rnE isLt t n (bg t n (PT t n k))) 14 (Nat.le_refl _)
        have t1 : ty (tkK t n (PT t n k)) = 1 := by rw [eK, ej]; exact ty_w hj
        rw [t1, decide_eq_true rfl, Bool.true_and, eE, ← wd_eq (w := r.2.1) rnE_ge (rnE_in _ _ rfl) L7 hW hB, e2]
        show decide (tkK t n (PT t n k) = nI r.2.1) = _
        rw [eK, Bool.eq_iff_iff, decide_eq_true_eq, wdF_is w14 14 (Nat.le_refl _)]
        exact ⟨fun z => z.2, fun z => ⟨w14, z⟩⟩
      · have t1 : ty (tkK t n (PT t n k)) ≠ 1 := by
          unfold tkK
          by_cases h1 : n ≤ bg t n (PT t n k)
          · rw [if_pos h1]; decide
          rw [if_neg h1, if_neg (fun z => lt ⟨h1, z⟩)]
          by_cases h3 : isDg (t (bg t n (PT t n k))) = true
          · rw [if_pos h3]; split <;> decide
          rw [if_neg h3]
          by_cases h4 : isKn (t (bg t n (PT t n k))) = true
          · rw [if_pos h4, (ty_kn h4).1]; decide
          · rw [if_neg h4]; decide
        rw [decide_eq_false t1, Bool.false_and]
        refine decide_eq_false fun z => t1 ?_
        show ty (Kr t n k) = 1
        rw [z, e2]; exact ty_w (by omega)
    rw [← goal]; exact hF
  · obtain ⟨r, hr, e1, e2⟩ := wtab_3 _ m
    obtain ⟨tq, _⟩ := wt3_ok r hr
    have e1 : r.1 = i := e1
    rw [e1] at tq
    exact ok_isXF hd hS tq b0 hF
end WORDS
