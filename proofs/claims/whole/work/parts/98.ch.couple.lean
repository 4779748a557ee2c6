/-! one coupling of all: what holds of the reference's state, and between it and the class's cells -/
section CPL
variable {σ σ' h q g : Hp} {w : Int64}
def VV (σ : Hp) : Prop := VS σ ∧ VN σ ∧ VZ σ ∧ VYt σ ∧ VTp σ ∧ σ.1 91 36 = -1
def CC (σ h : Hp) : Prop := CS σ h ∧ CMp σ h ∧ CTp σ h ∧ CRt σ h ∧ CYt σ h
theorem CC.sm (c : CC σ h) (e : ∀ c k, c < 91 → scr c k = false → q.1 c k = h.1 c k ∧ q.2.1 c k = h.2.1 c k) : CC σ q := by
  obtain ⟨c1, c2, c3, c4, c5⟩ := c
  refine ⟨c1.lo fun c k hc => e c k (by omega) (scr_lo hc), ⟨?_, fun k hk => ?_⟩, ⟨?_, fun i hi => ?_, ?_, ?_⟩, c4.hc ?_ fun j => ⟨?_, ?_, ?_, ?_, ?_⟩, ⟨fun i hi => ?_, fun j hj => ?_⟩⟩
  · rw [(e 57 8 (by decide) rfl).1]; exact c2.1
  · rw [(e 63 k (by decide) rfl).1, (e 64 k (by decide) rfl).1]; exact c2.2 k hk
  · rw [(e 0 14 (by decide) rfl).1]; exact c3.1
  · rw [(e 89 i (by decide) rfl).1]; exact c3.2.1 i hi
  · rw [(e 73 1 (by decide) rfl).1]; exact c3.2.2.1
  · rw [(e 73 2 (by decide) rfl).1]; exact c3.2.2.2
  · exact (e 65 0 (by decide) rfl).1
  · exact (e 66 j (by decide) rfl).1
  · exact (e 67 j (by decide) rfl).1
  · exact (e 68 j (by decide) rfl).1
  · exact (e 69 j (by decide) rfl).1
  · exact (e 70 j (by decide) rfl).1
  · rw [(e 86 i (by decide) rfl).1, (e 87 i (by decide) rfl).1]; exact c5.1 i hi
  · rw [(e 88 j (by decide) rfl).2]; exact c5.2 j hj
theorem CS.lo1 (c : CS σ h) (e : ∀ c k, 0 < c → c < 30 → q.1 c k = h.1 c k ∧ q.2.1 c k = h.2.1 c k) : CS σ q := by
  have := c.lo (q := (fun c k => if c = 0 then h.1 c k else q.1 c k, fun c k => if c = 0 then h.2.1 c k else q.2.1 c k, q.2.2)) fun c k hc => by
    by_cases z : c = 0
    · exact ⟨if_pos z, if_pos z⟩
    · have := e c k (by omega) hc
      exact ⟨(if_neg z).trans this.1, (if_neg z).trans this.2⟩
  exact this
theorem CC.kc (c : CC σ h) (k : Kp scr h q) : CC σ q := c.sm fun c j _ z => k.2 c j z
theorem CC.mm (c : CC σ h) (k : KM h q) : CC σ q := c.sm fun c j hc _ => k.2 c j hc
theorem CC.out (c : CC σ h) : CC σ (hL h 146 0 w) := c.sm fun c j hc _ => ⟨rfl, hL_c (by omega)⟩
theorem VV.out (v : VV σ) : VV (hL σ 146 0 w) := v
theorem CC.so (c : CC σ h) : CC (hL σ 146 0 w) h := ⟨c.1, c.2.1, c.2.2.1, c.2.2.2.1, c.2.2.2.2.1, fun j hj => by rw [hL_c (by decide)]; exact c.2.2.2.2.2 j hj⟩
/-- what a write to land, deeds, links or sheets leaves alone in the reference -/
def wok (L : List Nat) (fs : List (Nat × Nat)) : Prop := (inW L fs 91 8 = false ∧ inW L fs 91 67 = false ∧ inW L fs 91 75 = false ∧ inW L fs 91 76 = false ∧ inW L fs 91 79 = false ∧ inW L fs 91 36 = false) ∧ ∀ k, inW L fs 131 k = false ∧ inW L fs 132 k = false ∧ inW L fs 136 k = false ∧ inW L fs 138 k = false ∧ inW L fs 140 k = false ∧ inW L fs 143 k = false ∧ inW L fs 144 k = false ∧ inW L fs 145 k = false
section FRS
variable {L : List Nat} {fs : List (Nat × Nat)}
theorem CC.wr (c : CC σ h) (f : Fr L fs σ σ') (e : ∀ c k, (c = 0 ∨ 30 ≤ c) → c ≠ 71 → c ≠ 72 → c < 91 → q.1 c k = h.1 c k ∧ q.2.1 c k = h.2.1 c k) (cs : CS σ' q) (w : wok L fs := by exact ⟨⟨rfl, rfl, rfl, rfl, rfl, rfl⟩, fun _ => ⟨rfl, rfl, rfl, rfl, rfl, rfl, rfl, rfl⟩⟩) : CC σ' q := by
  obtain ⟨c1, c2, c3, c4, c5⟩ := c
  obtain ⟨⟨w1, w2, w3, w4, w5, w6⟩, w⟩ := w
  have eK : nK σ' = nK σ := by rw [nK, nK, f.i 91 8 w1]
  have e : ∀ c k, ((c = 0 ∨ 30 ≤ c) ∧ c ≠ 71 ∧ c ≠ 72 ∧ c < 91) → q.1 c k = h.1 c k ∧ q.2.1 c k = h.2.1 c k := fun c k z => e c k z.1 z.2.1 z.2.2.1 z.2.2.2
  refine ⟨cs, ⟨?_, fun k hk => ?_⟩, ⟨?_, fun i hi => ?_, ?_, ?_⟩, (c4.sg (f.i 91 79 w5) fun j => ⟨f.i 138 j (w j).2.2.2.1, f.i 140 j (w j).2.2.2.2.1⟩).hc ?_ fun j => ⟨?_, ?_, ?_, ?_, ?_⟩, ⟨fun i hi => ?_, fun j hj => ?_⟩⟩
  · rw [(e 57 8 (by decide)).1, eK]; exact c2.1
  · rw [eK] at hk
    rw [(e 63 k (by decide)).1, (e 64 k (by decide)).1, f.i 131 k (w k).1, f.i 132 k (w k).2.1]; exact c2.2 k hk
  · rw [(e 0 14 (by decide)).1, f.i 91 67 w2]; exact c3.1
  · rw [(e 89 i (by decide)).1, f.i 136 i (w i).2.2.1]; exact c3.2.1 i hi
  · rw [(e 73 1 (by decide)).1, f.i 91 75 w3]; exact c3.2.2.1
  · rw [(e 73 2 (by decide)).1, f.i 91 76 w4]; exact c3.2.2.2
  · exact (e 65 0 (by decide)).1
  · exact (e 66 j (by decide)).1
  · exact (e 67 j (by decide)).1
  · exact (e 68 j (by decide)).1
  · exact (e 69 j (by decide)).1
  · exact (e 70 j (by decide)).1
  · rw [(e 86 i (by decide)).1, (e 87 i (by decide)).1, f.i 143 i (w i).2.2.2.2.2.1, f.i 144 i (w i).2.2.2.2.2.2.1]; exact c5.1 i hi
  · rw [(e 88 j (by decide)).2, f.l 145 j (w j).2.2.2.2.2.2.2]; exact c5.2 j hj
theorem CC.kl (c : CC σ h) (f : Fr L fs σ σ') (k : KL h q) (cs : CS σ' q) (w : wok L fs := by exact ⟨⟨rfl, rfl, rfl, rfl, rfl, rfl⟩, fun _ => ⟨rfl, rfl, rfl, rfl, rfl, rfl, rfl, rfl⟩⟩) : CC σ' q := c.wr f (fun c j h1 _ _ _ => k.2 c j h1) cs w
theorem VV.wr (v : VV σ) (f : Fr L fs σ σ') (V' : VS σ') (Z' : VZ σ') (w : wok L fs := by exact ⟨⟨rfl, rfl, rfl, rfl, rfl, rfl⟩, fun _ => ⟨rfl, rfl, rfl, rfl, rfl, rfl, rfl, rfl⟩⟩) (w0 : inW L fs 91 1 = false := by rfl) : VV σ' := by
  obtain ⟨V, N, Z, Y, T, a⟩ := v
  obtain ⟨⟨w1, w2, w3, w4, w5, w6⟩, w⟩ := w
  have eT : nT σ' = nT σ := by rw [nT, nT, f.i 91 67 w2]
  refine ⟨V', VN_fr N f w0, Z', fun i hi => ?_, ⟨?_, ?_⟩, ?_⟩
  · rw [f.i 143 i (w i).2.2.2.2.2.1, f.i 144 i (w i).2.2.2.2.2.2.1]; exact Y i hi
  · rw [eT, f.i 91 67 w2]; exact T.1
  · rw [eT]; exact T.2
  · rw [f.i 91 36 w6]; exact a
/-- the state's cells that land, deeds, links and sheets are told by -/
theorem CS.sg (c : CS σ h) (f : Fr L fs σ σ') (h1 : ∀ c k, 92 ≤ c → c ≤ 111 → inW L fs c k = false) (h2 : ∀ k, (1 ≤ k ∧ k ≤ 7) ∨ k = 29 ∨ k = 30 → inW L fs 91 k = false) : CS σ' h := by
  have i1 : ∀ c k, 92 ≤ c ∧ c ≤ 111 → σ'.1 c k = σ.1 c k := fun c k z => f.i c k (h1 c k z.1 z.2)
  have i2 : ∀ k, (1 ≤ k ∧ k ≤ 7) ∨ k = 29 ∨ k = 30 → σ'.1 91 k = σ.1 91 k := fun k z => f.i 91 k (h2 k z)
  exact ⟨c.1.cg (by rw [nD, nD, i2 6 (by decide)]) (fun c k a b => i1 c k ⟨by omega, by omega⟩) ⟨i2 29 (by decide), i2 30 (by decide)⟩ fun a b _ _ => apt_cg (fun k => i1 92 k (by decide)) (fun k => i1 93 k (by decide)) fun q hq => ⟨i1 q a (by omega), i1 q b (by omega)⟩,
    c.2.1.cg (i2 2 (by decide)) fun k => ⟨i1 92 k (by decide), i1 93 k (by decide), i1 94 k (by decide)⟩,
    c.2.2.1.cg ⟨i2 1 (by decide), i2 3 (by decide), i2 4 (by decide), i2 5 (by decide)⟩ fun k => ⟨i1 95 k (by decide), i1 96 k (by decide), i1 97 k (by decide)⟩,
    c.2.2.2.1.cg (i2 7 (by decide)) fun k => ⟨i1 109 k (by decide), i1 110 k (by decide), i1 111 k (by decide)⟩,
    c.2.2.2.2.1.cg fun b m _ _ => i1 107 _ (by decide), c.2.2.2.2.2.cg fun b m _ _ => i1 108 _ (by decide)⟩
theorem VS.sg (V : VS σ) (f : Fr L fs σ σ') (h1 : ∀ c k, 92 ≤ c → c ≤ 111 → inW L fs c k = false) (h2 : ∀ k, 2 ≤ k ∧ k ≤ 8 → inW L fs 91 k = false) : VS σ' := by
  have a : ∀ c, 92 ≤ c ∧ c ≤ 111 → σ'.1 c = σ.1 c := fun c z => funext fun k => f.i c k (h1 c k z.1 z.2)
  have b : ∀ k, 2 ≤ k ∧ k ≤ 8 → σ'.1 91 k = σ.1 91 k := fun k z => f.i 91 k (h2 k z)
  have b2 := b 2 (by decide)
  have b3 := b 3 (by decide)
  have b4 := b 4 (by decide)
  have b5 := b 5 (by decide)
  have b6 := b 6 (by decide)
  have b7 := b 7 (by decide)
  have b8 := b 8 (by decide)
  have a92 := a 92 (by decide)
  have a93 := a 93 (by decide)
  have a95 := a 95 (by decide)
  have a98 := a 98 (by decide)
  have a99 := a 99 (by decide)
  have a100 := a 100 (by decide)
  have a102 := a 102 (by decide)
  have a103 := a 103 (by decide)
  have a104 := a 104 (by decide)
  have a105 := a 105 (by decide)
  have a106 := a 106 (by decide)
  have a107 := a 107 (by decide)
  have a108 := a 108 (by decide)
  have a110 := a 110 (by decide)
  have a111 := a 111 (by decide)
  unfold VS Hand al plc lst pln bar nP nM nH nO nD nL nK at V ⊢
  rw [a92, a93, a95, a98, a99, a100, a102, a103, a104, a105, a106, a107, a108, a110, a111, b2, b3, b4, b5, b6, b7, b8]
  exact V
end FRS
end CPL
/-! what each op writes in the reference -/
section FROPS
variable {σ : Hp} {x y l a b o s m t p c e f : Int32} {v : Int64} {is : Bool}
theorem fr_place : Fr [92, 93, 94] [(91, 2)] σ (nxPlace σ x y l) := by
  rw [nxPlace]; split
  · exact Fr.tr (Fr.tr (Fr.tr Fr.pI Fr.pI) Fr.pI) Fr.pI
  · exact Fr.rf
theorem fr_mark : Fr [] [(91, 3)] σ (nxMark σ) := by
  rw [nxMark]; split
  · exact Fr.pI
  · exact Fr.rf
theorem fr_hand : Fr [95] [(91, 4)] σ (nxHand σ x) := by
  rw [nxHand]; split
  · exact Fr.tr Fr.pI Fr.pI
  · exact Fr.rf
theorem fr_officer : Fr [96, 97] [(91, 5)] σ (nxOfficer σ x y) := by
  rw [nxOfficer]; split
  · exact Fr.tr (Fr.tr Fr.pI Fr.pI) Fr.pI
  · exact Fr.rf
theorem fr_deed : Fr [98, 99, 100, 101, 102, 103] [(91, 6)] σ (nxDeed σ a x y) := by
  rw [nxDeed]; split
  · exact stAdd_fr
  · exact Fr.rf
theorem fr_tell : Fr [107, 108] [] σ (nxTell σ a m s) := by
  rw [nxTell]; split
  · exact stTell_fr
  · exact Fr.rf
theorem fr_doubt : Fr [104] [] σ (nxDoubt σ a is) := by
  rw [nxDoubt]; split
  · exact Fr.pI
  · exact Fr.rf
theorem fr_solve : Fr [102, 103] [] σ (nxSolve σ a x y) := by
  rw [nxSolve]; split
  · exact Fr.tr Fr.pI Fr.pI
  · exact Fr.rf
theorem fr_bar : Fr [106] [] σ (nxBar σ a b) := by
  rw [nxBar]; split
  · exact Fr.tr Fr.pI Fr.pI
  · exact Fr.rf
theorem fr_link : Fr [109, 110, 111] [(91, 7)] σ (nxLink σ o a b) := by
  rw [nxLink]; split
  · exact Fr.tr (Fr.tr (Fr.tr Fr.pI Fr.pI) Fr.pI) Fr.pI
  · exact Fr.rf
theorem fr_forget : Fr [105, 109, 110, 111] [(91, 7)] σ (nxForget σ a) := by
  rw [nxForget]; split
  · exact stForget_fr
  · exact Fr.rf
theorem fr_win : Fr [] [(91, 29), (91, 30)] σ (nxWin σ x y) := by
  rw [nxWin]; split
  · exact Fr.tr Fr.pI Fr.pI
  · exact Fr.rf
theorem fr_take : Fr [107, 108] [] σ (nxTake σ t a) := by
  rw [nxTake]; split
  · exact stTk_fr _
  · exact Fr.rf
theorem fr_keep : Fr [131, 132] [(91, 8)] σ (nxKeep σ a s b) := by
  rw [nxKeep]; split
  · exact Fr.tr (Fr.tr Fr.pI Fr.pI) Fr.pI
  · exact Fr.rf
theorem fr_came : Fr [132] [] σ (nxCame σ m a) := by
  rw [nxCame]; split
  · exact Fr.pI
  · exact Fr.rf
theorem fr_tray : Fr [143, 144, 145] [] σ (nxTray σ t s m) := by
  rw [nxTray]; split
  · exact stTr_fr _
  · exact Fr.rf
theorem fr_write : Fr [145] [] σ (nxWrite σ t p v) := by
  rw [nxWrite]; split
  · exact Fr.pL
  · exact Fr.rf
theorem fr_feed : Fr [136] [(91, 67)] σ (nxFeed σ a b c e f) := by
  rw [nxFeed]; split
  · exact stFeed_fr _
  · exact Fr.rf
theorem VZ_tk {i k : Nat} (V : VS σ) (Z : VZ σ) (hi : i < nD σ) {t n : Nat} (hn : n ≤ nM σ) (hw : allW σ t n = true) : ∀ k, k ≤ n → VZ (stTk σ t i k)
  | 0, _ => Z
  | k + 1, hk => by
    have hD := V.d.2
    have V' := VS_tk V hi hn hw k (by omega)
    exact VZ_tell V' (VZ_tk (k := k) V Z hi hn hw k (by omega)) (by omega) (by rw [(stTk_n k).2]; omega)
theorem VZ_nxTake (V : VS σ) (Z : VZ σ) (Y : VYt σ) : VZ (nxTake σ t a) := by
  have hD := V.d.2
  rw [nxTake]
  by_cases q : cdTake σ t a = 0
  · rw [if_pos q]
    obtain ⟨h1, h2, h3, h4, h5⟩ := cdTake_0 Y q
    obtain ⟨i, _, em, hi⟩ := isD_t V h2
    rw [em, nI_clamp (by omega)]
    exact VZ_tk (k := 0) V Z hi h4 h5 _ (Nat.le_refl _)
  · rw [if_neg q]; exact Z
theorem VV_place (v : VV σ) : VV (nxPlace σ x y l) := v.wr fr_place (VS_nxPlace v.1) (VZ_nxPlace v.2.2.1)
theorem VV_mark (v : VV σ) : VV (nxMark σ) := v.wr fr_mark (VS_nxMark v.1) (VZ_nxMark v.1 v.2.2.1)
theorem VV_hand (v : VV σ) : VV (nxHand σ x) := v.wr fr_hand (VS_nxHand v.1) (VZ_nxHand v.2.2.1)
theorem VV_officer (v : VV σ) : VV (nxOfficer σ x y) := v.wr fr_officer (VS_nxOfficer v.1) (VZ_nxOfficer v.2.2.1)
theorem VV_deed (v : VV σ) : VV (nxDeed σ a x y) := v.wr fr_deed (VS_nxDeed v.1 v.2.1) (VZ_nxDeed v.2.2.1)
theorem VV_tell (v : VV σ) : VV (nxTell σ a m s) := v.wr fr_tell (VS_nxTell v.1) (VZ_nxTell v.1 v.2.2.1)
theorem VV_doubt (v : VV σ) : VV (nxDoubt σ a is) := v.wr fr_doubt (VS_nxDoubt v.1) (VZ_nxDoubt v.2.2.1)
theorem VV_solve (v : VV σ) : VV (nxSolve σ a x y) := v.wr fr_solve (VS_nxSolve v.1) (VZ_nxSolve v.2.2.1)
theorem VV_bar (v : VV σ) : VV (nxBar σ a b) := v.wr fr_bar (VS_nxBar v.1) (VZ_nxBar v.2.2.1)
theorem VV_link (v : VV σ) : VV (nxLink σ o a b) := v.wr fr_link (VS_nxLink v.1) (VZ_nxLink v.2.2.1)
theorem VV_forget (v : VV σ) : VV (nxForget σ a) := v.wr fr_forget (VS_nxForget v.1) (VZ_nxForget v.2.2.1)
theorem VV_win (v : VV σ) : VV (nxWin σ x y) := v.wr fr_win (VS_nxWin v.1) (VZ_fr v.2.2.1 fr_win)
theorem VV_take (v : VV σ) : VV (nxTake σ t a) := v.wr fr_take (VS_nxTake v.1 v.2.2.2.1) (VZ_nxTake v.1 v.2.2.1 v.2.2.2.1)
theorem VV_go {h : Hp} (v : VV σ) (cr : CRt σ h) : VV (nxGo σ h x) := by
  obtain ⟨V, N, Z, Y, T, ak⟩ := v
  obtain ⟨V', Z', N', _, fr⟩ := VX_go (x := x) V Z N cr
  have eT : nT (nxGo σ h x) = nT σ := by rw [nT, nT, fr.i 91 67]
  refine ⟨V', N', Z', fun i hi => ?_, ⟨?_, ?_⟩, ?_⟩
  · rw [fr.i 143, fr.i 144]; exact Y i hi
  · rw [eT, fr.i 91 67]; exact T.1
  · rw [eT]; exact T.2
  · rw [fr.i 91 36]; exact ak
theorem h92 {L : List Nat} {fs : List (Nat × Nat)} (h1 : ∀ c ∈ L, c < 92 ∨ 111 < c := by decide) (h2 : ∀ p ∈ fs, p.1 < 92 ∨ 111 < p.1 := by decide) : ∀ c k, 92 ≤ c → c ≤ 111 → inW L fs c k = false := fun c k a b => by
  simp only [inW, Bool.or_eq_false_iff, List.contains_eq_mem, decide_eq_false_iff_not]
  exact ⟨fun z => by have := h1 c z; omega, fun z => by have := h2 _ z; simp only at this; omega⟩
theorem h91 {L : List Nat} {fs : List (Nat × Nat)} (h1 : ∀ c ∈ L, c ≠ 91 := by decide) (h2 : ∀ p ∈ fs, p.1 = 91 → 8 ≤ p.2 ∧ p.2 ≠ 29 ∧ p.2 ≠ 30 := by decide) : ∀ k, (1 ≤ k ∧ k ≤ 7) ∨ k = 29 ∨ k = 30 → inW L fs 91 k = false := fun k a => by
  simp only [inW, Bool.or_eq_false_iff, List.contains_eq_mem, decide_eq_false_iff_not]
  exact ⟨fun z => h1 _ z rfl, fun z => by have := h2 _ z rfl; simp only at this; omega⟩
theorem h91V {L : List Nat} {fs : List (Nat × Nat)} (h1 : ∀ c ∈ L, c ≠ 91 := by decide) (h2 : ∀ p ∈ fs, p.1 = 91 → 9 ≤ p.2 := by decide) : ∀ k, 2 ≤ k ∧ k ≤ 8 → inW L fs 91 k = false := fun k a => by
  simp only [inW, Bool.or_eq_false_iff, List.contains_eq_mem, decide_eq_false_iff_not]
  exact ⟨fun z => h1 _ z rfl, fun z => by have := h2 _ z rfl; simp only at this; omega⟩
theorem VS_nxKeep (V : VS σ) : VS (nxKeep σ a s b) := by
  rw [nxKeep]; split
  · next q => exact VS_keep V q.2
  · exact V
theorem VV_keep (v : VV σ) : VV (nxKeep σ a s b) := by
  obtain ⟨V, N, Z, Y, T, ak⟩ := v
  have fr : Fr [131, 132] [(91, 8)] σ (nxKeep σ a s b) := fr_keep
  have eT : nT (nxKeep σ a s b) = nT σ := by rw [nT, nT, fr.i 91 67]
  refine ⟨VS_nxKeep V, VN_fr N fr, VZ_fr Z fr, fun i hi => ?_, ⟨?_, ?_⟩, ?_⟩
  · rw [fr.i 143, fr.i 144]; exact Y i hi
  · rw [eT, fr.i 91 67]; exact T.1
  · rw [eT]; exact T.2
  · rw [fr.i 91 36]; exact ak
theorem VV_came (v : VV σ) : VV (nxCame σ m a) := by
  obtain ⟨V, N, Z, Y, T, ak⟩ := v
  have fr : Fr [132] [] σ (nxCame σ m a) := fr_came
  have eT : nT (nxCame σ m a) = nT σ := by rw [nT, nT, fr.i 91 67]
  refine ⟨V.sg fr h92 h91V, VN_fr N fr, VZ_fr Z fr, fun i hi => ?_, ⟨?_, ?_⟩, ?_⟩
  · rw [fr.i 143, fr.i 144]; exact Y i hi
  · rw [eT, fr.i 91 67]; exact T.1
  · rw [eT]; exact T.2
  · rw [fr.i 91 36]; exact ak
theorem VV_tray (v : VV σ) : VV (nxTray σ t s m) := by
  obtain ⟨V, N, Z, Y, T, ak⟩ := v
  have fr : Fr [143, 144, 145] [] σ (nxTray σ t s m) := fr_tray
  have eT : nT (nxTray σ t s m) = nT σ := by rw [nT, nT, fr.i 91 67]
  refine ⟨V.sg fr h92 h91V, VN_fr N fr, VZ_fr Z fr, VYt_tray Y, ⟨?_, ?_⟩, ?_⟩
  · rw [eT, fr.i 91 67]; exact T.1
  · rw [eT]; exact T.2
  · rw [fr.i 91 36]; exact ak
theorem VV_write (v' : VV σ) : VV (nxWrite σ t p v) := by
  obtain ⟨V, N, Z, Y, T, ak⟩ := v'
  have fr : Fr [145] [] σ (nxWrite σ t p v) := fr_write
  have eT : nT (nxWrite σ t p v) = nT σ := by rw [nT, nT, fr.i 91 67]
  refine ⟨V.sg fr h92 h91V, VN_fr N fr, VZ_fr Z fr, fun i hi => ?_, ⟨?_, ?_⟩, ?_⟩
  · rw [fr.i 143, fr.i 144]; exact Y i hi
  · rw [eT, fr.i 91 67]; exact T.1
  · rw [eT]; exact T.2
  · rw [fr.i 91 36]; exact ak
theorem VV_feed (v : VV σ) : VV (nxFeed σ a b c e f) := by
  obtain ⟨V, N, Z, Y, T, ak⟩ := v
  have fr : Fr [136] [(91, 67)] σ (nxFeed σ a b c e f) := fr_feed
  refine ⟨V.sg fr h92 h91V, VN_fr N fr, VZ_fr Z fr, fun i hi => ?_, VTp_feed T, ?_⟩
  · rw [fr.i 143, fr.i 144]; exact Y i hi
  · rw [fr.i 91 36]; exact ak
end FROPS
/-! the class's rest after keep, came, tray, write, feed -/
section CCOPS
variable {σ h q r : Hp} {x y l a b o s m t p c e f : Int32} {v : Int64} {is : Bool}
theorem CC_keep (cc : CC σ h) (k : Kp scr h q) (fr : Fr [63, 64] [(57, 8)] q r) (cm : CMp (nxKeep σ a s b) r) : CC (nxKeep σ a s b) r := by
  have c1 := cc.kc k
  have g : Fr [131, 132] [(91, 8)] σ (nxKeep σ a s b) := fr_keep
  obtain ⟨c1, c2, c3, c4, c5⟩ := c1
  refine ⟨(c1.lo fun c k hc => ?_).sg g h92 h91, cm, ⟨?_, fun i hi => ?_, ?_, ?_⟩, (c4.sg (g.i 91 79) fun j => ⟨g.i 138 j, g.i 140 j⟩).hc (fr.i 65 0) fun j => ⟨fr.i 66 j, fr.i 67 j, fr.i 68 j, fr.i 69 j, fr.i 70 j⟩, ⟨fun i hi => ?_, fun j hj => ?_⟩⟩
  · refine fr.2 c k ?_
    simp only [inW, Bool.or_eq_false_iff, List.contains_eq_mem, decide_eq_false_iff_not, List.mem_cons, List.not_mem_nil, or_false, Prod.mk.injEq]
    omega
  · rw [fr.i 0 14, g.i 91 67]; exact c3.1
  · rw [fr.i 89, g.i 136]; exact c3.2.1 i hi
  · rw [fr.i 73 1, g.i 91 75]; exact c3.2.2.1
  · rw [fr.i 73 2, g.i 91 76]; exact c3.2.2.2
  · rw [fr.i 86, fr.i 87, g.i 143, g.i 144]; exact c5.1 i hi
  · rw [fr.l 88, g.l 145]; exact c5.2 j hj
theorem CC_came (cc : CC σ h) (fr : Fr [64] [] h r) (cm : CMp (nxCame σ m a) r) : CC (nxCame σ m a) r := by
  have g : Fr [132] [] σ (nxCame σ m a) := fr_came
  obtain ⟨c1, c2, c3, c4, c5⟩ := cc
  refine ⟨(c1.lo fun c k hc => ?_).sg g h92 h91, cm, ⟨?_, fun i hi => ?_, ?_, ?_⟩, (c4.sg (g.i 91 79) fun j => ⟨g.i 138 j, g.i 140 j⟩).hc (fr.i 65 0) fun j => ⟨fr.i 66 j, fr.i 67 j, fr.i 68 j, fr.i 69 j, fr.i 70 j⟩, ⟨fun i hi => ?_, fun j hj => ?_⟩⟩
  · refine fr.2 c k ?_
    simp only [inW, Bool.or_eq_false_iff, List.contains_eq_mem, decide_eq_false_iff_not, List.mem_cons, List.not_mem_nil, or_false, not_false_eq_true, and_true]
    omega
  · rw [fr.i 0 14, g.i 91 67]; exact c3.1
  · rw [fr.i 89, g.i 136]; exact c3.2.1 i hi
  · rw [fr.i 73 1, g.i 91 75]; exact c3.2.2.1
  · rw [fr.i 73 2, g.i 91 76]; exact c3.2.2.2
  · rw [fr.i 86, fr.i 87, g.i 143, g.i 144]; exact c5.1 i hi
  · rw [fr.l 88, g.l 145]; exact c5.2 j hj
theorem CC_yt {σ' : Hp} (cc : CC σ h) (fr : Fr [86, 87, 88] [] h r) (g : Fr [143, 144, 145] [] σ σ') (cy : CYt σ' r) : CC σ' r := by
  obtain ⟨c1, c2, c3, c4, c5⟩ := cc
  have eK : nK σ' = nK σ := by rw [nK, nK, g.i 91 8]
  refine ⟨(c1.lo fun c k hc => ?_).sg g h92 h91, ⟨?_, fun k hk => ?_⟩, ⟨?_, fun i hi => ?_, ?_, ?_⟩, (c4.sg (g.i 91 79) fun j => ⟨g.i 138 j, g.i 140 j⟩).hc (fr.i 65 0) fun j => ⟨fr.i 66 j, fr.i 67 j, fr.i 68 j, fr.i 69 j, fr.i 70 j⟩, cy⟩
  · refine fr.2 c k ?_
    simp only [inW, Bool.or_eq_false_iff, List.contains_eq_mem, decide_eq_false_iff_not, List.mem_cons, List.not_mem_nil, or_false, not_false_eq_true, and_true]
    omega
  · rw [fr.i 57 8, eK]; exact c2.1
  · rw [eK] at hk
    rw [fr.i 63, fr.i 64, g.i 131, g.i 132]; exact c2.2 k hk
  · rw [fr.i 0 14, g.i 91 67]; exact c3.1
  · rw [fr.i 89, g.i 136]; exact c3.2.1 i hi
  · rw [fr.i 73 1, g.i 91 75]; exact c3.2.2.1
  · rw [fr.i 73 2, g.i 91 76]; exact c3.2.2.2
theorem CC_feed (cc : CC σ h) (fr : Fr [89] [(0, 14)] h r) (ct : CTp (nxFeed σ a b c e f) r) : CC (nxFeed σ a b c e f) r := by
  have g : Fr [136] [(91, 67)] σ (nxFeed σ a b c e f) := fr_feed
  have eK : nK (nxFeed σ a b c e f) = nK σ := by rw [nK, nK, g.i 91 8]
  obtain ⟨c1, c2, c3, c4, c5⟩ := cc
  have frc : ∀ c k, 0 < c → c < 30 → r.1 c k = h.1 c k ∧ r.2.1 c k = h.2.1 c k := fun c k h1 h2 => fr.2 c k (by
    simp only [inW, Bool.or_eq_false_iff, List.contains_eq_mem, decide_eq_false_iff_not, List.mem_cons, List.not_mem_nil, or_false, Prod.mk.injEq]
    omega)
  refine ⟨CS.sg ?_ g h92 h91, ⟨?_, fun k hk => ?_⟩, ct, (c4.sg (g.i 91 79) fun j => ⟨g.i 138 j, g.i 140 j⟩).hc (fr.i 65 0) fun j => ⟨fr.i 66 j, fr.i 67 j, fr.i 68 j, fr.i 69 j, fr.i 70 j⟩, ⟨fun i hi => ?_, fun j hj => ?_⟩⟩
  · exact c1.lo1 frc
  · rw [fr.i 57 8, eK]; exact c2.1
  · rw [eK] at hk
    rw [fr.i 63, fr.i 64, g.i 131, g.i 132]; exact c2.2 k hk
  · rw [fr.i 86, fr.i 87, g.i 143, g.i 144]; exact c5.1 i hi
  · rw [fr.l 88, g.l 145]; exact c5.2 j hj
end CCOPS
