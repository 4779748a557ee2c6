/-! the class's land, deeds, links and sheets after each write -/
section CSW
variable {σ σ' h q : Hp}
/-- only the land, the deeds, links and sheets were written -/
def KL (h q : Hp) : Prop := Std q.2.2 ∧ ∀ c k, (c = 0 ∨ 30 ≤ c) → q.1 c k = h.1 c k ∧ q.2.1 c k = h.2.1 c k
theorem KL.rf (hS : Std h.2.2) : KL h h := ⟨hS, fun _ _ _ => ⟨rfl, rfl⟩⟩
theorem KL.tr {r : Hp} (a : KL h q) (b : KL q r) : KL h r := ⟨b.1, fun c k z => ⟨(b.2 c k z).1.trans (a.2 c k z).1, (b.2 c k z).2.trans (a.2 c k z).2⟩⟩
theorem KL.c (k : KL h q) : KC h q := ⟨k.1, fun c j z => k.2 c j (Or.inr (by omega))⟩
theorem Fr.kl {L : List Nat} {fs : List (Nat × Nat)} (f : Fr L fs h q) (hS : Std h.2.2) (h1 : ∀ c ∈ L, 0 < c ∧ c < 30 := by decide) (h2 : ∀ p ∈ fs, 0 < p.1 ∧ p.1 < 30 := by decide) : KL h q := ⟨f.sd hS, fun c k z => f.2 c k (by
  simp only [inW, Bool.or_eq_false_iff, List.contains_eq_mem, decide_eq_false_iff_not]
  exact ⟨fun y => absurd (h1 c y) (by omega), fun y => absurd (h2 _ y) (by simp only; omega)⟩)⟩
theorem CD.cg (c : CD σ h) (e1 : nD σ' = nD σ) (e : ∀ c k, 98 ≤ c → c ≤ 106 → σ'.1 c k = σ.1 c k) (ew : σ'.1 91 29 = σ.1 91 29 ∧ σ'.1 91 30 = σ.1 91 30) (ea : ∀ a b, a < nD σ → b < nD σ → apt σ' a b = apt σ a b) : CD σ' h := by
  have al' : ∀ d, al σ' d = al σ d := fun d => by rw [al, al, e1, e 105 d (by decide) (by decide)]
  have dbt' := fun d => dbt_cg (e 104 d (by decide) (by decide))
  have sol' := fun d => sol_cg (e 102 d (by decide) (by decide))
  have isof' := fun d (x : Int32) => isof_cg (x := x) (e 102 d (by decide) (by decide)) (e 103 d (by decide) (by decide))
  have bar' := fun a b => bar_cg (a := a) (b := b) (e 106 (60 * a + b) (by decide) (by decide))
  refine ⟨by rw [e1]; exact c.1, fun k hk => ?_, fun k hk => ?_, fun k hk b => ?_, fun b => ?_, fun b => ?_, fun b => ?_, fun a ha b => ?_, fun a ha b => ?_, ?_, ?_⟩
  · rw [e1] at hk
    rw [e 98 k (by decide) (by decide), e 99 k (by decide) (by decide), e 100 k (by decide) (by decide), e 101 k (by decide) (by decide)]; exact c.de hk
  · rw [e1] at hk
    rw [al', e 102 k (by decide) (by decide), e 103 k (by decide) (by decide)]; exact c.hand hk
  · rw [al', sol', isof']; exact c.of hk b
  · rw [al', sol']; exact c.sol b
  · rw [e1, dbt']; exact c.dbt b
  · rw [e1, al']; exact c.gone b
  · rw [c.apart ha b, e1]
    by_cases h1 : a < nD σ
    · by_cases h2 : b < nD σ
      · rw [ea a b h1 h2]
      · simp only [decide_eq_false h2, Bool.and_false, Bool.false_and]
    · simp only [decide_eq_false h1, Bool.false_and]
  · rw [bar']; exact c.bar ha b
  · rw [ew.1]; exact c.win.1
  · rw [ew.2]; exact c.win.2
theorem CP.fr {L : List Nat} {fs : List (Nat × Nat)} (c : CP σ h) (f : Fr L fs h q) (hL : ∀ k, inW L fs 1 1 = false ∧ inW L fs 2 k = false ∧ inW L fs 3 k = false ∧ inW L fs 4 k = false := by exact fun _ => ⟨rfl, rfl, rfl, rfl⟩) : CP σ q :=
  ⟨by rw [f.i 1 1 (hL 0).1]; exact c.1, fun p hp => by rw [f.i 2 p (hL p).2.1, f.i 3 p (hL p).2.2.1, f.i 4 p (hL p).2.2.2]; exact c.2 p hp⟩
theorem CL.fr {L : List Nat} {fs : List (Nat × Nat)} (c : CL σ h) (f : Fr L fs h q) (h1 : inW L fs 1 0 = false ∧ inW L fs 1 5 = false ∧ inW L fs 1 6 = false ∧ inW L fs 1 8 = false := by exact ⟨rfl, rfl, rfl, rfl⟩) (hL : ∀ k, inW L fs 5 k = false ∧ inW L fs 6 k = false ∧ inW L fs 7 k = false := by exact fun _ => ⟨rfl, rfl, rfl⟩) : CL σ q :=
  ⟨by rw [f.i 1 0 h1.1]; exact c.1, by rw [f.i 1 5 h1.2.1]; exact c.2.1, by rw [f.i 1 6 h1.2.2.1]; exact c.2.2.1, by rw [f.i 1 8 h1.2.2.2]; exact c.2.2.2.1, fun k hk => by rw [f.i 5 k (hL k).1]; exact c.2.2.2.2.1 k hk, fun k hk => by rw [f.i 6 k (hL k).2.1, f.i 7 k (hL k).2.2]; exact c.2.2.2.2.2 k hk⟩
theorem CK.fr {L : List Nat} {fs : List (Nat × Nat)} (c : CK σ h) (f : Fr L fs h q) (hL : ∀ k, inW L fs 18 0 = false ∧ inW L fs 19 k = false ∧ inW L fs 20 k = false ∧ inW L fs 21 k = false := by exact fun _ => ⟨rfl, rfl, rfl, rfl⟩) : CK σ q :=
  ⟨by rw [f.i 18 0 (hL 0).1]; exact c.1, fun k hk => by rw [f.i 19 k (hL k).2.1, f.i 20 k (hL k).2.2.1, f.i 21 k (hL k).2.2.2]; exact c.2 k hk⟩
theorem Shw.frr {S : Nat} {w : Nat → Nat → Int32} {L : List Nat} {fs : List (Nat × Nat)} (s : Shw w S h) (f : Fr L fs h q) (hL : ∀ k, inW L fs (S + 1) k = false ∧ inW L fs (S + 2) k = false ∧ inW L fs (S + 3) k = false := by exact fun _ => ⟨rfl, rfl, rfl⟩) : Shw w S q := s.fr fun m => ⟨f.l _ _ (hL m).1, f.l _ _ (hL m).2.1, f.l _ _ (hL m).2.2⟩
theorem CP.cg (c : CP σ h) (e1 : σ'.1 91 2 = σ.1 91 2) (e : ∀ k, σ'.1 92 k = σ.1 92 k ∧ σ'.1 93 k = σ.1 93 k ∧ σ'.1 94 k = σ.1 94 k) : CP σ' h := by
  have en : nP σ' = nP σ := by rw [nP, nP, e1]
  refine ⟨by rw [en]; exact c.1, fun p hp => ?_⟩
  rw [en] at hp
  rw [(e p).1, (e p).2.1, (e p).2.2]; exact c.2 p hp
theorem CL.cg (c : CL σ h) (e1 : σ'.1 91 1 = σ.1 91 1 ∧ σ'.1 91 3 = σ.1 91 3 ∧ σ'.1 91 4 = σ.1 91 4 ∧ σ'.1 91 5 = σ.1 91 5) (e : ∀ k, σ'.1 95 k = σ.1 95 k ∧ σ'.1 96 k = σ.1 96 k ∧ σ'.1 97 k = σ.1 97 k) : CL σ' h := by
  have eH : nH σ' = nH σ := by rw [nH, nH, e1.2.2.1]
  have eO : nO σ' = nO σ := by rw [nO, nO, e1.2.2.2]
  refine ⟨by rw [e1.1]; exact c.1, by rw [e1.2.1]; exact c.2.1, by rw [e1.2.2.1]; exact c.2.2.1, by rw [e1.2.2.2]; exact c.2.2.2.1, fun k hk => ?_, fun k hk => ?_⟩
  · rw [eH] at hk
    rw [(e k).1]; exact c.2.2.2.2.1 k hk
  · rw [eO] at hk
    rw [(e k).2.1, (e k).2.2]; exact c.2.2.2.2.2 k hk
theorem CK.cg (c : CK σ h) (e1 : σ'.1 91 7 = σ.1 91 7) (e : ∀ k, σ'.1 109 k = σ.1 109 k ∧ σ'.1 110 k = σ.1 110 k ∧ σ'.1 111 k = σ.1 111 k) : CK σ' h := by
  have en : nL σ' = nL σ := by rw [nL, nL, e1]
  refine ⟨by rw [en]; exact c.1, fun p hp => ?_⟩
  rw [en] at hp
  rw [(e p).1, (e p).2.1, (e p).2.2]; exact c.2 p hp
theorem Shw.cg {S : Nat} {w w' : Nat → Nat → Int32} (s : Shw w S h) (e : ∀ b m, b < 60 → m < 16 → w' b m = w b m) : Shw w' S h := fun m hm b => by
  have := s m hm b
  by_cases hb' : b < 60
  · simp only [e b m hb' hm]; exact this
  · simp only [decide_eq_false hb', Bool.false_and] at this ⊢; exact this
theorem CS_place {x y l : Int32} (V : VS σ) (c : CS σ h) (f : Fr [2, 3, 4] [(1, 1)] h q) (hp : CP (stPlace σ x y l) q) : CS (stPlace σ x y l) q := by
  refine ⟨(c.1.fr f).cg rfl (fun c k h1 h2 => ?_) ⟨rfl, rfl⟩ (fun a b ha hb' => ?_), hp, (c.2.2.1.fr f).cg ⟨rfl, rfl, rfl, rfl⟩ fun k => ⟨rfl, rfl, rfl⟩, (c.2.2.2.1.fr f).cg rfl fun k => ⟨rfl, rfl, rfl⟩, c.2.2.2.2.1.frr f, c.2.2.2.2.2.frr f⟩
  · rw [stPlace, hI_c (by omega), hI_c (by omega), hI_c (by omega), hI_c (by omega)]
  · have h1 := (V.de ha).1.2
    have h2 := (V.de hb').1.2
    have e1 : plc (stPlace σ x y l) a = plc σ a := rfl
    have e2 : plc (stPlace σ x y l) b = plc σ b := rfl
    have ed : dst (stPlace σ x y l) (plc σ a) (plc σ b) = dst σ (plc σ a) (plc σ b) := by
      rw [dst, dst, stPlace_92, stPlace_92, stPlace_93, stPlace_93, if_neg (by omega), if_neg (by omega), if_neg (by omega), if_neg (by omega)]
    rw [apt, apt, e1, e2, ed]; rfl
theorem CS_mark (V : VS σ) (hm : nM σ < 16) (c : CS σ h) : CS (stMark σ) (hI h 1 5 (nI (nM σ + 1))) := by
  have f : Fr [] [(1, 5)] h (hI h 1 5 (nI (nM σ + 1))) := Fr.pI
  have cl := c.2.2.1
  refine ⟨(c.1.fr f).cg rfl (fun c k h1 h2 => hI_c (by omega)) ⟨rfl, rfl⟩ fun a b ha hb' => rfl, c.2.1.fr f, ⟨?_, hI_k, ?_, ?_, fun k hk => ?_, fun k hk => ?_⟩, c.2.2.2.1.fr f, c.2.2.2.2.1.frr f, c.2.2.2.2.2.frr f⟩
  · rw [f.i 1 0]; exact cl.1
  · rw [f.i 1 6]; exact cl.2.2.1
  · rw [f.i 1 8]; exact cl.2.2.2.1
  · rw [f.i 5 k]; exact cl.2.2.2.2.1 k hk
  · rw [f.i 6 k, f.i 7 k]; exact cl.2.2.2.2.2 k hk
theorem CS_hand {x : Int32} (V : VS σ) (hm : nH σ < 20) (c : CS σ h) : CS (stHand σ x) (hI (hI h 5 (nH σ) x) 1 6 (nI (nH σ + 1))) := by
  have f : Fr [5] [(1, 6)] h (hI (hI h 5 (nH σ) x) 1 6 (nI (nH σ + 1))) := Fr.tr Fr.pI Fr.pI
  have cl := c.2.2.1
  refine ⟨(c.1.fr f).cg rfl (fun c k h1 h2 => by rw [stHand, hI_c (by omega), hI_c (by omega)]) ⟨rfl, rfl⟩ fun a b ha hb' => rfl, c.2.1.fr f, ⟨?_, ?_, hI_k, ?_, fun k hk => ?_, fun k hk => ?_⟩, c.2.2.2.1.fr f, c.2.2.2.2.1.frr f, c.2.2.2.2.2.frr f⟩
  · rw [f.i 1 0]; exact cl.1
  · rw [f.i 1 5]; exact cl.2.1
  · rw [f.i 1 8]; exact cl.2.2.2.1
  · rw [stHand_n hm] at hk
    have e : (stHand σ x).1 95 k = if k = nH σ then x else σ.1 95 k := by rw [stHand, hI_c (by decide), hI_if]
    rw [hI_c (by decide), hI_if, e]
    by_cases y : k = nH σ
    · rw [if_pos y, if_pos y]
    · rw [if_neg y, if_neg y]; exact cl.2.2.2.2.1 k (by omega)
  · rw [f.i 6 k, f.i 7 k]; exact cl.2.2.2.2.2 k hk
theorem CS_officer {x y : Int32} (V : VS σ) (hm : nO σ < 10) (c : CS σ h) : CS (stOff σ x y) (hI (hI (hI h 6 (nO σ) x) 7 (nO σ) y) 1 8 (nI (nO σ + 1))) := by
  have f : Fr [6, 7] [(1, 8)] h (hI (hI (hI h 6 (nO σ) x) 7 (nO σ) y) 1 8 (nI (nO σ + 1))) := Fr.tr (Fr.tr Fr.pI Fr.pI) Fr.pI
  have cl := c.2.2.1
  refine ⟨(c.1.fr f).cg rfl (fun c k h1 h2 => by rw [stOff, hI_c (by omega), hI_c (by omega), hI_c (by omega)]) ⟨rfl, rfl⟩ fun a b ha hb' => rfl, c.2.1.fr f, ⟨?_, ?_, ?_, hI_k, fun k hk => ?_, fun k hk => ?_⟩, c.2.2.2.1.fr f, c.2.2.2.2.1.frr f, c.2.2.2.2.2.frr f⟩
  · rw [f.i 1 0]; exact cl.1
  · rw [f.i 1 5]; exact cl.2.1
  · rw [f.i 1 6]; exact cl.2.2.1
  · rw [f.i 5 k]; exact cl.2.2.2.2.1 k hk
  · rw [stOff_n hm] at hk
    have e1 : (stOff σ x y).1 96 k = if k = nO σ then x else σ.1 96 k := by rw [stOff, hI_c (by decide), hI_c (by decide), hI_if]
    have e2 : (stOff σ x y).1 97 k = if k = nO σ then y else σ.1 97 k := by rw [stOff, hI_c (by decide), hI_if, hI_c (by decide)]
    rw [hI_c (by decide), hI_c (by decide), hI_if, hI_c (by decide), hI_if, hI_c (by decide), e1, e2]
    by_cases z : k = nO σ
    · rw [if_pos z, if_pos z, if_pos z, if_pos z]; exact ⟨rfl, rfl⟩
    · rw [if_neg z, if_neg z, if_neg z, if_neg z]; exact cl.2.2.2.2.2 k (by omega)
theorem CS_add {p x y : Int32} (c : CS σ h) (f : Fr [9, 10, 11, 12, 13, 14, 15] [(8, 1)] h q) (cd : CD (stAdd σ p x y) q) : CS (stAdd σ p x y) q :=
  ⟨cd, (c.2.1.fr f).cg rfl fun k => ⟨rfl, rfl, rfl⟩, (c.2.2.1.fr f).cg ⟨rfl, rfl, rfl, rfl⟩ fun k => ⟨rfl, rfl, rfl⟩, (c.2.2.2.1.fr f).cg rfl fun k => ⟨rfl, rfl, rfl⟩, c.2.2.2.2.1.frr f, c.2.2.2.2.2.frr f⟩
theorem CS_solve {a : Nat} {x y : Int32} (c : CS σ h) (hal : al σ a = true) (hx : hnd x y) (s : SolvedBy a x y h q) : CS (stSolve σ a x y) q := by
  have f := s.1
  exact ⟨CD_solve c.1 s hal hx, (c.2.1.fr f).cg rfl fun k => ⟨rfl, rfl, rfl⟩, (c.2.2.1.fr f).cg ⟨rfl, rfl, rfl, rfl⟩ fun k => ⟨rfl, rfl, rfl⟩, (c.2.2.2.1.fr f).cg rfl fun k => ⟨rfl, rfl, rfl⟩, c.2.2.2.2.1.frr f, c.2.2.2.2.2.frr f⟩
theorem CS_bar {a b : Nat} (c : CS σ h) (f : Fr [16] [] h q) (cd : CD (stBar σ a b) q) : CS (stBar σ a b) q :=
  ⟨cd, (c.2.1.fr f).cg rfl fun k => ⟨rfl, rfl, rfl⟩, (c.2.2.1.fr f).cg ⟨rfl, rfl, rfl, rfl⟩ fun k => ⟨rfl, rfl, rfl⟩, (c.2.2.2.1.fr f).cg rfl fun k => ⟨rfl, rfl, rfl⟩, c.2.2.2.2.1.frr f, c.2.2.2.2.2.frr f⟩
theorem CS_link {x y l : Int32} (c : CS σ h) (f : Fr [19, 20, 21] [(18, 0)] h q) (ck : CK (stLink σ x y l) q) : CS (stLink σ x y l) q := by
  refine ⟨(c.1.fr f).cg rfl (fun c k h1 h2 => by rw [stLink, hI_c (by omega), hI_c (by omega), hI_c (by omega), hI_c (by omega)]) ⟨rfl, rfl⟩ fun a b ha hb' => rfl, (c.2.1.fr f).cg rfl fun k => ⟨rfl, rfl, rfl⟩, (c.2.2.1.fr f).cg ⟨rfl, rfl, rfl, rfl⟩ fun k => ⟨rfl, rfl, rfl⟩, ck, c.2.2.2.2.1.frr f, c.2.2.2.2.2.frr f⟩
theorem CS_doubt {a : Nat} {b : Bool} {v : Int64} (ha : a < nD σ) (V : VS σ) (c : CS σ h) (hv : ∀ k, hb v k = if k = a then b else hb (h.2.1 8 12) k) : CS (hI σ 104 a (bI b)) (hL h 8 12 v) := by
  have hD := V.d.2
  have f : Fr [] [(8, 12)] h (hL h 8 12 v) := Fr.pL
  have cd := c.1
  refine ⟨⟨?_, fun k hk => ?_, fun k hk => ?_, fun k hk b => ?_, fun b => ?_, fun d => ?_, fun b => ?_, fun a ha b => ?_, fun a ha b => ?_, ?_, ?_⟩, c.2.1.fr f, c.2.2.1.fr f, c.2.2.2.1.fr f, c.2.2.2.2.1.frr f, c.2.2.2.2.2.frr f⟩
  · rw [f.i 8 1]; exact cd.1
  · rw [f.i 9 k, f.i 10 k, f.i 11 k, f.i 12 k]; exact cd.de hk
  · rw [f.i 13 k, f.i 14 k]; exact cd.hand hk
  · rw [f.l 17 k]; exact cd.of hk b
  · rw [f.l 8 11]; exact cd.sol b
  · rw [hL_k, hv d, dbt, hI_if]
    have eD : nD (hI σ 104 a (bI b)) = nD σ := rfl
    rw [eD]
    by_cases z : d = a
    · rw [if_pos z, if_pos z, z, decide_eq_true ha]
      cases b <;> rfl
    · rw [if_neg z, if_neg z]; exact cd.dbt d
  · rw [f.l 8 13]; exact cd.gone b
  · rw [f.l 15 a]; exact cd.apart ha b
  · rw [f.l 16 a]; exact cd.bar ha b
  · rw [f.i 8 14]; exact cd.win.1
  · rw [f.i 8 15]; exact cd.win.2
def stWin (σ : Hp) (x y : Int32) : Hp := hI (hI σ 91 29 x) 91 30 y
theorem CS_win {x y : Int32} (c : CS σ h) : CS (stWin σ x y) (hI (hI h 8 14 x) 8 15 y) := by
  have f : Fr [] [(8, 14), (8, 15)] h (hI (hI h 8 14 x) 8 15 y) := Fr.tr Fr.pI Fr.pI
  have cd := c.1
  refine ⟨⟨?_, fun k hk => ?_, fun k hk => ?_, fun k hk b => ?_, fun b => ?_, fun d => ?_, fun b => ?_, fun a ha b => ?_, fun a ha b => ?_, ?_, ?_⟩, c.2.1.fr f, c.2.2.1.fr f, c.2.2.2.1.fr f, c.2.2.2.2.1.frr f, c.2.2.2.2.2.frr f⟩
  · rw [f.i 8 1]; exact cd.1
  · rw [f.i 9 k, f.i 10 k, f.i 11 k, f.i 12 k]; exact cd.de hk
  · rw [f.i 13 k, f.i 14 k]; exact cd.hand hk
  · rw [f.l 17 k]; exact cd.of hk b
  · rw [f.l 8 11]; exact cd.sol b
  · rw [f.l 8 12]; exact cd.dbt d
  · rw [f.l 8 13]; exact cd.gone b
  · rw [f.l 15 a]; exact cd.apart ha b
  · rw [f.l 16 a]; exact cd.bar ha b
  · rw [hI_j (by decide), hI_k, stWin, hI_j (by decide), hI_k]
  · rw [hI_k, stWin, hI_k]
theorem VS_win {x y : Int32} (V : VS σ) : VS (stWin σ x y) := V
/-- a deed that is gone, with its links -/
theorem CS_forget {a : Nat} (c : CS σ h) (f : Fr [13, 14, 17, 19, 20, 21] [(8, 11), (8, 13), (18, 0)] h q) (cd : CD (stGone σ a) q) (ck : CK (stForget σ a) q) : CS (stForget σ a) q := by
  have fs : Fr [105, 109, 110, 111] [(91, 7)] σ (stForget σ a) := stForget_fr
  have fg : Fr [109, 110, 111] [(91, 7)] (stGone σ a) (stForget σ a) := (Fr.mono (dlS_fr (σ := stGone σ a) (a := nI a) (nL (stGone σ a)))).tr Fr.pI
  refine ⟨cd.cg (by rw [nD, nD, fg.i 91 6]) (fun c k h1 h2 => fg.i c k ?_) ⟨fg.i 91 29, fg.i 91 30⟩ (fun x y _ _ => ?_), (c.2.1.fr f).cg (fs.i 91 2) fun k => ⟨fs.i 92 k, fs.i 93 k, fs.i 94 k⟩, (c.2.2.1.fr f).cg ⟨fs.i 91 1, fs.i 91 3, fs.i 91 4, fs.i 91 5⟩ fun k => ⟨fs.i 95 k, fs.i 96 k, fs.i 97 k⟩, ck, (c.2.2.2.2.1.frr f).cg fun b m _ _ => fs.i 107 _, (c.2.2.2.2.2.frr f).cg fun b m _ _ => fs.i 108 _⟩
  · simp only [inW, Bool.or_eq_false_iff, List.contains_eq_mem, decide_eq_false_iff_not, List.mem_cons, Prod.mk.injEq, List.not_mem_nil, or_false]
    omega
  · exact apt_cg (fun k => fg.i 92 k) (fun k => fg.i 93 k) fun q hq => by
      obtain rfl | rfl | rfl := hq
      · exact ⟨fg.i 98 x, fg.i 98 y⟩
      · exact ⟨fg.i 99 x, fg.i 99 y⟩
      · exact ⟨fg.i 100 x, fg.i 100 y⟩
end CSW
