/-! tell, state, doubt -/
section OPSM
variable {σ h : Hp} {d : Nat} {X : String → Hp → Prop} {F : Int32 → Hp → Prop} {x y s a b m : Int32} {late is : Bool}
theorem S03_w (h : isW s 0 3 = true) : S03 s := by
  obtain ⟨j, hj, e⟩ := isW_n (n := 3) (by decide) h
  have : j = 0 ∨ j = 1 ∨ j = 2 ∨ j = 3 := by omega
  obtain rfl | rfl | rfl | rfl := this
  · exact Or.inl e
  · exact Or.inr (Or.inl e)
  · exact Or.inr (Or.inr (Or.inl e))
  · exact Or.inr (Or.inr (Or.inr e))
theorem CS_tell {i k : Nat} {q : Hp} (c : CS σ h) (hk : k < 16) (f : Fr [23, 24, 25, 27, 28, 29] [] h q) (s1 : Shw (upw (lst σ) i k s) 22 q) (s2 : lnk σ (nI i) (nL σ) = 0 → Shw (upw (pln σ) i k s) 26 q) (s3 : lnk σ (nI i) (nL σ) ≠ 0 → Shw (pln σ) 26 q) : CS (stTell σ i k s) q := by
  have fs : Fr [107, 108] [] σ (stTell σ i k s) := stTell_fr
  refine ⟨(c.1.fr f).cg (by rw [nD, nD, fs.i 91 6]) (fun c k h1 h2 => fs.i c k ?_) ⟨fs.i 91 29, fs.i 91 30⟩ (fun x y _ _ => ?_), (c.2.1.fr f).cg (fs.i 91 2) fun k => ⟨fs.i 92 k, fs.i 93 k, fs.i 94 k⟩, (c.2.2.1.fr f).cg ⟨fs.i 91 1, fs.i 91 3, fs.i 91 4, fs.i 91 5⟩ fun k => ⟨fs.i 95 k, fs.i 96 k, fs.i 97 k⟩, (c.2.2.2.1.fr f).cg (fs.i 91 7) fun k => ⟨fs.i 109 k, fs.i 110 k, fs.i 111 k⟩, s1.cg fun b j _ hj => ?_, ?_⟩
  · simp only [inW, Bool.or_eq_false_iff, List.contains_eq_mem, decide_eq_false_iff_not, List.mem_cons, List.not_mem_nil, or_false, not_false_eq_true, and_true]
    omega
  · exact apt_cg (fun k => fs.i 92 k) (fun k => fs.i 93 k) fun q hq => by
      obtain rfl | rfl | rfl := hq
      · exact ⟨fs.i 98 x, fs.i 98 y⟩
      · exact ⟨fs.i 99 x, fs.i 99 y⟩
      · exact ⟨fs.i 100 x, fs.i 100 y⟩
  · rw [lst, stTell_1, upw]
    by_cases z : b = i ∧ j = k
    · rw [if_pos z, if_pos (by omega)]
    · rw [if_neg z, if_neg (by omega), lst]
  · by_cases e : lnk σ (nI i) (nL σ) = 0
    · refine (s2 e).cg fun b j _ hj => ?_
      rw [pln, stTell_2, upw]
      by_cases z : b = i ∧ j = k
      · rw [if_pos z, if_pos ⟨e, by omega⟩]
      · rw [if_neg z, if_neg (by omega), pln]
    · refine (s3 e).cg fun b j _ hj => ?_
      rw [pln, stTell_2, if_neg (by omega), pln]
theorem ok_note {F : Hp → Prop} {i k : Nat} (hd : 3 ≤ d) (hS : Std h.2.2) (V : VS σ) (c : CS σ h) (hi : i < nD σ) (hk : k < nM σ) (hs : S03 s) (hq : ∀ q, Fr [23, 24, 25, 27, 28, 29] [] h q → CS (stTell σ i k s) q → F q) : OKv d mX11_note [.ref 0, .int (nI i), .int (nI k), .int s] h F X := by
  have hD := V.d.2
  have hM := V.m.2
  refine enX11_note _ _ _ hd hS (ok_put shok_22 (by omega) hS c.2.2.2.2.1 (by omega) (by omega) hs fun q1 f1 s1 => ?_)
  have f1 : Fr [23, 24, 25] [] h q1 := f1
  have hL := V.l.2
  have ll : lnk σ (nI i) (nL σ) ≤ nL σ := fb_ct_le _ _
  refine ok_with (by omega) (f1.sd hS) V (c.2.2.2.1.fr f1) ⟨fun z => ok_put shok_26 (by omega) (f1.sd hS) (c.2.2.2.2.2.frr f1) (by omega) (by omega) hs fun q2 f2 s2 => ?_, fun z => hq q1 f1.mono (CS_tell c (by omega) f1.mono s1 (fun e => absurd (by rw [e]; rfl) z) fun _ => c.2.2.2.2.2.frr f1)⟩
  have f2 : Fr [27, 28, 29] [] q1 q2 := f2
  have e0 : lnk σ (nI i) (nL σ) = 0 := nI_inj (b := 0) (by omega) (by omega) z
  exact hq q2 (f1.mono.tr f2.mono) (CS_tell c (by omega) (f1.mono.tr f2.mono) (s1.frr f2) (fun _ => s2) fun e => absurd e0 e)
def cdTell (σ : Hp) (a m s : Int32) : Nat := if isD σ a = true ∧ isN m (nM σ) = true then (if isW s 0 3 = true then 0 else 2) else 1
def vTell (σ : Hp) (a m : Int32) : Int32 := lst σ a.toNatClampNeg m.toNatClampNeg
def nxTell (σ : Hp) (a m s : Int32) : Hp := if cdTell σ a m s = 0 then stTell σ a.toNatClampNeg m.toNatClampNeg s else σ
theorem cdTell_0 (e : cdTell σ a m s = 0) : isD σ a = true ∧ isN m (nM σ) = true ∧ isW s 0 3 = true := by
  rw [cdTell] at e
  by_cases h1 : isD σ a = true ∧ isN m (nM σ) = true
  · rw [if_pos h1] at e
    by_cases h2 : isW s 0 3 = true
    · exact ⟨h1.1, h1.2, h2⟩
    · rw [if_neg h2] at e; omega
  · rw [if_neg h1] at e; omega
theorem VS_nxTell (V : VS σ) : VS (nxTell σ a m s) := by
  have hD := V.d.2
  have hM := V.m.2
  rw [nxTell]
  by_cases q : cdTell σ a m s = 0
  · rw [if_pos q]
    obtain ⟨h1, h2, h3⟩ := cdTell_0 q
    obtain ⟨i, _, em, hi⟩ := isD_t V h1
    obtain ⟨k, hk, ek⟩ := isN_t (by omega) h2
    rw [em, ek, nI_clamp (by omega), nI_clamp (by omega)]
    exact VS_tell V hi (by omega) (S03_w h3)
  · rw [if_neg q]; exact V
theorem ok_tellC (hd : 8 ≤ d) (hS : Std h.2.2) (V : VS σ) (c : CS σ h) (hq : CW h (nxTell σ a m s) (cdTell σ a m s) (vTell σ a m) (t2 nse iae) F X) : OKi d mX11_tell [.ref 0, .int a, .int m, .int s] h F X := by
  have hD := V.d.2
  have hM := V.m.2
  have no : ¬ (isD σ a = true ∧ isN m (nM σ) = true) → X nse h := fun z => by
    have e : cdTell σ a m s = 1 := if_neg z
    have := hq.2 (by omega)
    rw [e] at this; exact this
  refine enX11_tell _ _ _ hd hS (ok_needDeed (by omega) hS V c.1 (fun h1 => ok_needMark (by omega) hS (c.mk V) (fun h2 => ok_isW (a := 0) (b := 3) rfl rfl (by omega) hS ⟨fun z => ?_, fun z => ?_⟩) fun h2 => no fun w => absurd w.2 (by rw [h2]; decide)) fun h1 => no fun w => absurd w.1 (by rw [h1]; decide))
  · have e : cdTell σ a m s = 2 := by rw [cdTell, if_pos ⟨h1, h2⟩, bI_0.mp z]; rfl
    have := hq.2 (by omega)
    rw [e] at this; exact this
  · have e : cdTell σ a m s = 0 := by rw [cdTell, if_pos ⟨h1, h2⟩, if_pos (bI_n0.mp z)]
    have fin := hq.1 e
    rw [nxTell, vTell, if_pos e] at fin
    obtain ⟨i, _, em, hi⟩ := isD_t V h1
    obtain ⟨k, hk, ek⟩ := isN_t (by omega) h2
    subst em ek
    rw [nI_clamp (by omega), nI_clamp (by omega)] at fin
    exact ok_stateOf shok_22 (by omega) hS c.2.2.2.2.1 (by omega) (by omega) (V.s03 _).1 (ok_note (by omega) hS V c hi hk (S03_w (bI_n0.mp z)) fun q f cq => fin q (f.kl hS) cq)
theorem VS_tell1 {i k : Nat} (V : VS σ) (ha : i < nD σ) (hm : k < 16) (hs : S03 s) : VS (hI σ 107 (16 * i + k) s) := by
  obtain ⟨v1, v2, v3, v4, v5, v6, v7, v8, v9, v10, v11, v12, v13, v14, v15⟩ := V
  refine ⟨v1, v2, v3, v4, v5, v6, v7, v8, v9, v10, fun j => ⟨?_, (v11 j).2⟩, v12, v13, fun d h1 h2 => ⟨(v14 d h1 h2).1, (v14 d h1 h2).2.1, fun j hj => ⟨?_, ((v14 d h1 h2).2.2 j hj).2⟩⟩, v15⟩
  · rw [hI_if]; split
    · exact hs
    · exact (v11 j).1
  · have h1 : nD σ ≤ d := h1
    rw [lst, hI_j (by omega)]; exact ((v14 d h1 h2).2.2 j hj).1
theorem lit_16 (i k : Nat) : (16 : Int32) * nI i + nI k = nI (16 * i + k) := by rw [lit_nI 16, pk_mul, nI_add]
theorem lit_60 (i k : Nat) : (60 : Int32) * nI i + nI k = nI (60 * i + k) := by rw [lit_nI 60, pk_mul, nI_add]
theorem lit_40 (i k : Nat) : (40 : Int32) * nI i + nI k = nI (40 * i + k) := by rw [lit_nI 40, pk_mul, nI_add]
theorem ok_tells {F : Hp → Prop} {i k : Nat} (hd : 4 ≤ d) (hS : Std h.2.2) (V : VS σ) (ma : MA σ h) (hi : i < nD σ) (hk : k < nM σ) (hs : S03 s) (hq : ∀ q, Fr [107, 108] [] h q → MA (stTell σ i k s) q → F q) : OKv d mX12_tells [.ref 91, .int (nI i), .int (nI k), .int s] h F X := by
  have hD := V.d.2
  have hM := V.m.2
  have hL := V.l.2
  have ll : lnk σ (nI i) (nL σ) ≤ nL σ := fb_ct_le _ _
  have V1 := VS_tell1 V hi (show k < 16 by omega) hs
  have m1 : MA (hI σ 107 (16 * i + k) s) (hI h 107 (16 * i + k) s) := ma.hI _ _ _
  have f1 : Fr [107, 108] [] h (hI h 107 (16 * i + k) s) := Fr.pI
  refine OKv.up hd (okv_of 3 (by decide +kernel) (Nat.le_of_ble_eq_true rfl) (sgX12_tells_0 _ _ _ (Nat.le_of_ble_eq_true rfl) hS ?_))
  rw [lit_16, nI_clamp (by omega)]
  refine ⟨vin (by omega), ok_linksOfM (σ := hI σ 107 (16 * i + k) s) (by omega) (f1.sd hS) V1 m1.mc ?_⟩
  have e : lnk (hI σ 107 (16 * i + k) s) (nI i) (nL (hI σ 107 (16 * i + k) s)) = lnk σ (nI i) (nL σ) := rfl
  rw [e]
  refine ⟨fun z => ⟨vin (by omega), hq _ (f1.tr Fr.pI) ?_⟩, fun z => hq _ f1 ?_⟩
  · have e0 : lnk σ (nI i) (nL σ) = 0 := nI_inj (b := 0) (by omega) (by omega) z
    rw [stTell, if_pos e0]; exact m1.hI _ _ _
  · have e0 : ¬ lnk σ (nI i) (nL σ) = 0 := fun w => z (by rw [w]; rfl)
    rw [stTell, if_neg e0]; exact m1
theorem ok_tellM (hd : 6 ≤ d) (hS : Std h.2.2) (V : VS σ) (ma : MA σ h) (hq : MW h (nxTell σ a m s) (cdTell σ a m s) (vTell σ a m) F) : OKi d mX12_tell [.ref 91, .int a, .int m, .int s] h F X := by
  have hD := V.d.2
  have hM := V.m.2
  have kk : Kp scm h (hI h 91 0 0) := k0 (Kp.rf hS)
  have mk := ma.km kk
  have no : ∀ n : Nat, cdTell σ a m s = n → n ≠ 0 → MW h σ n (vTell σ a m) F := fun n e hn => by
    have := hq
    rw [nxTell, if_neg (fun w => absurd w (by omega)), e] at this; exact this
  have n1 : ¬ (isD σ a = true ∧ isN m (nM σ) = true) → cdTell σ a m s = 1 := fun z => if_neg z
  refine OKi.up hd (oki_of 5 (by decide +kernel) (Nat.le_of_ble_eq_true rfl) (sgX12_tell_0 _ _ _ (Nat.le_of_ble_eq_true rfl) hS (ok_isDeedM (by omega) kk.1 V mk.mc ⟨fun z => ok_failsW (n := 1) (by omega) kk ma (by decide) (no 1 (n1 fun w => absurd w.1 (by rw [bI_0.mp z]; decide)) (by decide)), fun z => ok_isMarkM (by omega) kk.1 V mk.mc ⟨fun z2 => ok_failsW (n := 1) (by omega) kk ma (by decide) (no 1 (n1 fun w => absurd w.2 (by rw [bI_0.mp z2]; decide)) (by decide)), fun z2 => ok_isWM (a := 0) (b := 3) rfl rfl (by omega) kk.1 ⟨fun z3 => ok_failsW (n := 2) (by omega) kk ma (by decide) (no 2 (by rw [cdTell, if_pos ⟨bI_n0.mp z, bI_n0.mp z2⟩, bI_0.mp z3]; rfl) (by decide)), fun z3 => ?_⟩⟩⟩)))
  have h1 := bI_n0.mp z
  have h2 := bI_n0.mp z2
  have e : cdTell σ a m s = 0 := by rw [cdTell, if_pos ⟨h1, h2⟩, if_pos (bI_n0.mp z3)]
  have fin := hq
  rw [nxTell, vTell, if_pos e, e] at fin
  obtain ⟨i, _, em, hi⟩ := isD_t V h1
  obtain ⟨k, hk, ek⟩ := isN_t (by omega) h2
  subst em ek
  rw [nI_clamp (by omega), nI_clamp (by omega)] at fin
  rw [lit_16, nI_clamp (by omega), mk.i 107]
  refine ⟨vin (by omega), ok_tells (by omega) kk.1 V mk hi hk (S03_w (bI_n0.mp z3)) fun q f mq => fin q _ (kk.m.tr (f.m kk.1)) mq ?_ fun _ => rfl⟩
  rw [f.i 91 0, hI_k]; rfl
/-! state -/
def cdState (σ : Hp) (a m : Int32) : Nat := if isD σ a = true ∧ isN m (nM σ) = true then 0 else 1
def vState (σ : Hp) (late : Bool) (a m : Int32) : Int32 := wS σ late a.toNatClampNeg m.toNatClampNeg
theorem ok_stateC (hd : 8 ≤ d) (hS : Std h.2.2) (V : VS σ) (c : CS σ h) (hq : CR h (cdState σ a m) (vState σ late a m) (t1 nse) F X) : OKi d mX11_state [.ref 0, .int a, .int m, .int (bI late)] h F X := by
  have hD := V.d.2
  have hM := V.m.2
  have no : ¬ (isD σ a = true ∧ isN m (nM σ) = true) → X nse h := fun z => by
    have e : cdState σ a m = 1 := if_neg z
    rw [e] at hq
    exact hq.2 (by decide) h (Kp.rf hS)
  refine enX11_state _ _ _ hd hS (ok_needDeed (by omega) hS V c.1 (fun h1 => ok_needMark (by omega) hS (c.mk V) (fun h2 => ok_sheet (by omega) hS ⟨SR_ok late, ?_⟩) fun h2 => no fun w => absurd w.2 (by rw [h2]; decide)) fun h1 => no fun w => absurd w.1 (by rw [h1]; decide))
  have e : cdState σ a m = 0 := if_pos ⟨h1, h2⟩
  rw [e] at hq
  have fin := hq.1 rfl h (Kp.rf hS)
  obtain ⟨i, _, em, hi⟩ := isD_t V h1
  obtain ⟨k, hk, ek⟩ := isN_t (by omega) h2
  subst em ek
  rw [vState, nI_clamp (by omega), nI_clamp (by omega)] at fin
  exact ok_stateOf (SR_ok late) (by omega) hS (c.sr late) (by omega) (by omega) (wS_03 V late _ _) fin
theorem ok_stateM (hd : 4 ≤ d) (hS : Std h.2.2) (V : VS σ) (mc : MC σ h) (hq : MR h (cdState σ a m) (vState σ late a m) F) : OKi d mX12_state [.ref 91, .int a, .int m, .int (bI late)] h F X := by
  have hD := V.d.2
  have hM := V.m.2
  have kk : Kp scm h (hI h 91 0 0) := k0 (Kp.rf hS)
  have mk := mc.km kk
  have n1 : ¬ (isD σ a = true ∧ isN m (nM σ) = true) → cdState σ a m = 1 := fun z => if_neg z
  refine OKi.up hd (oki_of 3 (by decide +kernel) (Nat.le_of_ble_eq_true rfl) (sgX12_state_0 _ _ _ (Nat.le_of_ble_eq_true rfl) hS (ok_isDeedM (by omega) kk.1 V mk ⟨fun z => ok_failsM (n := 1) (by omega) kk (n1 fun w => absurd w.1 (by rw [bI_0.mp z]; decide)) (by decide) hq, fun z => ok_isMarkM (by omega) kk.1 V mk ⟨fun z2 => ok_failsM (n := 1) (by omega) kk (n1 fun w => absurd w.2 (by rw [bI_0.mp z2]; decide)) (by decide) hq, fun z2 => ?_⟩⟩)))
  have h1 := bI_n0.mp z
  have h2 := bI_n0.mp z2
  have e : cdState σ a m = 0 := if_pos ⟨h1, h2⟩
  rw [e] at hq
  have fin := fun r hr => hq _ r kk hI_k hr
  obtain ⟨i, _, em, hi⟩ := isD_t V h1
  obtain ⟨k, hk, ek⟩ := isN_t (by omega) h2
  subst em ek
  rw [lit_16, nI_clamp (by omega), mk.i 107, mk.i 108]
  refine ⟨fun z3 => ⟨vin (by omega), fin _ fun _ => ?_⟩, fun z3 => ⟨vin (by omega), fin _ fun _ => ?_⟩⟩
  · rw [vState, nI_clamp (by omega), nI_clamp (by omega), bI_0.mp z3]; rfl
  · rw [vState, nI_clamp (by omega), nI_clamp (by omega), bI_n0.mp z3]; rfl
/-! doubt -/
def vDoubt (σ : Hp) (a : Int32) : Int32 := bI (dbt σ a.toNatClampNeg)
def nxDoubt (σ : Hp) (a : Int32) (is : Bool) : Hp := if isD σ a = true then hI σ 104 a.toNatClampNeg (bI is) else σ
theorem VS_nxDoubt (V : VS σ) : VS (nxDoubt σ a is) := by
  have hD := V.d.2
  rw [nxDoubt]
  by_cases q : isD σ a = true
  · rw [if_pos q]
    obtain ⟨i, _, em, hi⟩ := isD_t V q
    rw [em, nI_clamp (by omega)]
    exact VS_doubt V hi
  · rw [if_neg q]; exact V
theorem ok_doubtC (hd : 8 ≤ d) (hS : Std h.2.2) (V : VS σ) (c : CS σ h) (hq : CW h (nxDoubt σ a is) (cdD σ a) (vDoubt σ a) (t1 nse) F X) : OKi d mX11_doubt [.ref 0, .int a, .int (bI is)] h F X := by
  have hD := V.d.2
  refine enX11_doubt _ _ hd hS (ok_needDeed (by omega) hS V c.1 (fun h1 => ?_) fun h1 => ?_)
  · have e : cdD σ a = 0 := by rw [cdD, h1]; rfl
    have fin := hq.1 e
    rw [nxDoubt, vDoubt, if_pos h1] at fin
    obtain ⟨i, _, em, hi⟩ := isD_t V h1
    subst em
    rw [nI_clamp (by omega)] at fin
    have e2 : hb (h.2.1 8 12) i = dbt σ i := by rw [c.1.dbt, decide_eq_true hi, Bool.true_and]
    refine ok_has (by omega) hS (by omega) ?_
    rw [e2]
    have go : ∀ v : Int64, (∀ k, hb v k = if k = i then is else hb (h.2.1 8 12) k) → F (bI (dbt σ i)) (hL h 8 12 v) := fun v hv => fin _ ((Fr.pL : Fr [] [(8, 12)] h _).kl hS) (CS_doubt hi V c hv)
    cases is
    · refine ⟨fun _ => ok_only (by omega) hS ⟨bI_01 _, go _ fun k => ?_⟩, fun z => absurd rfl z⟩
      rw [hb_rest (by omega) rfl]
      by_cases z : k = i
      · rw [if_pos z, decide_eq_true z, Bool.not_true, Bool.and_false]
      · rw [if_neg z, decide_eq_false z, Bool.not_false, Bool.and_true]
    · refine ⟨fun z => absurd z (by decide), fun _ => ok_only (by omega) hS ⟨bI_01 _, go _ fun k => ?_⟩⟩
      rw [hb_put (by omega)]
      by_cases z : k = i
      · rw [if_pos z, decide_eq_true z, Bool.or_true]
      · rw [if_neg z, decide_eq_false z, Bool.or_false]
  · have e : cdD σ a = 1 := by rw [cdD, h1]; rfl
    have := hq.2 (by omega)
    rw [e] at this; exact this
theorem ok_fellW {n : Nat} {v : Int32} {h0 : Hp} (hd : 1 ≤ d) (k : Kp scm h0 h) (m : MA σ h0) (hn : n ≠ 0) (hq : MW h0 σ n v F) : OKi d mX12_fell [.ref 91, .int (nI n)] h (fun r g => (r = 0 ∨ r = 1) ∧ F r g) X := by
  refine enX12_fell _ hd k.1 ⟨Or.inl rfl, ?_⟩
  have k2 := k0 (v := nI n) k
  exact hq _ 0 k2.m (m.km k2) hI_k fun z => absurd z hn
theorem dbt_v {i : Nat} (V : VS σ) (hi : i < nD σ) : σ.1 104 i = bI (dbt σ i) := by
  obtain z | z := (V.de hi).2.2.2.1 <;> rw [dbt, z] <;> rfl
theorem ok_doubtM (hd : 4 ≤ d) (hS : Std h.2.2) (V : VS σ) (ma : MA σ h) (hq : MW h (nxDoubt σ a is) (cdD σ a) (vDoubt σ a) F) : OKi d mX12_doubt [.ref 91, .int a, .int (bI is)] h F X := by
  have hD := V.d.2
  have kk : Kp scm h (hI h 91 0 0) := k0 (Kp.rf hS)
  have mk := ma.km kk
  refine OKi.up hd (oki_of 3 (by decide +kernel) (Nat.le_of_ble_eq_true rfl) (sgX12_doubt_0 _ _ (Nat.le_of_ble_eq_true rfl) hS (ok_isDeedM (by omega) kk.1 V mk.mc ⟨fun z => ok_fellW (n := 1) (v := vDoubt σ a) (by omega) kk ma (by decide) ?_, fun z => ?_⟩)))
  · have h1 := bI_0.mp z
    have e : cdD σ a = 1 := by rw [cdD, h1]; rfl
    have := hq
    rw [nxDoubt, h1, if_neg (by decide), e] at this; exact this
  · have h1 := bI_n0.mp z
    have e : cdD σ a = 0 := by rw [cdD, h1]; rfl
    have fin := hq
    rw [nxDoubt, vDoubt, if_pos h1, e] at fin
    obtain ⟨i, _, em, hi⟩ := isD_t V h1
    subst em
    rw [nI_clamp (by omega)] at fin
    rw [nI_clamp (by omega), mk.i 104, dbt_v V hi]
    refine ⟨vin (by omega), vin (by omega), bI_01 _, bI_01 _, fin _ _ (kk.m.tr (Fr.m (L := [104]) (fs := []) Fr.pI kk.1)) (mk.hI _ _ _) ?_ fun _ => rfl⟩
    rw [hI_c (by decide), hI_k]; rfl
end OPSM
