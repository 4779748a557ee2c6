/-! more of the law's calls: what reads trays and rights, what writes -/
section GOCG
variable {s s' h : Hp}
theorem dlS_cg (e : s.1 = s'.1) (a : Int32) : ∀ k, (dlS s a k).1.1 = (dlS s' a k).1.1 ∧ (dlS s a k).2 = (dlS s' a k).2
  | 0 => ⟨e, rfl⟩
  | k + 1 => by
    obtain ⟨h1, h2⟩ := dlS_cg e a k
    rw [dlS, dlS, h1]
    by_cases q : (dlS s' a k).1.1 110 k = a ∨ (dlS s' a k).1.1 111 k = a
    · rw [if_pos q, if_pos q]; exact ⟨h1, h2⟩
    · rw [if_neg q, if_neg q]
      refine ⟨?_, congrArg (· + 1) h2⟩
      show up2 (up2 (up2 (dlS s a k).1.1 109 (dlS s a k).2 ((dlS s' a k).1.1 109 k)) 110 (dlS s a k).2 ((dlS s' a k).1.1 110 k)) 111 (dlS s a k).2 ((dlS s' a k).1.1 111 k) = up2 (up2 (up2 (dlS s' a k).1.1 109 (dlS s' a k).2 ((dlS s' a k).1.1 109 k)) 110 (dlS s' a k).2 ((dlS s' a k).1.1 110 k)) 111 (dlS s' a k).2 ((dlS s' a k).1.1 111 k)
      rw [h1, h2]
theorem stForget_cg (e : s.1 = s'.1) (a : Nat) : (stForget s a).1 = (stForget s' a).1 := by
  have g : (stGone s a).1 = (stGone s' a).1 := by
    show up2 s.1 105 a 1 = up2 s'.1 105 a 1
    rw [e]
  have n : nL (stGone s a) = nL (stGone s' a) := by rw [nL, nL, g]
  have d := dlS_cg g (nI a) (nL (stGone s' a))
  show up2 (dlS (stGone s a) (nI a) (nL (stGone s a))).1.1 91 7 (nI (dlS (stGone s a) (nI a) (nL (stGone s a))).2) = up2 (dlS (stGone s' a) (nI a) (nL (stGone s' a))).1.1 91 7 (nI (dlS (stGone s' a) (nI a) (nL (stGone s' a))).2)
  rw [n, d.1, d.2]
theorem goB_cg (e : s.1 = s'.1) (k : Nat) : goB s h k = goB s' h k := by
  obtain ⟨f, g⟩ := s
  obtain ⟨f', g'⟩ := s'
  have e : f = f' := e
  subst e
  rfl
theorem goS_cg (e : s.1 = s'.1) : ∀ k, (goS s h k).1.1 = (goS s' h k).1.1 ∧ (goS s h k).2 = (goS s' h k).2
  | 0 => ⟨e, rfl⟩
  | k + 1 => by
    obtain ⟨h1, h2⟩ := goS_cg e k
    rw [goS, goS, goB_cg (h := h) h1 k]
    by_cases q : goB (goS s' h k).1 h k = true
    · rw [if_pos q, if_pos q]; exact ⟨stForget_cg h1 k, congrArg (· + 1) h2⟩
    · rw [if_neg q, if_neg q]; exact ⟨h1, h2⟩
theorem vGo_out {σ : Hp} {w : Int64} {x : Int32} : vGo (hL σ 146 0 w) h x = vGo σ h x := by
  have := (goS_cg (h := h) (s := stTime (hL σ 146 0 w) x) (s' := stTime σ x) rfl (nD σ)).2
  show nI (goS (stTime (hL σ 146 0 w) x) h (nD σ)).2 = nI (goS (stTime σ x) h (nD σ)).2
  rw [this]
end GOCG
theorem wkd {L : List Nat} {fs : List (Nat × Nat)} (h0 : ∀ c ∈ L, c < 131 ∧ c ≠ 91 := by decide) (h1 : ∀ p ∈ fs, p.1 = 91 ∧ p.2 ≠ 8 ∧ p.2 ≠ 67 ∧ p.2 ≠ 75 ∧ p.2 ≠ 76 ∧ p.2 ≠ 79 ∧ p.2 ≠ 36 := by decide) : wok L fs := by
  have a : ∀ c k, (c = 91 ∧ (k = 8 ∨ k = 67 ∨ k = 75 ∨ k = 76 ∨ k = 79 ∨ k = 36)) ∨ 131 ≤ c → inW L fs c k = false := fun c k z => by
    simp only [inW, Bool.or_eq_false_iff, List.contains_eq_mem, decide_eq_false_iff_not]
    refine ⟨fun y => ?_, fun y => ?_⟩
    · have := h0 c y; omega
    · have := h1 _ y; simp only at this; omega
  exact ⟨⟨a _ _ (by omega), a _ _ (by omega), a _ _ (by omega), a _ _ (by omega), a _ _ (by omega), a _ _ (by omega)⟩, fun k => ⟨a _ _ (by omega), a _ _ (by omega), a _ _ (by omega), a _ _ (by omega), a _ _ (by omega), a _ _ (by omega), a _ _ (by omega), a _ _ (by omega)⟩⟩
section LAWM
variable {σ σ' h : Hp} {N : Hp → Prop} {μL μC μM : MI} {hh : HT} {aL aC aM : List Value} {cd : Nat} {v : Int32} {w : Int64} {tb : Nat → String} {XW : (Int32 → Hp → Prop) → String → Hp → Prop} {L : List Nat} {fs : List (Nat × Nat)}
theorem law_Rm (cp : Cpl σ h)
    (hw : ∀ F : Int32 → Hp → Prop, OKi 40 μC aC h (fun r q => F 0 (hL q 146 0 r.toInt64)) (XW F) → OKh 41 μL hh aL h F)
    (hxw : ∀ (F : Int32 → Hp → Prop) q, cd ≠ 0 → F (nI cd) q → XW F (tb cd) q)
    (hC : ∀ (F : Int32 → Hp → Prop) X, CR h cd v tb F X → OKi 40 μC aC h F X)
    (hM : ∀ (g : Hp) (F : Int32 → Hp → Prop), Std g.2.2 → MA (hL σ 146 0 (wOf σ cd v.toInt64)) g → g.1 91 36 = -1 → MR g cd v F → OKi 40 μM aM g F NX)
    (hcd : cd ≤ 3) (hN : ∀ τ g, Cpl τ g → N g) :
    OKh 41 μL hh aL h (fun (r1 : Int32) (h2 : Hp) => OKi 40 μM aM h2 (fun (r5 : Int32) (h6 : Hp) => OKi 40 mX12_thrown [.ref 91] h6 (fun (r9 : Int32) (h10 : Hp) => ((r9 = r1 → ((r1 = 0 → (((h10.2.1 146 0) = r5.toInt64 → N h10) ∧ (¬ (h10.2.1 146 0) = r5.toInt64 → False))) ∧ (¬ r1 = 0 → N h10))) ∧ (¬ r9 = r1 → False))) NX) NX) := by
  obtain ⟨S, v0, cc, ma⟩ := cp
  refine law_i (σ' := hL σ 146 0 (wOf σ cd v.toInt64)) S ma v0.out hL_k hw hxw (fun F X z0 z1 => hC F X ⟨fun e q k => z0 e q k.c (cc.kc k).so, fun e q k => z1 e q k.c (cc.kc k).so⟩) (fun g F Sg m z => hM g F Sg m ((m.i 91 36).trans v0.2.2.2.2.2) fun q r k e0 er => z q r k.m (m.km k) e0 er) hcd (hN _)
theorem law_CW (cp : Cpl σ h) (hnx : cd ≠ 0 → σ' = hL σ 146 0 (wOf σ cd v.toInt64)) (fr : Fr L fs (hL σ 146 0 (wOf σ cd v.toInt64)) σ') (wk : wok L fs) (w146 : inW L fs 146 0 = false) (V' : VV σ')
    (hw : ∀ F : Int32 → Hp → Prop, OKi 40 μC aC h (fun r q => F 0 (hL q 146 0 r.toInt64)) (XW F) → OKh 41 μL hh aL h F)
    (hxw : ∀ (F : Int32 → Hp → Prop) q, cd ≠ 0 → F (nI cd) q → XW F (tb cd) q)
    (hC : ∀ (F : Int32 → Hp → Prop) X, CW h σ' cd v tb F X → OKi 40 μC aC h F X)
    (hM : ∀ (g : Hp) (F : Int32 → Hp → Prop), Std g.2.2 → MA (hL σ 146 0 (wOf σ cd v.toInt64)) g → MW g σ' cd v F → OKi 40 μM aM g F NX)
    (hcd : cd ≤ 3) (hN : ∀ τ g, Cpl τ g → N g) :
    OKh 41 μL hh aL h (fun (r1 : Int32) (h2 : Hp) => OKi 40 μM aM h2 (fun (r5 : Int32) (h6 : Hp) => OKi 40 mX12_thrown [.ref 91] h6 (fun (r9 : Int32) (h10 : Hp) => ((r9 = r1 → ((r1 = 0 → (((h10.2.1 146 0) = r5.toInt64 → N h10) ∧ (¬ (h10.2.1 146 0) = r5.toInt64 → False))) ∧ (¬ r1 = 0 → N h10))) ∧ (¬ r9 = r1 → False))) NX) NX) := by
  obtain ⟨S, v0, cc, ma⟩ := cp
  exact law_i S ma V' ((fr.l 146 0 w146).trans hL_k) hw hxw (fun F X z0 z1 => hC F X ⟨fun e q k c => z0 e q k.c (cc.so.kl fr k c wk), fun e => z1 e h (KC.rf S) (by rw [hnx e]; exact cc.so)⟩) (fun g F Sg m z => hM g F Sg m fun q r km m2 e0 er => z q r km m2 e0 er) hcd (hN _)
theorem law_CWb (cp : Cpl σ h) (hnx : cd ≠ 0 → σ' = hL σ 146 0 (wOf σ cd (cvB v))) (fr : Fr L fs (hL σ 146 0 (wOf σ cd (cvB v))) σ') (wk : wok L fs) (w146 : inW L fs 146 0 = false) (V' : VV σ')
    (hw : ∀ F : Int32 → Hp → Prop, OKi 40 μC aC h (fun r q => ((r = 0 → F 0 (hL q 146 0 0)) ∧ (¬ r = 0 → F 0 (hL q 146 0 1)))) (XW F) → OKh 41 μL hh aL h F)
    (hxw : ∀ (F : Int32 → Hp → Prop) q, cd ≠ 0 → F (nI cd) q → XW F (tb cd) q)
    (hC : ∀ (F : Int32 → Hp → Prop) X, CW h σ' cd v tb F X → OKi 40 μC aC h F X)
    (hM : ∀ (g : Hp) (F : Int32 → Hp → Prop), Std g.2.2 → MA (hL σ 146 0 (wOf σ cd (cvB v))) g → MW g σ' cd v F → OKi 40 μM aM g F NX)
    (hcd : cd ≤ 3) (hN : ∀ τ g, Cpl τ g → N g) :
    OKh 41 μL hh aL h (fun (r1 : Int32) (h2 : Hp) => OKi 40 μM aM h2 (fun (r5 : Int32) (h6 : Hp) => OKi 40 mX12_thrown [.ref 91] h6 (fun (r9 : Int32) (h10 : Hp) => ((r9 = r1 → ((r1 = 0 → ((r5 = 0 → (((h10.2.1 146 0) = 0 → N h10) ∧ (¬ (h10.2.1 146 0) = 0 → False))) ∧ (¬ r5 = 0 → (((h10.2.1 146 0) = 1 → N h10) ∧ (¬ (h10.2.1 146 0) = 1 → False))))) ∧ (¬ r1 = 0 → N h10))) ∧ (¬ r9 = r1 → False))) NX) NX) := by
  obtain ⟨S, v0, cc, ma⟩ := cp
  exact law_b S ma V' ((fr.l 146 0 w146).trans hL_k) hw hxw (fun F X z0 z1 => hC F X ⟨fun e q k c => z0 e q k.c (cc.so.kl fr k c wk), fun e => z1 e h (KC.rf S) (by rw [hnx e]; exact cc.so)⟩) (fun g F Sg m z => hM g F Sg m fun q r km m2 e0 er => z q r km m2 e0 er) hcd (hN _)
theorem law_CWv (cp : Cpl σ h) (hnx : cd ≠ 0 → σ' = σ) (fr : Fr L fs σ σ') (wk : wok L fs) (V' : VV σ')
    (hw : ∀ F : Int32 → Hp → Prop, OKv 40 μC aC h (fun q => F 0 q) (XW F) → OKh 41 μL hh aL h F)
    (hxw : ∀ (F : Int32 → Hp → Prop) q, cd ≠ 0 → F (nI cd) q → XW F (tb cd) q)
    (hC : ∀ (G : Hp → Prop) X, CWv h σ' cd tb G X → OKv 40 μC aC h G X)
    (hM : ∀ (g : Hp) (G : Hp → Prop), Std g.2.2 → MA σ g → MWv g σ' cd G → OKv 40 μM aM g G NX)
    (hN : ∀ τ g, Cpl τ g → N g) :
    OKh 41 μL hh aL h (fun (r1 : Int32) (h2 : Hp) => OKv 40 μM aM h2 (fun (h6 : Hp) => OKi 40 mX12_thrown [.ref 91] h6 (fun (r9 : Int32) (h10 : Hp) => ((r9 = r1 → N h10) ∧ (¬ r9 = r1 → False))) NX) NX) := by
  obtain ⟨S, v0, cc, ma⟩ := cp
  exact law_v S ma V' hw hxw (fun G X z0 z1 => hC G X ⟨fun e q k c => z0 e q k.c (cc.kl fr k c wk), fun e => z1 e h (KC.rf S) (by rw [hnx e]; exact cc)⟩) (fun g G Sg m z => hM g G Sg m fun q km m2 e0 => z q km m2 e0) (hN _)
/-- a call that answers a long -/
theorem law_l {v : Int64} (S : Std h.2.2) (ma : MA σ h) (V' : VV σ') (h146 : σ'.2.1 146 0 = wOf σ cd v)
    (hw : ∀ F : Int32 → Hp → Prop, OKl 40 μC aC h (fun r q => F 0 (hL q 146 0 r)) (XW F) → OKh 41 μL hh aL h F)
    (hxw : ∀ (F : Int32 → Hp → Prop) q, cd ≠ 0 → F (nI cd) q → XW F (tb cd) q)
    (hC : ∀ (F : Int64 → Hp → Prop) X, (cd = 0 → ∀ q, KC h q → CC σ' q → F v q) → (cd ≠ 0 → ∀ q, KC h q → CC σ' q → X (tb cd) q) → OKl 40 μC aC h F X)
    (hM : ∀ (g : Hp) (F : Int64 → Hp → Prop), Std g.2.2 → MA (hL σ 146 0 (wOf σ cd v)) g → (∀ q r, KM g q → MA σ' q → q.1 91 0 = nI cd → (cd = 0 → r = v) → F r q) → OKl 40 μM aM g F NX)
    (hcd : cd ≤ 3) (hN : ∀ g, Cpl σ' g → N g) :
    OKh 41 μL hh aL h (fun (r1 : Int32) (h2 : Hp) => OKl 40 μM aM h2 (fun (r5 : Int64) (h6 : Hp) => OKi 40 mX12_thrown [.ref 91] h6 (fun (r9 : Int32) (h10 : Hp) => ((r9 = r1 → ((r1 = 0 → (((h10.2.1 146 0) = r5 → N h10) ∧ (¬ (h10.2.1 146 0) = r5 → False))) ∧ (¬ r1 = 0 → N h10))) ∧ (¬ r9 = r1 → False))) NX) NX) := by
  refine hw _ (hC _ _ (fun e q k c => ?_) fun e q k c => hxw _ q e ?_)
  · have k1 : Std (hL q 146 0 v).2.2 := k.1
    refine hM _ _ k1 ((MA_w (g := q) ma k).1 e) fun q2 r km m2 e0 er => enX12_thrown (by decide) km.1 ?_
    have n2 : N q2 := hN q2 ⟨km.1, V', c.out.mm km, m2⟩
    have x1 : q2.2.1 146 0 = v := by rw [m2.l 146 0, h146, wOf, if_pos e]
    rw [e0, e, er e]
    exact ⟨fun _ => ⟨fun _ => ⟨fun _ => n2, fun z => z x1⟩, fun z => absurd rfl z⟩, fun z => z rfl⟩
  · refine hM _ _ k.1 ((MA_w (g := q) ma k).2 e) fun q2 r km m2 e0 er => enX12_thrown (by decide) km.1 ?_
    have n2 : N q2 := hN q2 ⟨km.1, V', c.mm km, m2⟩
    have n0 : ¬ nI cd = 0 := fun z => e (nI_inj (b := 0) (by omega) (by omega) z)
    rw [e0]
    exact ⟨fun _ => ⟨fun z => absurd z n0, fun _ => n2⟩, fun z => z rfl⟩
end LAWM
section CKOUT
variable {σ : Hp} {w : Int64} {late : Bool} {x : Int64} {t : Int32} {W u : Nat → Nat → Int32} {par : Nat → Int32} {a b : Nat}
theorem prb_out : prb (hL σ 146 0 w) = prb σ := rfl
theorem vlu_out : vlu (hL σ 146 0 w) W par = vlu σ W par := rfl
theorem mwv_out : mwv (hL σ 146 0 w) W par u = mwv σ W par u := rfl
theorem prT_out : prT (hL σ 146 0 w) W = prT σ W := rfl
theorem pwn_out : ∀ n, pwn (hL σ 146 0 w) W par u a b n = pwn σ W par u a b n
  | 0 => rfl
  | n + 1 => by rw [pwn, pwn, pwn_out n, mwv_out]
theorem pwv_out : pwv (hL σ 146 0 w) W u a b = pwv σ W u a b := by
  show pwn (hL σ 146 0 w) W (prT (hL σ 146 0 w) W) u a b (nM σ) = pwn σ W (prT σ W) u a b (nM σ)
  rw [pwn_out, prT_out]
theorem ckW_out : ckW (hL σ 146 0 w) late x = ckW σ late x := funext fun i => funext fun j => by
  show pwv (hL σ 146 0 w) (wS σ late) (wS σ late) (mbf x i) (mbf x j) = pwv σ (wS σ late) (wS σ late) (mbf x i) (mbf x j)
  rw [pwv_out]
theorem ckN_out {i : Nat} : ckN (hL σ 146 0 w) i = ckN σ i := funext fun k => hL_c (by decide)
theorem ck_out : vCheck (hL σ 146 0 w) late x t = vCheck σ late x t := by
  show (if σ.1 143 t.toNatClampNeg = -1 then -2 else ckF (ckA (ckM σ t.toNatClampNeg) (cntb x) (ckN (hL σ 146 0 w) t.toNatClampNeg) (ckW (hL σ 146 0 w) late x) (cntb x))) = (if σ.1 143 t.toNatClampNeg = -1 then -2 else ckF (ckA (ckM σ t.toNatClampNeg) (cntb x) (ckN σ t.toNatClampNeg) (ckW σ late x) (cntb x)))
  rw [ckN_out, ckW_out]
theorem allW_out {i : Nat} : ∀ n, allW (hL σ 146 0 w) i n = allW σ i n
  | 0 => rfl
  | n + 1 => by
    rw [allW, allW, allW_out n, hL_c (by decide)]
theorem cdTake_out {y : Int32} : cdTake (hL σ 146 0 w) t y = cdTake σ t y := by
  show (if isN t 4 = true ∧ isD σ y = true then (if σ.1 143 t.toNatClampNeg = -1 then 2 else if tkM σ t ≤ nM σ ∧ allW (hL σ 146 0 w) t.toNatClampNeg (tkM σ t) = true then 0 else 3) else 1) = (if isN t 4 = true ∧ isD σ y = true then (if σ.1 143 t.toNatClampNeg = -1 then 2 else if tkM σ t ≤ nM σ ∧ allW σ t.toNatClampNeg (tkM σ t) = true then 0 else 3) else 1)
  rw [allW_out]
end CKOUT
