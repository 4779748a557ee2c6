/-! numbers cut to their sort -/
theorem sxb {w v : Nat} (x : BitVec w) (i : Nat) : (x.signExtend v).getLsbD i = (decide (i < v) && if i < w then x.getLsbD i else x.getLsbD (w - 1)) := by
  rw [BitVec.getLsbD_signExtend, BitVec.msb_eq_getLsbD_last]
theorem hb_lr {v y : Int64} {n : Nat} (hn : n < 64) (hy : (y.toBitVec.smod 64).toNat = n) {i : Nat} (hi : i < 64) : hb ((v <<< y) >>> y) i = hb v (if n + i < 64 then i else 63 - n) := by
  unfold hb
  rw [Int64.toBitVec_shiftRight]
  show ((v <<< y).toBitVec.sshiftRight (y.toBitVec.smod 64).toNat).getLsbD i = _
  rw [hy, BitVec.getLsbD_sshiftRight, BitVec.msb_eq_getLsbD_last, Int64.toBitVec_shiftLeft]
  have e : ∀ j, (v.toBitVec <<< (y.toBitVec.smod 64)).getLsbD j = (decide (j < 64) && !decide (j < n) && v.toBitVec.getLsbD (j - n)) := fun j => by
    show (v.toBitVec <<< (y.toBitVec.smod 64).toNat).getLsbD j = _
    rw [hy, BitVec.getLsbD_shiftLeft]
  rw [e, e]
  by_cases h : n + i < 64
  · rw [if_pos h, if_pos h, decide_eq_true h, decide_eq_false (show ¬ n + i < n by omega), decide_eq_false (show ¬ 64 ≤ i by omega), show n + i - n = i by omega]; rfl
  · rw [if_neg h, if_neg h, decide_eq_true (show 64 - 1 < 64 by omega), decide_eq_false (show ¬ 64 - 1 < n by omega), decide_eq_false (show ¬ 64 ≤ i by omega), show 64 - 1 - n = 63 - n by omega]; rfl
def cutV (s : Nat) (v : Int64) : Int64 := if s = 0 then v.toInt32.toInt8.toInt32.toInt64 else if s = 1 then v.toInt32.toInt16.toInt32.toInt64 else if s = 2 then v.toInt32.toInt64 else v
theorem cut_8 (v : Int64) {i : Nat} (hi : i < 64) : hb (v.toInt32.toInt8.toInt32.toInt64) i = hb v (if 56 + i < 64 then i else 63 - 56) := by
  unfold hb
  rw [Int32.toBitVec_toInt64, Int8.toBitVec_toInt32, Int32.toBitVec_toInt8, Int64.toBitVec_toInt32]
  simp only [sxb]
  by_cases h8 : i < 8
  · simp [h8, show i < 64 by omega, show i < 32 by omega, show 56 + i < 64 by omega]
  · by_cases h32 : i < 32
    · simp [h8, hi, h32, show ¬ 56 + i < 64 by omega]
    · simp [h8, hi, h32, show ¬ 56 + i < 64 by omega]
theorem cut_16 (v : Int64) {i : Nat} (hi : i < 64) : hb (v.toInt32.toInt16.toInt32.toInt64) i = hb v (if 48 + i < 64 then i else 63 - 48) := by
  unfold hb
  rw [Int32.toBitVec_toInt64, Int16.toBitVec_toInt32, Int32.toBitVec_toInt16, Int64.toBitVec_toInt32]
  simp only [sxb]
  by_cases h8 : i < 16
  · simp [h8, show i < 64 by omega, show i < 32 by omega, show 48 + i < 64 by omega]
  · by_cases h32 : i < 32
    · simp [h8, hi, h32, show ¬ 48 + i < 64 by omega]
    · simp [h8, hi, h32, show ¬ 48 + i < 64 by omega]
theorem cut_32 (v : Int64) {i : Nat} (hi : i < 64) : hb (v.toInt32.toInt64) i = hb v (if 32 + i < 64 then i else 63 - 32) := by
  unfold hb
  rw [Int32.toBitVec_toInt64, Int64.toBitVec_toInt32]
  simp only [sxb]
  by_cases h32 : i < 32
  · simp [hi, h32, show 32 + i < 64 by omega]
  · simp [hi, h32, show ¬ 32 + i < 64 by omega]
theorem cut_by : ∀ s, s < 4 → ((((64 : Int32) - ((8 : Int32) <<< (nI s &&& 31))).toInt64 &&& 63).toBitVec.smod 64).toNat = if s = 0 then 56 else if s = 1 then 48 else if s = 2 then 32 else 0 := by decide +kernel
theorem cut_m (v : Int64) {s : Nat} (hs : s < 4) : (v <<< (((64 : Int32) - ((8 : Int32) <<< (nI s &&& 31))).toInt64 &&& 63)) >>> (((64 : Int32) - ((8 : Int32) <<< (nI s &&& 31))).toInt64 &&& 63) = cutV s v := by
  have e := cut_by s hs
  have c : s = 0 ∨ s = 1 ∨ s = 2 ∨ s = 3 := by omega
  refine hb_ext fun i hi => ?_
  obtain rfl | rfl | rfl | rfl := c
  · rw [hb_lr (n := 56) (by omega) e hi]; exact (cut_8 v hi).symm
  · rw [hb_lr (n := 48) (by omega) e hi]; exact (cut_16 v hi).symm
  · rw [hb_lr (n := 32) (by omega) e hi]; exact (cut_32 v hi).symm
  · rw [hb_lr (n := 0) (by omega) e hi, if_pos (by omega)]; rfl
section TRAYS
variable {σ h : Hp} {d : Nat} {X : String → Hp → Prop} {F : Int32 → Hp → Prop} {G : Hp → Prop} {x y a o t s m p : Int32} {v : Int64} {is : Bool}
def CYt (σ h : Hp) : Prop := (∀ i, i < 4 → (σ.1 143 i = -1 ∧ h.1 86 i = -1) ∨ (σ.1 143 i ≠ -1 ∧ h.1 86 i = σ.1 144 i ∧ h.1 87 i = σ.1 143 i)) ∧ ∀ j, j < 160 → h.2.1 88 j = σ.2.1 145 j
def VYt (σ : Hp) : Prop := ∀ i, i < 4 → σ.1 143 i = -1 ∨ ∃ s m, s ≤ 3 ∧ m ≤ 40 ∧ σ.1 143 i = nI s ∧ σ.1 144 i = nI m
theorem isW_4 (x : Int32) : isW x 0 3 = isN x 4 := by
  have := isN_m (x := x) (n := 4) (by decide)
  exact this
theorem ok_cutTo {F : Int64 → Hp → Prop} {i : Nat} (hd : 1 ≤ d) (hS : Std h.2.2) (hi : i < 4) (hq : F (cutV i v) h) : OKl d mX10_cutTo [.ref 85, .int (nI i), .long v] h F X := by
  have c : i = 0 ∨ i = 1 ∨ i = 2 ∨ i = 3 := by omega
  rw [cutV] at hq
  obtain rfl | rfl | rfl | rfl := c
  · exact enX10_cutTo _ _ hd hS ⟨fun _ => hq, fun z => absurd z (by decide), fun z => absurd z (by decide), fun z => absurd rfl z⟩
  · exact enX10_cutTo _ _ hd hS ⟨fun z => absurd z (by decide), fun _ => hq, fun z => absurd z (by decide), fun _ z => absurd rfl z⟩
  · exact enX10_cutTo _ _ hd hS ⟨fun z => absurd z (by decide), fun z => absurd z (by decide), fun _ => hq, fun _ _ z => absurd rfl z⟩
  · exact enX10_cutTo _ _ hd hS ⟨fun z => absurd z (by decide), fun z => absurd z (by decide), fun z => absurd z (by decide), fun _ _ _ => hq⟩
def cdTray (t s m : Int32) : Nat := if isN t 4 = true then (if isW s 0 3 = true ∧ isW m 0 40 = true then 0 else 2) else 1
def stTr (σ : Hp) (t : Nat) (s m : Int32) : Nat → Hp
  | 0 => hI (hI σ 143 t s) 144 t m
  | k + 1 => hL (stTr σ t s m k) 145 (40 * t + k) 0
def nxTray (σ : Hp) (t s m : Int32) : Hp := if cdTray t s m = 0 then stTr σ t.toNatClampNeg s m 40 else σ
theorem stTr_fr {t : Nat} {s m : Int32} : ∀ k, Fr [143, 144, 145] [] σ (stTr σ t s m k)
  | 0 => Fr.tr Fr.pI Fr.pI
  | k + 1 => (stTr_fr k).tr Fr.pL
theorem stTr_1 {t : Nat} {s m : Int32} (i : Nat) : ∀ k, (stTr σ t s m k).1 143 i = (if i = t then s else σ.1 143 i) ∧ (stTr σ t s m k).1 144 i = (if i = t then m else σ.1 144 i)
  | 0 => ⟨by rw [stTr, hI_c (by decide), hI_if], by rw [stTr, hI_if, hI_c (by decide)]⟩
  | k + 1 => stTr_1 i k
theorem stTr_2 {t : Nat} {s m : Int32} (j : Nat) : ∀ k, (stTr σ t s m k).2.1 145 j = if 40 * t ≤ j ∧ j < 40 * t + k then 0 else σ.2.1 145 j
  | 0 => by rw [if_neg (by omega)]; rfl
  | k + 1 => by
    rw [stTr, hL_if, stTr_2 j k]
    by_cases q : j = 40 * t + k
    · rw [if_pos q, if_pos (by omega)]
    · rw [if_neg q]
      by_cases q2 : 40 * t ≤ j ∧ j < 40 * t + k
      · rw [if_pos q2, if_pos (by omega)]
      · rw [if_neg q2, if_neg (by omega)]
theorem VYt_tray (Y : VYt σ) : VYt (nxTray σ t s m) := by
  rw [nxTray]
  by_cases q : cdTray t s m = 0
  · rw [if_pos q]
    rw [cdTray] at q
    by_cases w : isN t 4 = true
    · rw [if_pos w] at q
      by_cases o : isW s 0 3 = true ∧ isW m 0 40 = true
      · obtain ⟨k, hk, ek⟩ := isW_n (n := 3) (by decide) o.1
        obtain ⟨l, hl, el⟩ := isW_n (n := 40) (by decide) o.2
        intro i hi
        rw [(stTr_1 i 40).1, (stTr_1 i 40).2]
        by_cases z : i = t.toNatClampNeg
        · rw [if_pos z, if_pos z]; exact Or.inr ⟨k, l, hk, hl, ek, el⟩
        · rw [if_neg z, if_neg z]; exact Y i hi
      · rw [if_neg o] at q; omega
    · rw [if_neg w] at q; omega
  · rw [if_neg q]; exact Y
theorem ok_needTray {F : Hp → Prop} (hd : 7 ≤ d) (hS : Std h.2.2) (hq : isN t 4 = true → F h) (hx : isN t 4 = false → X nse h) : OKv d mX11_needTray [.ref 0, .int t] h F X := by
  refine enX11_needTray _ hd hS ⟨fun z => hx (isN_ng z), fun z => ?_⟩
  exact ⟨fun z2 => hq (by rw [isN_lt z, decide_eq_true (show t < nI 4 from z2)]), fun z2 => hx (by rw [isN_lt z, decide_eq_false (show ¬ t < nI 4 from z2)])⟩
def CTW (h σ' : Hp) (cd : Nat) (tb : Nat → String) (L : List Nat) (G : Hp → Prop) (X : String → Hp → Prop) : Prop := (cd = 0 → ∀ q, Fr L [] h q → CYt σ' q → G q) ∧ (cd ≠ 0 → X (tb cd) h)
theorem ok_trayC (hd : 8 ≤ d) (hS : Std h.2.2) (c : CYt σ h) (hq : CTW h (nxTray σ t s m) (cdTray t s m) (t2 nse iae) [86, 87, 88] G X) : OKv d mX11_tray [.ref 0, .int t, .int s, .int m] h G X := by
  refine enX11_tray _ _ _ hd hS (ok_needTray (by omega) hS (fun h1 => ?_) fun h1 => ?_)
  · have no : ¬ (isW s 0 3 = true ∧ isW m 0 40 = true) → X iae h := fun z => by
      have e : cdTray t s m = 2 := by rw [cdTray, if_pos h1, if_neg z]
      have := hq.2 (by omega)
      rw [e] at this; exact this
    refine ok_isW (a := 0) (b := 3) rfl rfl (by omega) hS ⟨fun z => no fun w => absurd w.1 (by rw [bI_0.mp z]; decide), fun z => ok_isW (a := 0) (b := 40) rfl rfl (by omega) hS ⟨fun z2 => no fun w => absurd w.2 (by rw [bI_0.mp z2]; decide), fun z2 => ?_⟩⟩
    have e : cdTray t s m = 0 := by rw [cdTray, if_pos h1, if_pos ⟨bI_n0.mp z, bI_n0.mp z2⟩]
    have fin := hq.1 e
    rw [nxTray, if_pos e] at fin
    obtain ⟨i, hi, ei⟩ := isN_t (by decide) h1
    obtain ⟨l, hl, el⟩ := isW_n (n := 40) (by decide) (bI_n0.mp z2)
    obtain ⟨k, hk, ek⟩ := isW_n (n := 3) (by decide) (bI_n0.mp z)
    have ne : s ≠ -1 := fun w => by rw [ek] at w; exact nI_neg (by omega) w
    subst ei
    rw [nI_clamp (by omega)] at fin
    have go : ∀ (n k : Nat) (g : Hp), k + n = 40 → Fr [86, 87, 88] [] h g → (∀ j, g.1 86 j = (if j = i then m else h.1 86 j) ∧ g.1 87 j = if j = i then s else h.1 87 j) → (∀ j, g.2.1 88 j = if 40 * i ≤ j ∧ j < 40 * i + k then 0 else h.2.1 88 j) → E mX10_lay 0 0 0 17 [(0, .ref 85), (1, .int (nI i)), (4, .int (nI k))] [] g (Qv G) X := by
      intro n
      induction n with
      | zero =>
        intro k g e f I J
        have : k = 40 := by omega
        subst this
        refine sgX10_lay_17 _ _ (Nat.le_refl _) (f.sd hS) ⟨fun _ => fin g f ⟨fun j hj => ?_, fun j hj => ?_⟩, fun w => absurd (Int32.le_refl _) w⟩
        · rw [(stTr_1 j 40).1, (stTr_1 j 40).2, (I j).1, (I j).2]
          by_cases w : j = i
          · rw [if_pos w, if_pos w, if_pos w, if_pos w]; exact Or.inr ⟨ne, rfl, rfl⟩
          · rw [if_neg w, if_neg w, if_neg w, if_neg w]; exact c.1 j hj
        · rw [J, stTr_2, c.2 j hj]
      | succ n ih =>
        intro k g e f I J
        have hk : k < 40 := by omega
        refine sgX10_lay_17 _ _ (Nat.le_refl _) (f.sd hS) ⟨fun w => absurd w (nI_ge (a := k) (b := 40) hk (by omega)), fun _ => ?_⟩
        rw [Int32.mul_comm, lit_40, nI_clamp (by omega), nI_1]
        refine ⟨vin (by omega), ih (k + 1) _ (by omega) (f.tr Fr.pL) I fun j => ?_⟩
        rw [hL_if, J]
        by_cases w : j = 40 * i + k
        · rw [if_pos w, if_pos (by omega)]
        · rw [if_neg w]
          by_cases w2 : 40 * i ≤ j ∧ j < 40 * i + k
          · rw [if_pos w2, if_pos (by omega)]
          · rw [if_neg w2, if_neg (by omega)]
    refine enX10_lay _ _ _ (by omega) hS ?_
    rw [nI_clamp (by omega)]
    refine ⟨vin (by omega), vin (by omega), go 40 0 _ rfl (Fr.tr Fr.pI Fr.pI) (fun j => ⟨by rw [hI_if, hI_c (by decide)], by rw [hI_c (by decide), hI_if]⟩) fun j => by rw [if_neg (by omega)]; rfl⟩
  · have e : cdTray t s m = 1 := by rw [cdTray, h1]; rfl
    have := hq.2 (by omega)
    rw [e] at this; exact this
theorem ok_isTray (hd : 2 ≤ d) (hS : Std h.2.2) (hq : F (bI (isN t 4)) h) : OKi d mX12_isTray [.int t] h F X := by
  rw [← isW_4] at hq
  exact enX12_isTray _ hd hS (ok_isWM (a := 0) (b := 3) rfl rfl (by omega) hS ⟨bI_01 _, hq⟩)
theorem ok_trayM (hd : 4 ≤ d) (hS : Std h.2.2) (ma : MA σ h) (hq : MWv h (nxTray σ t s m) (cdTray t s m) G) : OKv d mX12_tray [.ref 91, .int t, .int s, .int m] h G X := by
  have s41 : ∀ n : Nat, n < 3 → n ≠ 0 → cdTray t s m = n → E mX12_tray 3 0 0 41 [(0, .ref 91), (1, .int t), (2, .int s), (3, .int m)] [.int (nI n), .ref 91] h (Qv G) X := fun n h1 h2 e => by
    have fin := hq
    rw [nxTray, if_neg (by omega), e] at fin
    have k1 := k0 (v := nI n) (Kp.rf hS)
    exact sgX12_tray_41 _ _ _ _ (Nat.le_of_ble_eq_true rfl) hS ⟨fun w => absurd w (nI_nle (by omega) (by omega)), fun _ => fin _ k1.m (ma.km k1) hI_k⟩
  have s36 : cdTray t s m = 2 → E mX12_tray 3 0 0 36 [(0, .ref 91), (1, .int t), (2, .int s), (3, .int m)] [.ref 91] h (Qv G) X := fun e => sgX12_tray_36 _ _ _ (Nat.le_of_ble_eq_true rfl) hS (s41 2 (by decide) (by decide) e)
  refine OKv.up hd (okv_of 3 (by decide +kernel) (Nat.le_of_ble_eq_true rfl) (sgX12_tray_0 _ _ _ (Nat.le_of_ble_eq_true rfl) hS (ok_isTray (by omega) hS ⟨fun z => s41 1 (by decide) (by decide) (by rw [cdTray, bI_0.mp z]; rfl), fun z => ?_⟩)))
  have h1 := bI_n0.mp z
  refine ok_isWM (a := 0) (b := 3) rfl rfl (by omega) hS ⟨fun z2 => s36 (by rw [cdTray, if_pos h1, bI_0.mp z2]; rfl), fun z2 => ok_isWM (a := 0) (b := 40) rfl rfl (by omega) hS ⟨fun z3 => s36 (by rw [cdTray, if_pos h1, bI_0.mp z3, if_neg (fun w => absurd w.2 (by decide))]), fun z3 => ?_⟩⟩
  have e : cdTray t s m = 0 := by rw [cdTray, if_pos h1, if_pos ⟨bI_n0.mp z2, bI_n0.mp z3⟩]
  have fin := hq
  rw [nxTray, if_pos e, e] at fin
  obtain ⟨i, hi, ei⟩ := isN_t (by decide) h1
  subst ei
  rw [nI_clamp (by omega)] at fin
  have k1 := k0 (v := 0) (Kp.rf hS)
  have m1 := ma.km k1
  have go : ∀ (n k : Nat) (g : Hp), k + n = 40 → Fr [143, 144, 145] [] (hI h 91 0 0) g → MA (stTr σ i s m k) g → E mX12_tray 3 0 0 69 [(0, .ref 91), (1, .int (nI i)), (4, .int (nI k))] [] g (Qv G) X := by
    intro n
    induction n with
    | zero =>
      intro k g e f mg
      have : k = 40 := by omega
      subst this
      exact sgX12_tray_69 _ _ (Nat.le_of_ble_eq_true rfl) (f.sd k1.1) ⟨fun _ => fin g (k1.m.tr (f.m k1.1)) mg (by rw [f.i 91 0, hI_k]; rfl), fun w => absurd (Int32.le_refl _) w⟩
    | succ n ih =>
      intro k g e f mg
      have hk : k < 40 := by omega
      refine sgX12_tray_69 _ _ (Nat.le_of_ble_eq_true rfl) (f.sd k1.1) ⟨fun w => absurd w (nI_ge (a := k) (b := 40) hk (by omega)), fun _ => ?_⟩
      rw [lit_40, nI_clamp (by omega), nI_1]
      exact ⟨vin (by omega), ih (k + 1) _ (by omega) (f.tr Fr.pL) (mg.hL _ _ _)⟩
  refine sgX12_tray_41 _ _ _ _ (Nat.le_of_ble_eq_true rfl) hS ⟨fun _ => ?_, fun w => absurd (Int32.le_refl _) w⟩
  rw [nI_clamp (by omega)]
  exact ⟨vin (by omega), vin (by omega), go 40 0 _ rfl (Fr.tr Fr.pI Fr.pI) ((m1.hI _ _ _).hI _ _ _)⟩
/-! write -/
def cdWrite (σ : Hp) (t p : Int32) : Nat := if isN t 4 = true then (if σ.1 143 t.toNatClampNeg = -1 then 2 else if isN p (σ.1 144 t.toNatClampNeg).toNatClampNeg = true then 0 else 3) else 1
def vWrite (σ : Hp) (t : Int32) (v : Int64) : Int64 := cutV (σ.1 143 t.toNatClampNeg).toNatClampNeg v
def nxWrite (σ : Hp) (t p : Int32) (v : Int64) : Hp := if cdWrite σ t p = 0 then hL σ 145 (40 * t.toNatClampNeg + p.toNatClampNeg) (vWrite σ t v) else σ
theorem ok_writeC {F : Int64 → Hp → Prop} (hd : 8 ≤ d) (hS : Std h.2.2) (Y : VYt σ) (c : CYt σ h) (hq : cdWrite σ t p = 0 → ∀ q, Fr [88] [] h q → CYt (nxWrite σ t p v) q → F (vWrite σ t v) q) (hx : cdWrite σ t p ≠ 0 → X (t3 nse ise "java/lang/IndexOutOfBoundsException" (cdWrite σ t p)) h) : OKl d mX11_write [.ref 0, .int t, .int p, .long v] h F X := by
  have no : ∀ n : Nat, n ≠ 0 → cdWrite σ t p = n → X (t3 nse ise "java/lang/IndexOutOfBoundsException" n) h := fun n h1 e => by
    rw [e] at hx; exact hx h1
  refine enX11_write _ _ _ hd hS (ok_needTray (by omega) hS (fun h1 => ?_) fun h1 => no 1 (by decide) (by rw [cdWrite, h1]; rfl))
  obtain ⟨i, hi, ei⟩ := isN_t (by decide) h1
  subst ei
  have e1 : cdWrite σ (nI i) p = (if σ.1 143 i = -1 then 2 else if isN p (σ.1 144 i).toNatClampNeg = true then 0 else 3) := by rw [cdWrite, if_pos h1, nI_clamp (by omega)]
  refine enX11_needLaid _ (by omega) hS ?_
  rw [nI_clamp (by omega)]
  obtain ⟨z1, z2⟩ | ⟨z1, z2, z3⟩ := c.1 i hi
  · refine ⟨vin (by omega), fun _ => no 2 (by decide) (by rw [e1, if_pos z1]), fun w => absurd z2 w⟩
  · obtain w | ⟨k, l, hk, hl, ek, el⟩ := Y i hi
    · exact absurd w z1
    · rw [z2, el]
      have e2 : (σ.1 144 i).toNatClampNeg = l := by rw [el, nI_clamp (by omega)]
      rw [if_neg z1, e2] at e1
      refine ⟨vin (by omega), fun w => absurd w (nI_neg (by omega)), fun _ => ⟨fun w => no 3 (by decide) ?_, fun w => ⟨vin (by omega), ?_⟩⟩⟩
      · rw [e1, isN_ng w]; rfl
      · refine ⟨fun w2 => ?_, fun w2 => no 3 (by decide) (by rw [e1, isN_lt w, decide_eq_false w2]; rfl)⟩
        have hp : isN p l = true := by rw [isN_lt w, decide_eq_true w2]
        obtain ⟨j, hj, ej⟩ := isN_t (by omega) hp
        subst ej
        rw [hp, if_pos rfl] at e1
        have fin := hq e1
        rw [nxWrite, if_pos e1, vWrite, nI_clamp (by omega), nI_clamp (by omega), ek, nI_clamp (by omega)] at fin
        refine enX10_put _ _ _ (by omega) hS ?_
        rw [nI_clamp (by omega), z3, ek]
        refine ⟨vin (by omega), ok_cutTo (by omega) hS (by omega) ?_⟩
        rw [Int32.mul_comm, lit_40, nI_clamp (by omega)]
        refine ⟨vin (by omega), fin _ Fr.pL ⟨c.1, fun x hx => ?_⟩⟩
        rw [hL_if, hL_if, c.2 x hx]
theorem ok_writeM {F : Int64 → Hp → Prop} (hd : 4 ≤ d) (hS : Std h.2.2) (Y : VYt σ) (ma : MA σ h) (hq : ∀ q r, KM h q → MA (nxWrite σ t p v) q → q.1 91 0 = nI (cdWrite σ t p) → (cdWrite σ t p = 0 → r = vWrite σ t v) → F r q) : OKl d mX12_write [.ref 91, .int t, .int p, .long v] h F X := by
  have kk : Kp scm h (hI h 91 0 0) := k0 (Kp.rf hS)
  have mk := ma.km kk
  have no : ∀ n : Nat, n ≠ 0 → cdWrite σ t p = n → OKi 3 mX12_fails [.ref 91, .int (nI n)] (hI h 91 0 0) (fun r g => F r.toInt64 g) X := fun n h1 e => by
    refine ok_fails (by omega) kk.1 fun q f e0 => hq q _ (kk.tr (f.km kk.1)).m ?_ (by rw [e]; exact e0) fun z => absurd (e.symm.trans z) h1
    rw [nxWrite, if_neg (by omega)]; exact ma.km (kk.tr (f.km kk.1))
  refine OKl.up hd (okl_of 3 (by decide +kernel) (Nat.le_of_ble_eq_true rfl) (sgX12_write_0 _ _ _ (Nat.le_of_ble_eq_true rfl) hS (ok_isTray (by omega) kk.1 ⟨fun z => no 1 (by decide) (by rw [cdWrite, bI_0.mp z]; rfl), fun z => ?_⟩)))
  have h1 := bI_n0.mp z
  obtain ⟨i, hi, ei⟩ := isN_t (by decide) h1
  subst ei
  have e1 : cdWrite σ (nI i) p = (if σ.1 143 i = -1 then 2 else if isN p (σ.1 144 i).toNatClampNeg = true then 0 else 3) := by rw [cdWrite, if_pos h1, nI_clamp (by omega)]
  rw [nI_clamp (by omega), mk.i 143]
  refine ⟨vin (by omega), fun w => no 2 (by decide) (by rw [e1, if_pos w]), fun z1 => ⟨vin (by omega), ?_⟩⟩
  obtain w | ⟨k, l, hk, hl, ek, el⟩ := Y i hi
  · exact absurd w z1
  · rw [mk.i 144, el]
    have e2 : (σ.1 144 i).toNatClampNeg = l := by rw [el, nI_clamp (by omega)]
    rw [if_neg z1, e2] at e1
    refine ok_within (by omega) kk.1 ?_
    rw [isN_w (by omega)]
    refine ⟨fun w => no 3 (by decide) (by rw [e1, bI_0.mp w]; rfl), fun w => ?_⟩
    obtain ⟨j, hj, ej⟩ := isN_t (by omega) (bI_n0.mp w)
    subst ej
    rw [bI_n0.mp w, if_pos rfl] at e1
    rw [nxWrite, if_pos e1, e1, vWrite, nI_clamp (by omega), nI_clamp (by omega), ek, nI_clamp (by omega)] at hq
    rw [lit_40, nI_clamp (by omega), mk.i 143, ek, cut_m v (by omega)]
    refine ⟨vin (by omega), vin (by omega), vin (by omega), hq _ _ (kk.m.tr (Fr.m (L := [145]) (fs := []) Fr.pL kk.1)) (mk.hL _ _ _) ?_ fun _ => by rw [hL_k]⟩
    rw [hL_i, hI_k]; rfl
end TRAYS
