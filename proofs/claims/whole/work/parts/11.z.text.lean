/-! texts: constants, their letters -/
section TXT
variable {C : Ctx} {μ μ' : MI} {d k n k2 n2 pc ix i : Nat} {lv : List (Nat × Value)} {st : List Value} {h : Hp} {bs : List Int32} {Q : Option Value → Hp → Prop} {X : String → Hp → Prop}
theorem w_ldcT {tx : String} (hC : CxOK C μ) (hd : decode μ.2.1 pc = .ok (.ldc ix, 2)) (hs : strL[i]? = some (μ.1.cls, ix, tx)) (kk : WW C μ k n (pc + 2) lv (.ref (1000 + i) :: st) h) : WW C μ k n pc lv st h := by
  obtain ⟨p, l, e, R, s, m, args, below, meth, c, D, g, A, ad0, n0, Qf⟩ := C
  obtain ⟨hx, hb, hml, hown, hts, hr, hlk, hK, hA, hl9, hN, hT, hZ⟩ := hC
  intro ad H locs ls hW hlv hst hl
  have hq : vk_R μ.1.cls ix tx (ad (1000 + i)) s := by
    rw [hW.2.2.2.1 _ (Or.inr (Nat.le_add_right _ _))]; exact hT i _ hs
  exact va_ldcS hx hb hown hq hd (kk ad H locs ls hW hlv (fun v hv => (List.mem_cons.mp hv).elim (fun q => by rw [q]; exact Or.inr (Nat.le_add_right _ _)) (hst v)) hl)
theorem w_ldcTw {tx : String} (hC : CxOK C μ) (hd : decode μ.2.1 pc = .ok (.ldc_w ix, 3)) (hs : strL[i]? = some (μ.1.cls, ix, tx)) (kk : WW C μ k n (pc + 3) lv (.ref (1000 + i) :: st) h) : WW C μ k n pc lv st h := by
  obtain ⟨p, l, e, R, s, m, args, below, meth, c, D, g, A, ad0, n0, Qf⟩ := C
  obtain ⟨hx, hb, hml, hown, hts, hr, hlk, hK, hA, hl9, hN, hT, hZ⟩ := hC
  intro ad H locs ls hW hlv hst hl
  have hq : vk_R μ.1.cls ix tx (ad (1000 + i)) s := by
    rw [hW.2.2.2.1 _ (Or.inr (Nat.le_add_right _ _))]; exact hT i _ hs
  have hk := kk ad H locs ls hW hlv (fun v hv => (List.mem_cons.mp hv).elim (fun q => by rw [q]; exact Or.inr (Nat.le_add_right _ _)) (hst v)) hl
  intro T hT2 Y
  obtain ⟨t, a1, b1⟩ := hk T hT2 Y
  exact ⟨t, Y.ldcStringW hx hown (text := tx) (a := ad (1000 + i)) hq.1 hq.2 (g := F0 m pc ls (st.map (cv ad))) rfl (by rw [hb]; exact hd) t a1, b1⟩
theorem w_coderT (hC : CxOK C μ) (hq : (i, bs) ∈ txL) (hd : decode μ.2.1 pc = .ok (.getfield ix, 3)) (hf : Cond.fieldLink μ.1.cls ix "java/lang/String" "coder" "B" ∈ BIG) (kk : WW C μ k n (pc + 3) lv (.int 0 :: st) h) : WW C μ k n pc lv (.ref (1000 + i) :: st) h := by
  obtain ⟨p, l, e, R, s, m, args, below, meth, c, D, g, A, ad0, n0, Qf⟩ := C
  obtain ⟨hx, hb, hml, hown, hts, hr, hlk, hK, hA, hl9, hN, hT, hZ⟩ := hC
  intro ad H locs ls hW hlv hst hl
  have hz := (hZ.2.adr (ad' := ad) fun c hc => hW.2.2.2.1 c (Or.inr hc)).1 _ hq
  exact vk_getf hx hb hz.2.1 hW.2.2.1 hown (hts _ hf) (fun _ h => h) hd (kk ad H locs ls hW hlv (fun v hv => (List.mem_cons.mp hv).elim (fun q => by rw [q]; trivial) (fun hv => hst v (List.mem_cons_of_mem _ hv))) hl)
theorem w_valueT (hC : CxOK C μ) (hq : (i, bs) ∈ txL) (hd : decode μ.2.1 pc = .ok (.getfield ix, 3)) (hf : Cond.fieldLink μ.1.cls ix "java/lang/String" "value" "[B" ∈ BIG) (kk : WW C μ k n (pc + 3) lv (.ref (2000 + i) :: st) h) : WW C μ k n pc lv (.ref (1000 + i) :: st) h := by
  obtain ⟨p, l, e, R, s, m, args, below, meth, c, D, g, A, ad0, n0, Qf⟩ := C
  obtain ⟨hx, hb, hml, hown, hts, hr, hlk, hK, hA, hl9, hN, hT, hZ⟩ := hC
  intro ad H locs ls hW hlv hst hl
  have hz := (hZ.2.adr (ad' := ad) fun c hc => hW.2.2.2.1 c (Or.inr hc)).1 _ hq
  exact vk_getf hx hb hz.2.2.1 hW.2.2.1 hown (hts _ hf) (fun _ h => h) hd (kk ad H locs ls hW hlv (fun v hv => (List.mem_cons.mp hv).elim (fun q => by rw [q]; exact Or.inr (Nat.le_trans (by decide) (Nat.le_add_right 2000 _))) (fun hv => hst v (List.mem_cons_of_mem _ hv))) hl)
theorem w_alenT (hC : CxOK C μ) (hq : (i, bs) ∈ txL) (hd : decode μ.2.1 pc = .ok (.arraylength, 1)) (kk : WW C μ k n (pc + 1) lv (.int (Int32.ofNat bs.length) :: st) h) : WW C μ k n pc lv (.ref (2000 + i) :: st) h := by
  obtain ⟨p, l, e, R, s, m, args, below, meth, c, D, g, A, ad0, n0, Qf⟩ := C
  obtain ⟨hx, hb, hml, hown, hts, hr, hlk, hK, hA, hl9, hN, hT, hZ⟩ := hC
  intro ad H locs ls hW hlv hst hl
  have hz := (hZ.2.adr (ad' := ad) fun c hc => hW.2.2.2.1 c (Or.inr hc)).1 _ hq
  exact va_tlen hx hb hz.2.2.2 hW.2.2.1 rfl hd (kk ad H locs ls hW hlv (fun v hv => (List.mem_cons.mp hv).elim (fun q => by rw [q]; trivial) (fun hv => hst v (List.mem_cons_of_mem _ hv))) hl)
theorem w_baldT {j : Int32} (hC : CxOK C μ) (hq : (i, bs) ∈ txL) (hj : vp_in j bs.length) (hd : decode μ.2.1 pc = .ok (.baload, 1)) (kk : WW C μ k n (pc + 1) lv (.int (bs.getD j.toNatClampNeg 0) :: st) h) : WW C μ k n pc lv (.int j :: .ref (2000 + i) :: st) h := by
  obtain ⟨p, l, e, R, s, m, args, below, meth, c, D, g, A, ad0, n0, Qf⟩ := C
  obtain ⟨hx, hb, hml, hown, hts, hr, hlk, hK, hA, hl9, hN, hT, hZ⟩ := hC
  intro ad H locs ls hW hlv hst hl
  have hz := (hZ.2.adr (ad' := ad) fun c hc => hW.2.2.2.1 c (Or.inr hc)).1 _ hq
  exact va_tb hx hb hz.2.2.2 hW.2.2.1 hj rfl hd (kk ad H locs ls hW hlv (fun v hv => (List.mem_cons.mp hv).elim (fun q => by rw [q]; trivial) (fun hv => hst v (List.mem_cons_of_mem _ (List.mem_cons_of_mem _ hv)))) hl)
theorem w_compact (hC : CxOK C μ) (hd : decode μ.2.1 pc = .ok (.getstatic ix, 3)) (hf : Cond.fieldLink μ.1.cls ix "java/lang/String" "COMPACT_STRINGS" "Z" ∈ BIG) (kk : WW C μ k n (pc + 3) lv (.int 1 :: st) h) : WW C μ k n pc lv st h := by
  obtain ⟨p, l, e, R, s, m, args, below, meth, c, D, g, A, ad0, n0, Qf⟩ := C
  obtain ⟨hx, hb, hml, hown, hts, hr, hlk, hK, hA, hl9, hN, hT, hZ⟩ := hC
  intro ad H locs ls hW hlv hst hl
  exact va_gets hx hb hZ.2.2.1 hW.2.2.1 hown (hts _ hf) (fun _ h => h) hd (kk ad H locs ls hW hlv (fun v hv => (List.mem_cons.mp hv).elim (fun q => by rw [q]; trivial) (hst v)) hl)
theorem w_sioobe (hC : CxOK C μ) (hd : decode μ.2.1 pc = .ok (.getstatic ix, 3)) (hf : Cond.fieldLink μ.1.cls ix "jdk/internal/util/Preconditions" "SIOOBE_FORMATTER" "Ljava/util/function/BiFunction;" ∈ BIG) (kk : ∀ fv : Value, (fv = .ref 3000 ∨ fv = .null) → WW C μ k n (pc + 3) lv (fv :: st) h) : WW C μ k n pc lv st h := by
  obtain ⟨p, l, e, R, s, m, args, below, meth, c, D, g, A, ad0, n0, Qf⟩ := C
  obtain ⟨hx, hb, hml, hown, hts, hr, hlk, hK, hA, hl9, hN, hT, hZ⟩ := hC
  intro ad H locs ls hW hlv hst hl
  have hz := (hZ.2.adr (ad' := ad) fun c hc => hW.2.2.2.1 c (Or.inr hc)).2.2
  obtain hz | hz := hz
  · exact va_gets hx hb hz hW.2.2.1 hown (hts _ hf) (fun _ h => h) hd (kk (.ref 3000) (Or.inl rfl) ad H locs ls hW hlv (fun v hv => (List.mem_cons.mp hv).elim (fun q => by rw [q]; exact Or.inr (by decide)) (hst v)) hl)
  · exact va_gets hx hb hz hW.2.2.1 hown (hts _ hf) (fun _ h => h) hd (kk .null (Or.inr rfl) ad H locs ls hW hlv (fun v hv => (List.mem_cons.mp hv).elim (fun q => by rw [q]; trivial) (hst v)) hl)
theorem w_i2c {x : Int32} (hC : CxOK C μ) (hd : decode μ.2.1 pc = .ok (.i2c, 1)) (kk : WW C μ k n (pc + 1) lv (.int (x.toUInt32 % 65536).toInt32 :: st) h) : WW C μ k n pc lv (.int x :: st) h := by
  obtain ⟨p, l, e, R, s, m, args, below, meth, c, D, g, A, ad0, n0, Qf⟩ := C
  obtain ⟨hx, hb, hml, hown, hts, hr, hlk, hK, hA, hl9, hN, hT, hZ⟩ := hC
  intro ad H locs ls hW hlv hst hl
  exact lv_i2c hx hb hd rfl (kk ad H locs ls hW hlv (fun v hv => (List.mem_cons.mp hv).elim (fun q => by rw [q]; trivial) (fun hv => hst v (List.mem_cons_of_mem _ hv))) hl)
theorem w_callT {d' : Nat} {Q' : Option Value → Hp → Prop} {X' : String → Hp → Prop} {rest : List Value} (avs : List Value) (hq : (i, bs) ∈ txL) (hcl : μ'.1.cls = "java/lang/String") (hC : CxOK C μ) (hCs : CasC C) (hM : CallOK μ' d' (.ref (1000 + i) :: avs) h Q' X') (hRm : RmOK C μ' d' k n) (hd : decode μ.2.1 pc = .ok (.invokevirtual ix, 3)) (cl : CLV μ.1.cls ix μ' avs.length) (hs0 : st = avs.reverse ++ .ref (1000 + i) :: rest) (h8 : (rest.map fun v => v.category).sum ≤ 8)
    (kk : ∀ (v : Option Value) (h' : Hp), Q' v h' → μ'.2.2.2.2.1 h'.2.2 → h.2.2.2 ≤ h'.2.2.2 → (∀ w, v = some w → RO h'.2.2.2 w) → WW C μ (k + μ'.2.2.2.2.2.1) (n + μ'.2.2.2.2.2.2) (pc + 3) lv (v.toList ++ rest) h')
    (kx : ∀ (E : String) (h' : Hp), X' E h' → μ'.2.2.2.2.1 h'.2.2 → h.2.2.2 ≤ h'.2.2.2 → VX C μ (k + μ'.2.2.2.2.2.1) (n + μ'.2.2.2.2.2.2) pc lv rest h' E) : WW C μ k n pc lv st h := by
  obtain ⟨p, l, e, R, s, m, args, below, meth, c, D, g, A, ad0, n0, Qf⟩ := C
  intro ad H locs ls hW hlv hst hl
  subst hs0
  obtain ⟨hx, hb0, hml, hown, hts, hr0, hlk, hK, hA, hl9, hN, hT, hZ⟩ := id hC
  obtain ⟨⟨c1, c2, c3, c4, c5⟩, c6, c7, c8⟩ := cl
  obtain ⟨r1, r2, r3, r4⟩ := hRm
  have hro : ∀ v ∈ (Value.ref (1000 + i) :: avs), RO h.2.2.2 v := fun v hv => hst v (by simp only [List.mem_append, List.mem_reverse, List.mem_cons] at hv ⊢; rcases hv with hv | hv <;> simp [hv])
  have hrr : ∀ v ∈ rest, RO h.2.2.2 v := fun v hv => hst v (by simp [hv])
  have hrec : ∃ cell : Cell, H[ad (1000 + i)]? = some cell ∧ cell.vm.isStatics = false ∧ s.vm.findClass μ'.1.cls = some cell.cls := by
    obtain ⟨cell, h1, h2, h3, -⟩ := ((hZ.2.adr (ad' := ad) fun c hc => hW.2.2.2.1 c (Or.inr hc)).1 _ hq).1.kept hW.2.2.1.2.1
    exact ⟨cell, h1, h2, by rw [hcl]; exact h3⟩
  refine w_run (rest := rest) hC hW hlv hrr hl (vx_runV (As := avs.map (cv ad)) (b := ad (1000 + i)) (Ts := BIG) (own := μ.1.cls) (C := μ'.1.cls) ⟨hx, hb0, hml, hown, hts⟩ (hM hro l D g ad H.size hl9) ⟨callB_of avs.length hts (wsM_good (μ := μ) c2) rfl rfl rfl (hts _ c1) (hts _ c6) ⟨c3, c4, c5⟩ ⟨r1, r2⟩, hts _ c7, hts _ c8⟩ ⟨PC_blind, hrec, w_pre hC hCs hW (.ref (1000 + i) :: avs)⟩ rfl (by rw [List.length_map]) hl.1 ?_ (lv_room (by rw [cat_cv]; exact h8)) hd ⟨r3, r4⟩) kk kx
  rw [List.map_append, List.map_reverse]; rfl
theorem m_callTi (avs rest : List Value) {F : Int32 → Hp → Prop} (hC : CxOK C μ) (hX : MX C μ d Q X) (hM : OKi d μ' (.ref (1000 + i) :: avs) h F X) (hk2 : k2 = k + μ'.2.2.2.2.2.1) (hn2 : n2 = n + μ'.2.2.2.2.2.2) (hk : k + μ'.2.2.2.2.2.1 ≤ μ.2.2.2.2.2.1) (hn : n + μ'.2.2.2.2.2.2 ≤ μ.2.2.2.2.2.2) (hloc : μ'.2.2.1 ≤ 21) (hd : decode μ.2.1 pc = .ok (.invokevirtual ix, 3)) (cl : CLV μ.1.cls ix μ' avs.length) (hq : (i, bs) ∈ txL) (hcl : μ'.1.cls = "java/lang/String") (hs0 : st = avs.reverse ++ .ref (1000 + i) :: rest) (h8 : (rest.map fun v => v.category).sum ≤ 8)
    (kk : ∀ (r : Int32) (h1 : Hp), F r h1 → μ'.2.2.2.2.1 h1.2.2 → WW C μ k2 n2 (pc + 3) lv (.int r :: rest) h1) (hP : ∀ r, μ'.2.2.2.2.1 r → μ.2.2.2.2.1 r := by exact fun _ q => q) : WW C μ k n pc lv st h := by
  obtain ⟨d', hdd, hM⟩ := hM
  subst hk2; subst hn2
  refine w_callT (rest := rest) avs hq hcl hC (cas_of hX) hM (rm_of hX hdd hloc hk hn) hd cl hs0 h8 (fun v h1 hq hs _ _ => ?_) (fun E h1 hq hs _ => vx_prop hC hX hq (hP _ hs) hk hn)
  · show WW C μ _ _ _ lv _ h1
    obtain ⟨r, rfl, hf⟩ := hq
    exact kk r h1 hf hs
end TXT
/-! the library's methods on texts -/
abbrev mJ0_length : MI := (yJ0_length_8abf5, cJ0_length_8abf5, 1, (some .int), Std, 0, 0)
abbrev mJ0_charAt : MI := (yJ0_charAt_5068e, cJ0_charAt_5068e, 2, (some .char), Std, 0, 0)
abbrev mJ0_coder : MI := (yJ0_coder_7d493, cJ0_coder_7d493, 1, (some .byte), Std, 0, 0)
abbrev mJ0_isLatin1 : MI := (yJ0_isLatin1_aae02, cJ0_isLatin1_aae02, 1, (some .boolean), Std, 0, 0)
abbrev mJ0_checkIndex : MI := (yJ0_checkIndex_df160, cJ0_checkIndex_df160, 2, none, Std, 0, 0)
abbrev mJ1_charAt : MI := (yJ1_charAt_3b067, cJ1_charAt_3b067, 2, (some .char), Std, 0, 0)
abbrev mJ3_checkIndex : MI := (yJ3_checkIndex_8e157, cJ3_checkIndex_8e157, 3, (some .int), Std, 0, 0)
theorem cl_J1_9 : CLS RJ1 9 mJ0_checkIndex 2 := ⟨⟨b_1_22, b_7_65, by decide, by decide, by decide +kernel⟩, b_7_63, b_7_64⟩
theorem cl_J0_1059 : CLS RJ0 1059 mJ3_checkIndex 3 := ⟨⟨b_1_24, b_7_70, by decide, by decide, by decide +kernel⟩, b_7_68, b_7_69⟩
theorem cl_J0_495 : CLS RJ0 495 mJ1_charAt 2 := ⟨⟨b_1_23, b_7_62, by decide, by decide, by decide +kernel⟩, b_7_60, b_7_61⟩
theorem cl_J0_492 : CLV RJ0 492 mJ0_isLatin1 0 := ⟨⟨b_1_22, b_7_57, by decide, by decide, by decide +kernel⟩, b_7_54, b_7_55, b_7_56⟩
theorem cl_J0_335 : CLV RJ0 335 mJ0_coder 0 := ⟨⟨b_1_22, b_11_24, by decide, by decide, by decide +kernel⟩, b_11_21, b_11_22, b_11_23⟩
theorem cl_X6_78 : CLV RX6 78 mJ0_charAt 1 := ⟨⟨b_1_22, b_7_53, by decide, by decide, by decide +kernel⟩, b_7_50, b_7_51, b_7_52⟩
theorem cl_X12_498 : CLV RX12 498 mJ0_length 0 := ⟨⟨b_1_22, b_11_20, by decide, by decide, by decide +kernel⟩, b_11_17, b_11_18, b_11_19⟩
theorem cl_X12_503 : CLV RX12 503 mJ0_charAt 1 := ⟨⟨b_1_22, b_7_53, by decide, by decide, by decide +kernel⟩, b_11_25, b_7_51, b_7_52⟩
theorem tx_ok : ∀ q ∈ txL, Int32.ofNat q.2.length >>> ((0 : Int32) &&& 31) = Int32.ofNat q.2.length ∧ q.2.length < 200 ∧ ∀ b ∈ q.2, ((b &&& 255).toUInt32 % 65536).toInt32 = b ∧ narrow .char (.int b) = .int b := by decide +kernel
section TXJ
variable {d i : Nat} {h : Hp} {bs : List Int32} {F : Int32 → Hp → Prop} {G : Hp → Prop} {X : String → Hp → Prop}
theorem ok_coderT (hq : (i, bs) ∈ txL) (hd : 1 ≤ d) (hS : Std h.2.2) (hF : F 0 h) : OKi d mJ0_coder [.ref (1000 + i)] h F X :=
  OKi.up hd (oki_of 0 (by decide +kernel) (Nat.le_of_ble_eq_true rfl) (fun C hC hX =>
    w_compact hC dJ0_coder_7d493_0 b_7_58 (w_if_eq hC dJ0_coder_7d493_3 (tgt := 13) (by decide) (fun c => absurd c (by decide)) (fun _ => w_aload_n hC dJ0_coder_7d493_6 rfl 0 rfl (w_coderT hC hq dJ0_coder_7d493_7 b_11_152 (w_goto hC dJ0_coder_7d493_10 (tgt := 14) (by decide) (w_zret hC hX dJ0_coder_7d493_14 rfl (by decide) hS (by decide) (by decide) ⟨_, rfl, hF⟩)))))))
theorem ok_isLatin1T (hq : (i, bs) ∈ txL) (hd : 1 ≤ d) (hS : Std h.2.2) (hF : F 1 h) : OKi d mJ0_isLatin1 [.ref (1000 + i)] h F X :=
  OKi.up hd (oki_of 0 (by decide +kernel) (Nat.le_of_ble_eq_true rfl) (fun C hC hX =>
    w_compact hC dJ0_isLatin1_aae02_0 b_7_58 (w_if_eq hC dJ0_isLatin1_aae02_3 (tgt := 17) (by decide) (fun c => absurd c (by decide)) (fun _ => w_aload_n hC dJ0_isLatin1_aae02_6 rfl 0 rfl (w_coderT hC hq dJ0_isLatin1_aae02_7 b_11_152 (w_if_ne hC dJ0_isLatin1_aae02_10 (tgt := 17) (by decide) (fun c => absurd rfl c) (fun _ => w_iconst (x := 1) hC dJ0_isLatin1_aae02_13 ic_1 (w_goto hC dJ0_isLatin1_aae02_14 (tgt := 18) (by decide) (w_zret hC hX dJ0_isLatin1_aae02_18 rfl zn_1 hS (by decide) (by decide) ⟨_, rfl, hF⟩)))))))))
theorem ok_lengthT (hq : (i, bs) ∈ txL) (hd : 2 ≤ d) (hS : Std h.2.2) (hF : F (Int32.ofNat bs.length) h) : OKi d mJ0_length [.ref (1000 + i)] h F X := by
  refine OKi.up hd (oki_of 1 (by decide +kernel) (Nat.le_of_ble_eq_true rfl) (fun C hC hX =>
    w_aload_n hC dJ0_length_8abf5_0 rfl 0 rfl (w_valueT hC hq dJ0_length_8abf5_1 b_11_153 (w_alenT hC hq dJ0_length_8abf5_4 (w_aload_n hC dJ0_length_8abf5_5 rfl 0 rfl (m_callTi (k2 := 0) (n2 := 0) (F := fun r h1 => r = 0 ∧ h1 = h) [] [.int (Int32.ofNat bs.length)] hC hX (ok_coderT hq (Nat.le_refl _) hS ⟨rfl, rfl⟩) rfl rfl (by decide) (by decide) (by decide) dJ0_length_8abf5_6 cl_J0_335 hq rfl rfl (Nat.le_of_ble_eq_true rfl) (fun r h1 q2 hs => ?_)))))))
  obtain ⟨rfl, rfl⟩ := q2
  refine w_ishr hC dJ0_length_8abf5_9 (w_iret hC hX dJ0_length_8abf5_10 rfl hS (by decide) (by decide) ⟨_, rfl, ?_⟩)
  rw [(tx_ok _ hq).1]; exact hF
theorem ok_preT {x y : Int32} {fv : Value} (hf : fv = .ref 3000 ∨ fv = .null) (hx : ¬ x < 0) (hxy : x < y) (hd : 1 ≤ d) (hS : Std h.2.2) (hF : F x h) : OKi d mJ3_checkIndex [.int x, .int y, fv] h F X := by
  obtain rfl | rfl := hf
  · exact OKi.up hd (oki_of 0 (by decide +kernel) (Nat.le_of_ble_eq_true rfl) (fun C hC hX =>
        w_iload_n hC dJ3_checkIndex_8e157_0 rfl 0 rfl (w_if_lt hC dJ3_checkIndex_8e157_1 (tgt := 9) (by decide) (fun c => absurd c hx) (fun _ => w_iload_n hC dJ3_checkIndex_8e157_4 rfl 0 rfl (w_iload_n hC dJ3_checkIndex_8e157_5 rfl 1 rfl (w_icmp_lt hC dJ3_checkIndex_8e157_6 (tgt := 16) (by decide) (fun _ => w_iload_n hC dJ3_checkIndex_8e157_16 rfl 0 rfl (w_iret hC hX dJ3_checkIndex_8e157_17 rfl hS (by decide) (by decide) ⟨_, rfl, hF⟩)) (fun c => absurd hxy c)))))))
  · exact OKi.up hd (oki_of 0 (by decide +kernel) (Nat.le_of_ble_eq_true rfl) (fun C hC hX =>
        w_iload_n hC dJ3_checkIndex_8e157_0 rfl 0 rfl (w_if_lt hC dJ3_checkIndex_8e157_1 (tgt := 9) (by decide) (fun c => absurd c hx) (fun _ => w_iload_n hC dJ3_checkIndex_8e157_4 rfl 0 rfl (w_iload_n hC dJ3_checkIndex_8e157_5 rfl 1 rfl (w_icmp_lt hC dJ3_checkIndex_8e157_6 (tgt := 16) (by decide) (fun _ => w_iload_n hC dJ3_checkIndex_8e157_16 rfl 0 rfl (w_iret hC hX dJ3_checkIndex_8e157_17 rfl hS (by decide) (by decide) ⟨_, rfl, hF⟩)) (fun c => absurd hxy c)))))))
theorem ok_checkT {x y : Int32} (hx : ¬ x < 0) (hxy : x < y) (hd : 2 ≤ d) (hS : Std h.2.2) (hF : G h) : OKv d mJ0_checkIndex [.int x, .int y] h G X := by
  refine OKv.up hd (okv_of 1 (by decide +kernel) (Nat.le_of_ble_eq_true rfl) (fun C hC hX =>
    w_iload_n hC dJ0_checkIndex_df160_0 rfl 0 rfl (w_iload_n hC dJ0_checkIndex_df160_1 rfl 1 rfl (w_sioobe hC dJ0_checkIndex_df160_2 b_7_66 (fun fv hf => m_callSi (k2 := 0) (n2 := 0) (F := fun _ h1 => h1 = h) [.int x, .int y, fv] [] hC hX (ok_preT hf hx hxy (Nat.le_refl _) hS rfl) rfl rfl (by decide) (by decide) (by decide) dJ0_checkIndex_df160_5 cl_J0_1059 rfl (Nat.le_of_ble_eq_true rfl) (fun r h1 q2 hs => ?_))))))
  subst q2
  exact w_pop hC dJ0_checkIndex_df160_8 rfl (w_vret hC hX dJ0_checkIndex_df160_9 rfl hS (by decide) (by decide) ⟨rfl, hF⟩)
theorem ok_charT1 {j : Int32} (hq : (i, bs) ∈ txL) (hj : vp_in j bs.length) (hd : 3 ≤ d) (hS : Std h.2.2) (hF : F (bs.getD j.toNatClampNeg 0) h) : OKi d mJ1_charAt [.ref (2000 + i), .int j] h F X := by
  have h0 : ¬ j < 0 := fun z => hj (Or.inl z)
  have hl : j.toNatClampNeg < bs.length := Nat.not_le.mp fun q => hj (Or.inr q)
  have l200 := (tx_ok _ hq).2.1
  have h1 : j < Int32.ofNat bs.length := by
    have l200 : bs.length < 200 := l200
    rw [Int32.lt_iff_toInt_lt, Int32.toInt_ofNat_of_lt (by omega)]
    have : ¬ j.toInt < 0 := fun z => h0 (by rw [Int32.lt_iff_toInt_lt]; exact z)
    have e : j.toNatClampNeg = j.toInt.toNat := rfl
    omega
  refine OKi.up hd (oki_of 2 (by decide +kernel) (Nat.le_of_ble_eq_true rfl) (fun C hC hX =>
    w_iload_n hC dJ1_charAt_3b067_0 rfl 1 rfl (w_aload_n hC dJ1_charAt_3b067_1 rfl 0 rfl (w_alenT hC hq dJ1_charAt_3b067_2 (m_callSv (k2 := 0) (n2 := 0) (F := fun g => g = h) [.int j, .int (Int32.ofNat bs.length)] [] hC hX (ok_checkT h0 h1 (Nat.le_refl _) hS rfl) rfl rfl (by decide) (by decide) (by decide) dJ1_charAt_3b067_3 cl_J1_9 rfl (Nat.le_of_ble_eq_true rfl) (fun g q2 hs => ?_))))))
  subst q2
  have mem : bs.getD j.toNatClampNeg 0 ∈ bs := by
    rw [List.getD_eq_getElem?_getD, List.getElem?_eq_getElem hl]
    exact List.getElem_mem hl
  have tk := (tx_ok _ hq).2.2 _ mem
  refine w_aload_n hC dJ1_charAt_3b067_6 rfl 0 rfl (w_iload_n hC dJ1_charAt_3b067_7 rfl 1 rfl (w_baldT hC hq hj dJ1_charAt_3b067_8 (w_sipush (x := 255) hC dJ1_charAt_3b067_9 sp_255 (w_iand hC dJ1_charAt_3b067_12 (w_i2c hC dJ1_charAt_3b067_13 ?_)))))
  rw [tk.1]
  exact w_zret hC hX dJ1_charAt_3b067_14 rfl tk.2 hS (by decide) (by decide) ⟨_, rfl, hF⟩
theorem ok_charAtT {j : Int32} (hq : (i, bs) ∈ txL) (hj : vp_in j bs.length) (hd : 4 ≤ d) (hS : Std h.2.2) (hF : F (bs.getD j.toNatClampNeg 0) h) : OKi d mJ0_charAt [.ref (1000 + i), .int j] h F X := by
  have hl : j.toNatClampNeg < bs.length := Nat.not_le.mp fun q => hj (Or.inr q)
  have mem : bs.getD j.toNatClampNeg 0 ∈ bs := by
    rw [List.getD_eq_getElem?_getD, List.getElem?_eq_getElem hl]
    exact List.getElem_mem hl
  have tk := (tx_ok _ hq).2.2 _ mem
  refine OKi.up hd (oki_of 3 (by decide +kernel) (Nat.le_of_ble_eq_true rfl) (fun C hC hX =>
    w_aload_n hC dJ0_charAt_5068e_0 rfl 0 rfl (m_callTi (k2 := 0) (n2 := 0) (F := fun r h1 => r = 1 ∧ h1 = h) [] [] hC hX (ok_isLatin1T hq (by decide) hS ⟨rfl, rfl⟩) rfl rfl (by decide) (by decide) (by decide) dJ0_charAt_5068e_1 cl_J0_492 hq rfl rfl (Nat.le_of_ble_eq_true rfl) (fun r h1 q2 hs => ?_))))
  obtain ⟨rfl, rfl⟩ := q2
  refine w_if_eq hC dJ0_charAt_5068e_4 (tgt := 16) (by decide) (fun c => absurd c (by decide)) (fun _ => w_aload_n hC dJ0_charAt_5068e_7 rfl 0 rfl (w_valueT hC hq dJ0_charAt_5068e_8 b_11_153 (w_iload_n hC dJ0_charAt_5068e_11 rfl 1 rfl (m_callSi (k2 := 0) (n2 := 0) (F := fun r h2 => r = bs.getD j.toNatClampNeg 0 ∧ h2 = h1) [.ref (2000 + i), .int j] [] hC hX (ok_charT1 hq hj (Nat.le_refl _) hS ⟨rfl, rfl⟩) rfl rfl (by decide) (by decide) (by decide) dJ0_charAt_5068e_12 cl_J0_495 rfl (Nat.le_of_ble_eq_true rfl) (fun r2 h2 q3 hs2 => ?_)))))
  obtain ⟨rfl, rfl⟩ := q3
  exact w_zret hC hX dJ0_charAt_5068e_15 rfl tk.2 hS (by decide) (by decide) ⟨_, rfl, hF⟩
end TXJ
