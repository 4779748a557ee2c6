/-! decoding, byte by byte -/
section DEC
variable {c : ByteArray} {p : Nat} {a b e : UInt8}
theorem dc_rd (h : c.data.toList[p]? = some b) : (Reader.u1 : Decoder Nat) c p = .ok (b.toNat, p + 1) := by
  obtain ⟨bs⟩ := c
  have h : bs.toList[p]? = some b := h
  rw [Array.getElem?_toList] at h
  obtain ⟨hp, eb⟩ := Array.getElem?_eq_some_iff.mp h
  have e1 : (Reader.u1 : Decoder Nat) ⟨bs⟩ p = (dite (p < (ByteArray.mk bs).size) (fun h => (do set (p + 1); pure ((ByteArray.mk bs)[p].toNat) : Decoder Nat)) (fun _ => throw (HasTruncated.truncated p))) ⟨bs⟩ p := rfl
  have hp2 : p < (ByteArray.mk bs).size := hp
  rw [e1, dif_pos hp2]
  show Except.ok ((bs[p]).toNat, p + 1) = _
  rw [eb]
theorem dc_u2 (h1 : c.data.toList[p]? = some a) (h2 : c.data.toList[p + 1]? = some b) : (Reader.u2 : Decoder Nat) c p = .ok (a.toNat * 256 + b.toNat, p + 2) := by
  have e1 : (Reader.u2 : Decoder Nat) c p = Except.bind ((Reader.u1 : Decoder Nat) c p) (fun q => Except.bind ((Reader.u1 : Decoder Nat) c q.2) (fun r => .ok (q.1 * 256 + r.1, r.2))) := rfl
  rw [e1, dc_rd h1]
  show Except.bind ((Reader.u1 : Decoder Nat) c (p + 1)) _ = _
  rw [dc_rd h2]
  rfl
theorem dc_s1 (h : c.data.toList[p]? = some b) : (Reader.s1 : Decoder Int) c p = .ok (Reader.signed 8 b.toNat, p + 1) := by
  have e1 : (Reader.s1 : Decoder Int) c p = Except.bind ((Reader.u1 : Decoder Nat) c p) (fun q => .ok (Reader.signed 8 q.1, q.2)) := rfl
  rw [e1, dc_rd h]
  rfl
theorem dc_s2 (h1 : c.data.toList[p]? = some a) (h2 : c.data.toList[p + 1]? = some b) : (Reader.s2 : Decoder Int) c p = .ok (Reader.signed 16 (a.toNat * 256 + b.toNat), p + 2) := by
  have e1 : (Reader.s2 : Decoder Int) c p = Except.bind ((Reader.u2 : Decoder Nat) c p) (fun q => .ok (Reader.signed 16 q.1, q.2)) := rfl
  rw [e1, dc_u2 h1 h2]
  rfl
theorem dc_top {i : Instr} {n : Nat} (h : (Decoder.instr p) c p = .ok (i, p + n)) : decode c p = .ok (i, n) := by
  have e1 : decode c p = Except.bind ((Decoder.instr p) c p) (fun q => .ok (q.1, q.2 - p)) := rfl
  rw [e1, h]
  show Except.ok (i, p + n - p) = _
  rw [Nat.add_sub_cancel_left]
theorem dc_iconst_m1 (h : c.data.toList[p]? = some 2) : decode c p = .ok (.iconst (-1), 1) := dc_top (by
  have e1 := dc_rd h
  show Except.bind ((Reader.u1 : Decoder Nat) c p) _ = _
  rw [e1]
  rfl)
theorem dc_iconst_0 (h : c.data.toList[p]? = some 3) : decode c p = .ok (.iconst 0, 1) := dc_top (by
  have e1 := dc_rd h
  show Except.bind ((Reader.u1 : Decoder Nat) c p) _ = _
  rw [e1]
  rfl)
theorem dc_iconst_1 (h : c.data.toList[p]? = some 4) : decode c p = .ok (.iconst 1, 1) := dc_top (by
  have e1 := dc_rd h
  show Except.bind ((Reader.u1 : Decoder Nat) c p) _ = _
  rw [e1]
  rfl)
theorem dc_iconst_2 (h : c.data.toList[p]? = some 5) : decode c p = .ok (.iconst 2, 1) := dc_top (by
  have e1 := dc_rd h
  show Except.bind ((Reader.u1 : Decoder Nat) c p) _ = _
  rw [e1]
  rfl)
theorem dc_iconst_3 (h : c.data.toList[p]? = some 6) : decode c p = .ok (.iconst 3, 1) := dc_top (by
  have e1 := dc_rd h
  show Except.bind ((Reader.u1 : Decoder Nat) c p) _ = _
  rw [e1]
  rfl)
theorem dc_iconst_4 (h : c.data.toList[p]? = some 7) : decode c p = .ok (.iconst 4, 1) := dc_top (by
  have e1 := dc_rd h
  show Except.bind ((Reader.u1 : Decoder Nat) c p) _ = _
  rw [e1]
  rfl)
theorem dc_iconst_5 (h : c.data.toList[p]? = some 8) : decode c p = .ok (.iconst 5, 1) := dc_top (by
  have e1 := dc_rd h
  show Except.bind ((Reader.u1 : Decoder Nat) c p) _ = _
  rw [e1]
  rfl)
theorem dc_lconst_0 (h : c.data.toList[p]? = some 9) : decode c p = .ok (.lconst 0, 1) := dc_top (by
  have e1 := dc_rd h
  show Except.bind ((Reader.u1 : Decoder Nat) c p) _ = _
  rw [e1]
  rfl)
theorem dc_lconst_1 (h : c.data.toList[p]? = some 10) : decode c p = .ok (.lconst 1, 1) := dc_top (by
  have e1 := dc_rd h
  show Except.bind ((Reader.u1 : Decoder Nat) c p) _ = _
  rw [e1]
  rfl)
theorem dc_aload_n_0 (h : c.data.toList[p]? = some 42) : decode c p = .ok (.aload_n 0, 1) := dc_top (by
  have e1 := dc_rd h
  show Except.bind ((Reader.u1 : Decoder Nat) c p) _ = _
  rw [e1]
  rfl)
theorem dc_aload_n_1 (h : c.data.toList[p]? = some 43) : decode c p = .ok (.aload_n 1, 1) := dc_top (by
  have e1 := dc_rd h
  show Except.bind ((Reader.u1 : Decoder Nat) c p) _ = _
  rw [e1]
  rfl)
theorem dc_aload_n_2 (h : c.data.toList[p]? = some 44) : decode c p = .ok (.aload_n 2, 1) := dc_top (by
  have e1 := dc_rd h
  show Except.bind ((Reader.u1 : Decoder Nat) c p) _ = _
  rw [e1]
  rfl)
theorem dc_aload_n_3 (h : c.data.toList[p]? = some 45) : decode c p = .ok (.aload_n 3, 1) := dc_top (by
  have e1 := dc_rd h
  show Except.bind ((Reader.u1 : Decoder Nat) c p) _ = _
  rw [e1]
  rfl)
theorem dc_iaload (h : c.data.toList[p]? = some 46) : decode c p = .ok (.iaload, 1) := dc_top (by
  have e1 := dc_rd h
  show Except.bind ((Reader.u1 : Decoder Nat) c p) _ = _
  rw [e1]
  rfl)
theorem dc_laload (h : c.data.toList[p]? = some 47) : decode c p = .ok (.laload, 1) := dc_top (by
  have e1 := dc_rd h
  show Except.bind ((Reader.u1 : Decoder Nat) c p) _ = _
  rw [e1]
  rfl)
theorem dc_iadd (h : c.data.toList[p]? = some 96) : decode c p = .ok (.iadd, 1) := dc_top (by
  have e1 := dc_rd h
  show Except.bind ((Reader.u1 : Decoder Nat) c p) _ = _
  rw [e1]
  rfl)
theorem dc_isub (h : c.data.toList[p]? = some 100) : decode c p = .ok (.isub, 1) := dc_top (by
  have e1 := dc_rd h
  show Except.bind ((Reader.u1 : Decoder Nat) c p) _ = _
  rw [e1]
  rfl)
theorem dc_lshl (h : c.data.toList[p]? = some 121) : decode c p = .ok (.lshl, 1) := dc_top (by
  have e1 := dc_rd h
  show Except.bind ((Reader.u1 : Decoder Nat) c p) _ = _
  rw [e1]
  rfl)
theorem dc_iand (h : c.data.toList[p]? = some 126) : decode c p = .ok (.iand, 1) := dc_top (by
  have e1 := dc_rd h
  show Except.bind ((Reader.u1 : Decoder Nat) c p) _ = _
  rw [e1]
  rfl)
theorem dc_land (h : c.data.toList[p]? = some 127) : decode c p = .ok (.land, 1) := dc_top (by
  have e1 := dc_rd h
  show Except.bind ((Reader.u1 : Decoder Nat) c p) _ = _
  rw [e1]
  rfl)
theorem dc_lor (h : c.data.toList[p]? = some 129) : decode c p = .ok (.lor, 1) := dc_top (by
  have e1 := dc_rd h
  show Except.bind ((Reader.u1 : Decoder Nat) c p) _ = _
  rw [e1]
  rfl)
theorem dc_i2l (h : c.data.toList[p]? = some 133) : decode c p = .ok (.i2l, 1) := dc_top (by
  have e1 := dc_rd h
  show Except.bind ((Reader.u1 : Decoder Nat) c p) _ = _
  rw [e1]
  rfl)
theorem dc_lcmp (h : c.data.toList[p]? = some 148) : decode c p = .ok (.lcmp, 1) := dc_top (by
  have e1 := dc_rd h
  show Except.bind ((Reader.u1 : Decoder Nat) c p) _ = _
  rw [e1]
  rfl)
theorem dc_ireturn (h : c.data.toList[p]? = some 172) : decode c p = .ok (.ireturn, 1) := dc_top (by
  have e1 := dc_rd h
  show Except.bind ((Reader.u1 : Decoder Nat) c p) _ = _
  rw [e1]
  rfl)
theorem dc_arraylength (h : c.data.toList[p]? = some 190) : decode c p = .ok (.arraylength, 1) := dc_top (by
  have e1 := dc_rd h
  show Except.bind ((Reader.u1 : Decoder Nat) c p) _ = _
  rw [e1]
  rfl)
theorem dc_dup (h : c.data.toList[p]? = some 89) : decode c p = .ok (.dup, 1) := dc_top (by
  have e1 := dc_rd h
  show Except.bind ((Reader.u1 : Decoder Nat) c p) _ = _
  rw [e1]
  rfl)
theorem dc_astore_n_1 (h : c.data.toList[p]? = some 76) : decode c p = .ok (.astore_n 1, 1) := dc_top (by
  have e1 := dc_rd h
  show Except.bind ((Reader.u1 : Decoder Nat) c p) _ = _
  rw [e1]
  rfl)
theorem dc_astore_n_2 (h : c.data.toList[p]? = some 77) : decode c p = .ok (.astore_n 2, 1) := dc_top (by
  have e1 := dc_rd h
  show Except.bind ((Reader.u1 : Decoder Nat) c p) _ = _
  rw [e1]
  rfl)
theorem dc_astore_n_3 (h : c.data.toList[p]? = some 78) : decode c p = .ok (.astore_n 3, 1) := dc_top (by
  have e1 := dc_rd h
  show Except.bind ((Reader.u1 : Decoder Nat) c p) _ = _
  rw [e1]
  rfl)
theorem dc_iload (h : c.data.toList[p]? = some 21) (h1 : c.data.toList[p + 1]? = some a) {k : Nat} (hk : a.toNat = k) : decode c p = .ok (.iload k, 2) := dc_top (by
  have e1 := dc_rd h
  show Except.bind ((Reader.u1 : Decoder Nat) c p) _ = _
  rw [e1]
  subst hk
  show Except.bind ((Reader.u1 : Decoder Nat) c (p + 1)) _ = _
  rw [dc_rd h1]
  rfl)
theorem dc_lload (h : c.data.toList[p]? = some 22) (h1 : c.data.toList[p + 1]? = some a) {k : Nat} (hk : a.toNat = k) : decode c p = .ok (.lload k, 2) := dc_top (by
  have e1 := dc_rd h
  show Except.bind ((Reader.u1 : Decoder Nat) c p) _ = _
  rw [e1]
  subst hk
  show Except.bind ((Reader.u1 : Decoder Nat) c (p + 1)) _ = _
  rw [dc_rd h1]
  rfl)
theorem dc_istore (h : c.data.toList[p]? = some 54) (h1 : c.data.toList[p + 1]? = some a) {k : Nat} (hk : a.toNat = k) : decode c p = .ok (.istore k, 2) := dc_top (by
  have e1 := dc_rd h
  show Except.bind ((Reader.u1 : Decoder Nat) c p) _ = _
  rw [e1]
  subst hk
  show Except.bind ((Reader.u1 : Decoder Nat) c (p + 1)) _ = _
  rw [dc_rd h1]
  rfl)
theorem dc_lstore (h : c.data.toList[p]? = some 55) (h1 : c.data.toList[p + 1]? = some a) {k : Nat} (hk : a.toNat = k) : decode c p = .ok (.lstore k, 2) := dc_top (by
  have e1 := dc_rd h
  show Except.bind ((Reader.u1 : Decoder Nat) c p) _ = _
  rw [e1]
  subst hk
  show Except.bind ((Reader.u1 : Decoder Nat) c (p + 1)) _ = _
  rw [dc_rd h1]
  rfl)
theorem dc_bipush (h : c.data.toList[p]? = some 16) (h1 : c.data.toList[p + 1]? = some a) {k : Int} (hk : Reader.signed 8 a.toNat = k) : decode c p = .ok (.bipush k, 2) := dc_top (by
  have e1 := dc_rd h
  show Except.bind ((Reader.u1 : Decoder Nat) c p) _ = _
  rw [e1]
  subst hk
  show Except.bind ((Reader.s1 : Decoder Int) c (p + 1)) _ = _
  rw [dc_s1 h1]
  rfl)
theorem dc_ldc2_w (h : c.data.toList[p]? = some 20) (h1 : c.data.toList[p + 1]? = some a) (h2 : c.data.toList[p + 2]? = some b) {k : Nat} (hk : a.toNat * 256 + b.toNat = k) : decode c p = .ok (.ldc2_w k, 3) := dc_top (by
  have e1 := dc_rd h
  show Except.bind ((Reader.u1 : Decoder Nat) c p) _ = _
  rw [e1]
  subst hk
  show Except.bind ((Reader.u2 : Decoder Nat) c (p + 1)) _ = _
  rw [dc_u2 h1 h2]
  rfl)
theorem dc_invokevirtual (h : c.data.toList[p]? = some 182) (h1 : c.data.toList[p + 1]? = some a) (h2 : c.data.toList[p + 2]? = some b) {k : Nat} (hk : a.toNat * 256 + b.toNat = k) : decode c p = .ok (.invokevirtual k, 3) := dc_top (by
  have e1 := dc_rd h
  show Except.bind ((Reader.u1 : Decoder Nat) c p) _ = _
  rw [e1]
  subst hk
  show Except.bind ((Reader.u2 : Decoder Nat) c (p + 1)) _ = _
  rw [dc_u2 h1 h2]
  rfl)
theorem dc_invokespecial (h : c.data.toList[p]? = some 183) (h1 : c.data.toList[p + 1]? = some a) (h2 : c.data.toList[p + 2]? = some b) {k : Nat} (hk : a.toNat * 256 + b.toNat = k) : decode c p = .ok (.invokespecial k, 3) := dc_top (by
  have e1 := dc_rd h
  show Except.bind ((Reader.u1 : Decoder Nat) c p) _ = _
  rw [e1]
  subst hk
  show Except.bind ((Reader.u2 : Decoder Nat) c (p + 1)) _ = _
  rw [dc_u2 h1 h2]
  rfl)
theorem dc_invokestatic (h : c.data.toList[p]? = some 184) (h1 : c.data.toList[p + 1]? = some a) (h2 : c.data.toList[p + 2]? = some b) {k : Nat} (hk : a.toNat * 256 + b.toNat = k) : decode c p = .ok (.invokestatic k, 3) := dc_top (by
  have e1 := dc_rd h
  show Except.bind ((Reader.u1 : Decoder Nat) c p) _ = _
  rw [e1]
  subst hk
  show Except.bind ((Reader.u2 : Decoder Nat) c (p + 1)) _ = _
  rw [dc_u2 h1 h2]
  rfl)
theorem dc_new (h : c.data.toList[p]? = some 187) (h1 : c.data.toList[p + 1]? = some a) (h2 : c.data.toList[p + 2]? = some b) {k : Nat} (hk : a.toNat * 256 + b.toNat = k) : decode c p = .ok (.new k, 3) := dc_top (by
  have e1 := dc_rd h
  show Except.bind ((Reader.u1 : Decoder Nat) c p) _ = _
  rw [e1]
  subst hk
  show Except.bind ((Reader.u2 : Decoder Nat) c (p + 1)) _ = _
  rw [dc_u2 h1 h2]
  rfl)
theorem dc_ifCond_eq (h : c.data.toList[p]? = some 153) (h1 : c.data.toList[p + 1]? = some a) (h2 : c.data.toList[p + 2]? = some b) {k : Int} (hk : Reader.signed 16 (a.toNat * 256 + b.toNat) = k) : decode c p = .ok (.ifCond .eq k, 3) := dc_top (by
  have e1 := dc_rd h
  show Except.bind ((Reader.u1 : Decoder Nat) c p) _ = _
  rw [e1]
  subst hk
  show Except.bind ((Reader.s2 : Decoder Int) c (p + 1)) _ = _
  rw [dc_s2 h1 h2]
  rfl)
theorem dc_ifCond_ne (h : c.data.toList[p]? = some 154) (h1 : c.data.toList[p + 1]? = some a) (h2 : c.data.toList[p + 2]? = some b) {k : Int} (hk : Reader.signed 16 (a.toNat * 256 + b.toNat) = k) : decode c p = .ok (.ifCond .ne k, 3) := dc_top (by
  have e1 := dc_rd h
  show Except.bind ((Reader.u1 : Decoder Nat) c p) _ = _
  rw [e1]
  subst hk
  show Except.bind ((Reader.s2 : Decoder Int) c (p + 1)) _ = _
  rw [dc_s2 h1 h2]
  rfl)
theorem dc_if_icmp_eq (h : c.data.toList[p]? = some 159) (h1 : c.data.toList[p + 1]? = some a) (h2 : c.data.toList[p + 2]? = some b) {k : Int} (hk : Reader.signed 16 (a.toNat * 256 + b.toNat) = k) : decode c p = .ok (.if_icmp .eq k, 3) := dc_top (by
  have e1 := dc_rd h
  show Except.bind ((Reader.u1 : Decoder Nat) c p) _ = _
  rw [e1]
  subst hk
  show Except.bind ((Reader.s2 : Decoder Int) c (p + 1)) _ = _
  rw [dc_s2 h1 h2]
  rfl)
theorem dc_if_icmp_ne (h : c.data.toList[p]? = some 160) (h1 : c.data.toList[p + 1]? = some a) (h2 : c.data.toList[p + 2]? = some b) {k : Int} (hk : Reader.signed 16 (a.toNat * 256 + b.toNat) = k) : decode c p = .ok (.if_icmp .ne k, 3) := dc_top (by
  have e1 := dc_rd h
  show Except.bind ((Reader.u1 : Decoder Nat) c p) _ = _
  rw [e1]
  subst hk
  show Except.bind ((Reader.s2 : Decoder Int) c (p + 1)) _ = _
  rw [dc_s2 h1 h2]
  rfl)
theorem dc_if_icmp_gt (h : c.data.toList[p]? = some 163) (h1 : c.data.toList[p + 1]? = some a) (h2 : c.data.toList[p + 2]? = some b) {k : Int} (hk : Reader.signed 16 (a.toNat * 256 + b.toNat) = k) : decode c p = .ok (.if_icmp .gt k, 3) := dc_top (by
  have e1 := dc_rd h
  show Except.bind ((Reader.u1 : Decoder Nat) c p) _ = _
  rw [e1]
  subst hk
  show Except.bind ((Reader.s2 : Decoder Int) c (p + 1)) _ = _
  rw [dc_s2 h1 h2]
  rfl)
theorem dc_goto (h : c.data.toList[p]? = some 167) (h1 : c.data.toList[p + 1]? = some a) (h2 : c.data.toList[p + 2]? = some b) {k : Int} (hk : Reader.signed 16 (a.toNat * 256 + b.toNat) = k) : decode c p = .ok (.goto k, 3) := dc_top (by
  have e1 := dc_rd h
  show Except.bind ((Reader.u1 : Decoder Nat) c p) _ = _
  rw [e1]
  subst hk
  show Except.bind ((Reader.s2 : Decoder Int) c (p + 1)) _ = _
  rw [dc_s2 h1 h2]
  rfl)
end DEC
theorem dby_of {L B : List UInt8} {n j : Nat} {b : UInt8} (h : (L.drop n).take 64 = B) (hb : B[j]? = some b) : L[n + j]? = some b := by
  rw [← h, List.getElem?_take] at hb
  by_cases hj : j < 64
  · rw [if_pos hj, List.getElem?_drop] at hb; exact hb
  · rw [if_neg hj] at hb; cases hb
def dbl_0 : List UInt8 := [187, 0, 8, 89, 183, 0, 173, 76, 187, 0, 174, 89, 183, 0, 176, 77, 4, 188, 11, 78, 3, 54, 4, 21, 4, 42, 190, 16, 7, 100, 163, 17, 175, 42, 21, 4, 46, 16, 63, 126, 170, 0, 0, 0, 0, 0, 17, 159, 0, 0, 0, 0, 0, 0, 0, 51, 0, 0, 0, 224, 0, 0, 1, 24]
set_option maxRecDepth 100000 in
theorem dby_0 : (cL_law.data.toList.drop 0).take 64 = dbl_0 := by decide +kernel
def dbl_1 : List UInt8 := [0, 0, 1, 104, 0, 0, 1, 117, 0, 0, 1, 173, 0, 0, 1, 241, 0, 0, 2, 65, 0, 0, 2, 145, 0, 0, 2, 241, 0, 0, 3, 76, 0, 0, 3, 136, 0, 0, 3, 211, 0, 0, 4, 23, 0, 0, 4, 103, 0, 0, 4, 187, 0, 0, 4, 223, 0, 0, 5, 15, 0, 0, 5, 139]
set_option maxRecDepth 100000 in
theorem dby_1 : (cL_law.data.toList.drop 64).take 64 = dbl_1 := by decide +kernel
def dbl_2 : List UInt8 := [0, 0, 6, 35, 0, 0, 6, 131, 0, 0, 6, 215, 0, 0, 7, 55, 0, 0, 7, 163, 0, 0, 8, 23, 0, 0, 8, 151, 0, 0, 9, 23, 0, 0, 9, 177, 0, 0, 10, 5, 0, 0, 10, 46, 0, 0, 10, 114, 0, 0, 10, 222, 0, 0, 11, 46, 0, 0, 11, 126, 0, 0, 11, 206]
set_option maxRecDepth 100000 in
theorem dby_2 : (cL_law.data.toList.drop 128).take 64 = dbl_2 := by decide +kernel
def dbl_3 : List UInt8 := [0, 0, 12, 25, 0, 0, 12, 66, 0, 0, 12, 157, 0, 0, 12, 245, 0, 0, 13, 73, 0, 0, 13, 213, 0, 0, 14, 81, 0, 0, 14, 201, 0, 0, 15, 18, 0, 0, 15, 74, 0, 0, 15, 99, 0, 0, 15, 174, 0, 0, 15, 223, 0, 0, 16, 23, 0, 0, 16, 83, 0, 0, 16, 194]
set_option maxRecDepth 100000 in
theorem dby_3 : (cL_law.data.toList.drop 192).take 64 = dbl_3 := by decide +kernel
def dbl_4 : List UInt8 := [0, 0, 17, 6, 0, 0, 17, 134, 43, 42, 21, 4, 4, 96, 46, 45, 184, 0, 177, 54, 5, 44, 42, 21, 4, 4, 96, 46, 182, 0, 182, 54, 6, 44, 182, 0, 183, 21, 5, 159, 0, 5, 3, 172, 21, 5, 154, 0, 15, 45, 3, 47, 21, 6, 133, 148, 153, 0, 5, 3, 172, 167, 16, 138]
set_option maxRecDepth 100000 in
theorem dby_4 : (cL_law.data.toList.drop 256).take 64 = dbl_4 := by decide +kernel
def dbl_5 : List UInt8 := [43, 42, 21, 4, 4, 96, 46, 42, 21, 4, 5, 96, 46, 42, 21, 4, 6, 96, 46, 45, 184, 0, 187, 54, 5, 44, 42, 21, 4, 4, 96, 46, 42, 21, 4, 5, 96, 46, 42, 21, 4, 6, 96, 46, 182, 0, 190, 54, 6, 44, 182, 0, 183, 21, 5, 159, 0, 5, 3, 172, 21, 5, 154, 0]
set_option maxRecDepth 100000 in
theorem dby_5 : (cL_law.data.toList.drop 320).take 64 = dbl_5 := by decide +kernel
def dbl_6 : List UInt8 := [15, 45, 3, 47, 21, 6, 133, 148, 153, 0, 5, 3, 172, 167, 16, 58, 43, 182, 0, 191, 44, 182, 0, 194, 159, 16, 47, 3, 172, 43, 42, 21, 4, 4, 96, 46, 45, 184, 0, 195, 54, 5, 44, 42, 21, 4, 4, 96, 46, 182, 0, 197, 54, 6, 44, 182, 0, 183, 21, 5, 159, 0, 5, 3]
set_option maxRecDepth 100000 in
theorem dby_6 : (cL_law.data.toList.drop 384).take 64 = dbl_6 := by decide +kernel
def dbl_7 : List UInt8 := [172, 21, 5, 154, 0, 15, 45, 3, 47, 21, 6, 133, 148, 153, 0, 5, 3, 172, 167, 15, 245, 43, 42, 21, 4, 4, 96, 46, 42, 21, 4, 5, 96, 46, 45, 184, 0, 198, 54, 5, 44, 42, 21, 4, 4, 96, 46, 42, 21, 4, 5, 96, 46, 182, 0, 201, 54, 6, 44, 182, 0, 183, 21, 5]
set_option maxRecDepth 100000 in
theorem dby_7 : (cL_law.data.toList.drop 448).take 64 = dbl_7 := by decide +kernel
def dbl_8 : List UInt8 := [159, 0, 5, 3, 172, 21, 5, 154, 0, 15, 45, 3, 47, 21, 6, 133, 148, 153, 0, 5, 3, 172, 167, 15, 177, 43, 42, 21, 4, 4, 96, 46, 42, 21, 4, 5, 96, 46, 42, 21, 4, 6, 96, 46, 45, 184, 0, 202, 54, 5, 44, 42, 21, 4, 4, 96, 46, 42, 21, 4, 5, 96, 46, 42]
set_option maxRecDepth 100000 in
theorem dby_8 : (cL_law.data.toList.drop 512).take 64 = dbl_8 := by decide +kernel
def dbl_9 : List UInt8 := [21, 4, 6, 96, 46, 182, 0, 204, 54, 6, 44, 182, 0, 183, 21, 5, 159, 0, 5, 3, 172, 21, 5, 154, 0, 15, 45, 3, 47, 21, 6, 133, 148, 153, 0, 5, 3, 172, 167, 15, 97, 43, 42, 21, 4, 4, 96, 46, 42, 21, 4, 5, 96, 46, 42, 21, 4, 6, 96, 46, 45, 184, 0, 205]
set_option maxRecDepth 100000 in
theorem dby_9 : (cL_law.data.toList.drop 576).take 64 = dbl_9 := by decide +kernel
def dbl_10 : List UInt8 := [54, 5, 44, 42, 21, 4, 4, 96, 46, 42, 21, 4, 5, 96, 46, 42, 21, 4, 6, 96, 46, 182, 0, 207, 54, 6, 44, 182, 0, 183, 21, 5, 159, 0, 5, 3, 172, 21, 5, 154, 0, 15, 45, 3, 47, 21, 6, 133, 148, 153, 0, 5, 3, 172, 167, 15, 17, 43, 42, 21, 4, 4, 96, 46]
set_option maxRecDepth 100000 in
theorem dby_10 : (cL_law.data.toList.drop 640).take 64 = dbl_10 := by decide +kernel
def dbl_11 : List UInt8 := [42, 21, 4, 5, 96, 46, 42, 21, 4, 6, 96, 46, 153, 0, 7, 4, 167, 0, 4, 3, 45, 184, 0, 208, 54, 5, 44, 42, 21, 4, 4, 96, 46, 42, 21, 4, 5, 96, 46, 42, 21, 4, 6, 96, 46, 153, 0, 7, 4, 167, 0, 4, 3, 182, 0, 211, 54, 6, 44, 182, 0, 183, 21, 5]
set_option maxRecDepth 100000 in
theorem dby_11 : (cL_law.data.toList.drop 704).take 64 = dbl_11 := by decide +kernel
def dbl_12 : List UInt8 := [159, 0, 5, 3, 172, 21, 5, 154, 0, 15, 45, 3, 47, 21, 6, 133, 148, 153, 0, 5, 3, 172, 167, 14, 177, 43, 42, 21, 4, 4, 96, 46, 42, 21, 4, 5, 96, 46, 153, 0, 7, 4, 167, 0, 4, 3, 45, 184, 0, 212, 54, 5, 44, 42, 21, 4, 4, 96, 46, 42, 21, 4, 5, 96]
set_option maxRecDepth 100000 in
theorem dby_12 : (cL_law.data.toList.drop 768).take 64 = dbl_12 := by decide +kernel
def dbl_13 : List UInt8 := [46, 153, 0, 7, 4, 167, 0, 4, 3, 182, 0, 215, 54, 6, 44, 182, 0, 183, 21, 5, 159, 0, 5, 3, 172, 21, 5, 154, 0, 22, 45, 3, 47, 21, 6, 153, 0, 7, 10, 167, 0, 4, 9, 148, 153, 0, 5, 3, 172, 167, 14, 86, 43, 42, 21, 4, 4, 96, 46, 42, 21, 4, 5, 96]
set_option maxRecDepth 100000 in
theorem dby_13 : (cL_law.data.toList.drop 832).take 64 = dbl_13 := by decide +kernel
def dbl_14 : List UInt8 := [46, 42, 21, 4, 6, 96, 46, 184, 0, 216, 54, 5, 44, 42, 21, 4, 4, 96, 46, 42, 21, 4, 5, 96, 46, 42, 21, 4, 6, 96, 46, 182, 0, 219, 44, 182, 0, 183, 21, 5, 159, 0, 5, 3, 172, 167, 14, 26, 43, 42, 21, 4, 4, 96, 46, 42, 21, 4, 5, 96, 46, 45, 184, 0]
set_option maxRecDepth 100000 in
theorem dby_14 : (cL_law.data.toList.drop 896).take 64 = dbl_14 := by decide +kernel
def dbl_15 : List UInt8 := [220, 54, 5, 44, 42, 21, 4, 4, 96, 46, 42, 21, 4, 5, 96, 46, 182, 0, 222, 54, 6, 44, 182, 0, 183, 21, 5, 159, 0, 5, 3, 172, 21, 5, 154, 0, 22, 45, 3, 47, 21, 6, 153, 0, 7, 10, 167, 0, 4, 9, 148, 153, 0, 5, 3, 172, 167, 13, 207, 43, 42, 21, 4, 4]
set_option maxRecDepth 100000 in
theorem dby_15 : (cL_law.data.toList.drop 960).take 64 = dbl_15 := by decide +kernel
def dbl_16 : List UInt8 := [96, 46, 42, 21, 4, 5, 96, 46, 45, 184, 0, 223, 54, 5, 44, 42, 21, 4, 4, 96, 46, 42, 21, 4, 5, 96, 46, 182, 0, 225, 54, 6, 44, 182, 0, 183, 21, 5, 159, 0, 5, 3, 172, 21, 5, 154, 0, 15, 45, 3, 47, 21, 6, 133, 148, 153, 0, 5, 3, 172, 167, 13, 139, 43]
set_option maxRecDepth 100000 in
theorem dby_16 : (cL_law.data.toList.drop 1024).take 64 = dbl_16 := by decide +kernel
def dbl_17 : List UInt8 := [42, 21, 4, 4, 96, 46, 42, 21, 4, 5, 96, 46, 42, 21, 4, 6, 96, 46, 45, 184, 0, 226, 54, 5, 44, 42, 21, 4, 4, 96, 46, 42, 21, 4, 5, 96, 46, 42, 21, 4, 6, 96, 46, 182, 0, 228, 54, 6, 44, 182, 0, 183, 21, 5, 159, 0, 5, 3, 172, 21, 5, 154, 0, 15]
set_option maxRecDepth 100000 in
theorem dby_17 : (cL_law.data.toList.drop 1088).take 64 = dbl_17 := by decide +kernel
def dbl_18 : List UInt8 := [45, 3, 47, 21, 6, 133, 148, 153, 0, 5, 3, 172, 167, 13, 59, 43, 42, 21, 4, 4, 96, 46, 42, 21, 4, 5, 96, 46, 153, 0, 7, 4, 167, 0, 4, 3, 45, 184, 0, 229, 54, 5, 44, 42, 21, 4, 4, 96, 46, 42, 21, 4, 5, 96, 46, 153, 0, 7, 4, 167, 0, 4, 3, 182]
set_option maxRecDepth 100000 in
theorem dby_18 : (cL_law.data.toList.drop 1152).take 64 = dbl_18 := by decide +kernel
def dbl_19 : List UInt8 := [0, 231, 54, 6, 44, 182, 0, 183, 21, 5, 159, 0, 5, 3, 172, 21, 5, 154, 0, 15, 45, 3, 47, 21, 6, 133, 148, 153, 0, 5, 3, 172, 167, 12, 231, 43, 42, 21, 4, 4, 96, 46, 184, 0, 232, 54, 5, 44, 42, 21, 4, 4, 96, 46, 182, 0, 235, 44, 182, 0, 183, 21, 5, 159]
set_option maxRecDepth 100000 in
theorem dby_19 : (cL_law.data.toList.drop 1216).take 64 = dbl_19 := by decide +kernel
def dbl_20 : List UInt8 := [0, 5, 3, 172, 167, 12, 195, 43, 42, 21, 4, 4, 96, 46, 42, 21, 4, 5, 96, 46, 184, 0, 236, 54, 5, 44, 42, 21, 4, 4, 96, 46, 42, 21, 4, 5, 96, 46, 182, 0, 239, 44, 182, 0, 183, 21, 5, 159, 0, 5, 3, 172, 167, 12, 147, 43, 42, 21, 4, 4, 96, 46, 42, 21]
set_option maxRecDepth 100000 in
theorem dby_20 : (cL_law.data.toList.drop 1280).take 64 = dbl_20 := by decide +kernel
def dbl_21 : List UInt8 := [4, 5, 96, 46, 153, 0, 7, 4, 167, 0, 4, 3, 42, 21, 4, 6, 96, 46, 42, 21, 4, 7, 96, 46, 153, 0, 7, 4, 167, 0, 4, 3, 45, 184, 0, 240, 54, 5, 44, 42, 21, 4, 4, 96, 46, 42, 21, 4, 5, 96, 46, 153, 0, 7, 4, 167, 0, 4, 3, 42, 21, 4, 6, 96]
set_option maxRecDepth 100000 in
theorem dby_21 : (cL_law.data.toList.drop 1344).take 64 = dbl_21 := by decide +kernel
def dbl_22 : List UInt8 := [46, 42, 21, 4, 7, 96, 46, 153, 0, 7, 4, 167, 0, 4, 3, 182, 0, 243, 54, 6, 44, 182, 0, 183, 21, 5, 159, 0, 5, 3, 172, 21, 5, 154, 0, 15, 45, 3, 47, 21, 6, 133, 148, 153, 0, 5, 3, 172, 167, 12, 23, 43, 42, 21, 4, 4, 96, 46, 42, 21, 4, 5, 96, 46]
set_option maxRecDepth 100000 in
theorem dby_22 : (cL_law.data.toList.drop 1408).take 64 = dbl_22 := by decide +kernel
def dbl_23 : List UInt8 := [153, 0, 7, 4, 167, 0, 4, 3, 42, 21, 4, 6, 96, 46, 42, 21, 4, 7, 96, 46, 153, 0, 7, 4, 167, 0, 4, 3, 42, 21, 4, 8, 96, 46, 153, 0, 7, 4, 167, 0, 4, 3, 45, 184, 0, 244, 54, 5, 44, 42, 21, 4, 4, 96, 46, 42, 21, 4, 5, 96, 46, 153, 0, 7]
set_option maxRecDepth 100000 in
theorem dby_23 : (cL_law.data.toList.drop 1472).take 64 = dbl_23 := by decide +kernel
def dbl_24 : List UInt8 := [4, 167, 0, 4, 3, 42, 21, 4, 6, 96, 46, 42, 21, 4, 7, 96, 46, 153, 0, 7, 4, 167, 0, 4, 3, 42, 21, 4, 8, 96, 46, 153, 0, 7, 4, 167, 0, 4, 3, 182, 0, 247, 54, 6, 44, 182, 0, 183, 21, 5, 159, 0, 5, 3, 172, 21, 5, 154, 0, 15, 45, 3, 47, 21]
set_option maxRecDepth 100000 in
theorem dby_24 : (cL_law.data.toList.drop 1536).take 64 = dbl_24 := by decide +kernel
def dbl_25 : List UInt8 := [6, 133, 148, 153, 0, 5, 3, 172, 167, 11, 127, 43, 42, 21, 4, 4, 96, 46, 42, 21, 4, 5, 96, 46, 42, 21, 4, 6, 96, 46, 153, 0, 7, 4, 167, 0, 4, 3, 45, 184, 0, 248, 54, 5, 44, 42, 21, 4, 4, 96, 46, 42, 21, 4, 5, 96, 46, 42, 21, 4, 6, 96, 46, 153]
set_option maxRecDepth 100000 in
theorem dby_25 : (cL_law.data.toList.drop 1600).take 64 = dbl_25 := by decide +kernel
def dbl_26 : List UInt8 := [0, 7, 4, 167, 0, 4, 3, 182, 0, 250, 54, 6, 44, 182, 0, 183, 21, 5, 159, 0, 5, 3, 172, 21, 5, 154, 0, 15, 45, 3, 47, 21, 6, 133, 148, 153, 0, 5, 3, 172, 167, 11, 31, 43, 42, 21, 4, 4, 96, 46, 42, 21, 4, 5, 96, 46, 153, 0, 7, 4, 167, 0, 4, 3]
set_option maxRecDepth 100000 in
theorem dby_26 : (cL_law.data.toList.drop 1664).take 64 = dbl_26 := by decide +kernel
def dbl_27 : List UInt8 := [45, 184, 0, 251, 54, 5, 44, 42, 21, 4, 4, 96, 46, 42, 21, 4, 5, 96, 46, 153, 0, 7, 4, 167, 0, 4, 3, 182, 0, 253, 54, 6, 44, 182, 0, 183, 21, 5, 159, 0, 5, 3, 172, 21, 5, 154, 0, 15, 45, 3, 47, 21, 6, 133, 148, 153, 0, 5, 3, 172, 167, 10, 203, 43]
set_option maxRecDepth 100000 in
theorem dby_27 : (cL_law.data.toList.drop 1728).take 64 = dbl_27 := by decide +kernel
def dbl_28 : List UInt8 := [42, 21, 4, 4, 96, 46, 42, 21, 4, 5, 96, 46, 42, 21, 4, 6, 96, 46, 153, 0, 7, 4, 167, 0, 4, 3, 45, 184, 0, 254, 54, 5, 44, 42, 21, 4, 4, 96, 46, 42, 21, 4, 5, 96, 46, 42, 21, 4, 6, 96, 46, 153, 0, 7, 4, 167, 0, 4, 3, 182, 1, 0, 54, 6]
set_option maxRecDepth 100000 in
theorem dby_28 : (cL_law.data.toList.drop 1792).take 64 = dbl_28 := by decide +kernel
def dbl_29 : List UInt8 := [44, 182, 0, 183, 21, 5, 159, 0, 5, 3, 172, 21, 5, 154, 0, 15, 45, 3, 47, 21, 6, 133, 148, 153, 0, 5, 3, 172, 167, 10, 107, 43, 42, 21, 4, 4, 96, 46, 42, 21, 4, 5, 96, 46, 42, 21, 4, 6, 96, 46, 42, 21, 4, 7, 96, 46, 153, 0, 7, 4, 167, 0, 4, 3]
set_option maxRecDepth 100000 in
theorem dby_29 : (cL_law.data.toList.drop 1856).take 64 = dbl_29 := by decide +kernel
def dbl_30 : List UInt8 := [45, 184, 1, 1, 54, 5, 44, 42, 21, 4, 4, 96, 46, 42, 21, 4, 5, 96, 46, 42, 21, 4, 6, 96, 46, 42, 21, 4, 7, 96, 46, 153, 0, 7, 4, 167, 0, 4, 3, 182, 1, 4, 54, 6, 44, 182, 0, 183, 21, 5, 159, 0, 5, 3, 172, 21, 5, 154, 0, 15, 45, 3, 47, 21]
set_option maxRecDepth 100000 in
theorem dby_30 : (cL_law.data.toList.drop 1920).take 64 = dbl_30 := by decide +kernel
def dbl_31 : List UInt8 := [6, 133, 148, 153, 0, 5, 3, 172, 167, 9, 255, 43, 42, 21, 4, 4, 96, 46, 133, 16, 32, 121, 42, 21, 4, 5, 96, 46, 133, 20, 1, 5, 127, 129, 42, 21, 4, 6, 96, 46, 153, 0, 7, 4, 167, 0, 4, 3, 45, 184, 1, 7, 54, 5, 44, 42, 21, 4, 4, 96, 46, 133, 16, 32]
set_option maxRecDepth 100000 in
theorem dby_31 : (cL_law.data.toList.drop 1984).take 64 = dbl_31 := by decide +kernel
def dbl_32 : List UInt8 := [121, 42, 21, 4, 5, 96, 46, 133, 20, 1, 5, 127, 129, 42, 21, 4, 6, 96, 46, 153, 0, 7, 4, 167, 0, 4, 3, 182, 1, 10, 54, 6, 44, 182, 0, 183, 21, 5, 159, 0, 5, 3, 172, 21, 5, 154, 0, 15, 45, 3, 47, 21, 6, 133, 148, 153, 0, 5, 3, 172, 167, 9, 139, 43]
set_option maxRecDepth 100000 in
theorem dby_32 : (cL_law.data.toList.drop 2048).take 64 = dbl_32 := by decide +kernel
def dbl_33 : List UInt8 := [42, 21, 4, 4, 96, 46, 133, 16, 32, 121, 42, 21, 4, 5, 96, 46, 133, 20, 1, 5, 127, 129, 42, 21, 4, 6, 96, 46, 153, 0, 7, 4, 167, 0, 4, 3, 42, 21, 4, 7, 96, 46, 45, 184, 1, 11, 54, 5, 44, 42, 21, 4, 4, 96, 46, 133, 16, 32, 121, 42, 21, 4, 5, 96]
set_option maxRecDepth 100000 in
theorem dby_33 : (cL_law.data.toList.drop 2112).take 64 = dbl_33 := by decide +kernel
def dbl_34 : List UInt8 := [46, 133, 20, 1, 5, 127, 129, 42, 21, 4, 6, 96, 46, 153, 0, 7, 4, 167, 0, 4, 3, 42, 21, 4, 7, 96, 46, 182, 1, 14, 54, 6, 44, 182, 0, 183, 21, 5, 159, 0, 5, 3, 172, 21, 5, 154, 0, 15, 45, 3, 47, 21, 6, 133, 148, 153, 0, 5, 3, 172, 167, 9, 11, 43]
set_option maxRecDepth 100000 in
theorem dby_34 : (cL_law.data.toList.drop 2176).take 64 = dbl_34 := by decide +kernel
def dbl_35 : List UInt8 := [42, 21, 4, 4, 96, 46, 133, 16, 32, 121, 42, 21, 4, 5, 96, 46, 133, 20, 1, 5, 127, 129, 42, 21, 4, 6, 96, 46, 153, 0, 7, 4, 167, 0, 4, 3, 42, 21, 4, 7, 96, 46, 45, 184, 1, 15, 54, 5, 44, 42, 21, 4, 4, 96, 46, 133, 16, 32, 121, 42, 21, 4, 5, 96]
set_option maxRecDepth 100000 in
theorem dby_35 : (cL_law.data.toList.drop 2240).take 64 = dbl_35 := by decide +kernel
def dbl_36 : List UInt8 := [46, 133, 20, 1, 5, 127, 129, 42, 21, 4, 6, 96, 46, 153, 0, 7, 4, 167, 0, 4, 3, 42, 21, 4, 7, 96, 46, 182, 1, 17, 54, 6, 44, 182, 0, 183, 21, 5, 159, 0, 5, 3, 172, 21, 5, 154, 0, 15, 45, 3, 47, 21, 6, 133, 148, 153, 0, 5, 3, 172, 167, 8, 139, 43]
set_option maxRecDepth 100000 in
theorem dby_36 : (cL_law.data.toList.drop 2304).take 64 = dbl_36 := by decide +kernel
def dbl_37 : List UInt8 := [42, 21, 4, 4, 96, 46, 133, 16, 32, 121, 42, 21, 4, 5, 96, 46, 133, 20, 1, 5, 127, 129, 42, 21, 4, 6, 96, 46, 153, 0, 7, 4, 167, 0, 4, 3, 42, 21, 4, 7, 96, 46, 42, 21, 4, 8, 96, 46, 42, 21, 4, 16, 6, 96, 46, 45, 184, 1, 18, 54, 5, 44, 42, 21]
set_option maxRecDepth 100000 in
theorem dby_37 : (cL_law.data.toList.drop 2368).take 64 = dbl_37 := by decide +kernel
def dbl_38 : List UInt8 := [4, 4, 96, 46, 133, 16, 32, 121, 42, 21, 4, 5, 96, 46, 133, 20, 1, 5, 127, 129, 42, 21, 4, 6, 96, 46, 153, 0, 7, 4, 167, 0, 4, 3, 42, 21, 4, 7, 96, 46, 42, 21, 4, 8, 96, 46, 42, 21, 4, 16, 6, 96, 46, 182, 1, 21, 54, 6, 44, 182, 0, 183, 21, 5]
set_option maxRecDepth 100000 in
theorem dby_38 : (cL_law.data.toList.drop 2432).take 64 = dbl_38 := by decide +kernel
def dbl_39 : List UInt8 := [159, 0, 5, 3, 172, 21, 5, 154, 0, 15, 45, 3, 47, 21, 6, 133, 148, 153, 0, 5, 3, 172, 167, 7, 241, 43, 42, 21, 4, 4, 96, 46, 42, 21, 4, 5, 96, 46, 153, 0, 7, 4, 167, 0, 4, 3, 45, 184, 1, 22, 54, 5, 44, 42, 21, 4, 4, 96, 46, 42, 21, 4, 5, 96]
set_option maxRecDepth 100000 in
theorem dby_39 : (cL_law.data.toList.drop 2496).take 64 = dbl_39 := by decide +kernel
def dbl_40 : List UInt8 := [46, 153, 0, 7, 4, 167, 0, 4, 3, 182, 1, 24, 54, 6, 44, 182, 0, 183, 21, 5, 159, 0, 5, 3, 172, 21, 5, 154, 0, 15, 45, 3, 47, 21, 6, 133, 148, 153, 0, 5, 3, 172, 167, 7, 157, 43, 42, 21, 4, 4, 96, 46, 153, 0, 7, 4, 167, 0, 4, 3, 182, 1, 25, 44]
set_option maxRecDepth 100000 in
theorem dby_40 : (cL_law.data.toList.drop 2560).take 64 = dbl_40 := by decide +kernel
def dbl_41 : List UInt8 := [42, 21, 4, 4, 96, 46, 153, 0, 7, 4, 167, 0, 4, 3, 182, 1, 29, 159, 7, 118, 3, 172, 43, 42, 21, 4, 4, 96, 46, 42, 21, 4, 5, 96, 46, 45, 184, 1, 30, 54, 5, 44, 42, 21, 4, 4, 96, 46, 42, 21, 4, 5, 96, 46, 182, 1, 32, 54, 6, 44, 182, 0, 183, 21]
set_option maxRecDepth 100000 in
theorem dby_41 : (cL_law.data.toList.drop 2624).take 64 = dbl_41 := by decide +kernel
def dbl_42 : List UInt8 := [5, 159, 0, 5, 3, 172, 21, 5, 154, 0, 15, 45, 3, 47, 21, 6, 133, 148, 153, 0, 5, 3, 172, 167, 7, 48, 43, 42, 21, 4, 4, 96, 46, 42, 21, 4, 5, 96, 46, 42, 21, 4, 6, 96, 46, 42, 21, 4, 7, 96, 46, 153, 0, 7, 4, 167, 0, 4, 3, 45, 184, 1, 33, 54]
set_option maxRecDepth 100000 in
theorem dby_42 : (cL_law.data.toList.drop 2688).take 64 = dbl_42 := by decide +kernel
def dbl_43 : List UInt8 := [5, 44, 42, 21, 4, 4, 96, 46, 42, 21, 4, 5, 96, 46, 42, 21, 4, 6, 96, 46, 42, 21, 4, 7, 96, 46, 153, 0, 7, 4, 167, 0, 4, 3, 182, 1, 35, 54, 6, 44, 182, 0, 183, 21, 5, 159, 0, 5, 3, 172, 21, 5, 154, 0, 15, 45, 3, 47, 21, 6, 133, 148, 153, 0]
set_option maxRecDepth 100000 in
theorem dby_43 : (cL_law.data.toList.drop 2752).take 64 = dbl_43 := by decide +kernel
def dbl_44 : List UInt8 := [5, 3, 172, 167, 6, 196, 43, 42, 21, 4, 4, 96, 46, 42, 21, 4, 5, 96, 46, 42, 21, 4, 6, 96, 46, 45, 184, 1, 36, 54, 5, 44, 42, 21, 4, 4, 96, 46, 42, 21, 4, 5, 96, 46, 42, 21, 4, 6, 96, 46, 182, 1, 38, 54, 6, 44, 182, 0, 183, 21, 5, 159, 0, 5]
set_option maxRecDepth 100000 in
theorem dby_44 : (cL_law.data.toList.drop 2816).take 64 = dbl_44 := by decide +kernel
def dbl_45 : List UInt8 := [3, 172, 21, 5, 154, 0, 15, 45, 3, 47, 21, 6, 133, 148, 153, 0, 5, 3, 172, 167, 6, 116, 43, 42, 21, 4, 4, 96, 46, 42, 21, 4, 5, 96, 46, 42, 21, 4, 6, 96, 46, 45, 184, 1, 39, 54, 5, 44, 42, 21, 4, 4, 96, 46, 42, 21, 4, 5, 96, 46, 42, 21, 4, 6]
set_option maxRecDepth 100000 in
theorem dby_45 : (cL_law.data.toList.drop 2880).take 64 = dbl_45 := by decide +kernel
def dbl_46 : List UInt8 := [96, 46, 182, 1, 41, 54, 6, 44, 182, 0, 183, 21, 5, 159, 0, 5, 3, 172, 21, 5, 154, 0, 15, 45, 3, 47, 21, 6, 133, 148, 153, 0, 5, 3, 172, 167, 6, 36, 43, 42, 21, 4, 4, 96, 46, 42, 21, 4, 5, 96, 46, 42, 21, 4, 6, 96, 46, 45, 184, 1, 42, 54, 5, 44]
set_option maxRecDepth 100000 in
theorem dby_46 : (cL_law.data.toList.drop 2944).take 64 = dbl_46 := by decide +kernel
def dbl_47 : List UInt8 := [42, 21, 4, 4, 96, 46, 42, 21, 4, 5, 96, 46, 42, 21, 4, 6, 96, 46, 182, 1, 44, 54, 6, 44, 182, 0, 183, 21, 5, 159, 0, 5, 3, 172, 21, 5, 154, 0, 15, 45, 3, 47, 21, 6, 133, 148, 153, 0, 5, 3, 172, 167, 5, 212, 43, 42, 21, 4, 4, 96, 46, 42, 21, 4]
set_option maxRecDepth 100000 in
theorem dby_47 : (cL_law.data.toList.drop 3008).take 64 = dbl_47 := by decide +kernel
def dbl_48 : List UInt8 := [5, 96, 46, 45, 184, 1, 45, 54, 5, 44, 42, 21, 4, 4, 96, 46, 42, 21, 4, 5, 96, 46, 182, 1, 47, 54, 6, 44, 182, 0, 183, 21, 5, 159, 0, 5, 3, 172, 21, 5, 154, 0, 22, 45, 3, 47, 21, 6, 153, 0, 7, 10, 167, 0, 4, 9, 148, 153, 0, 5, 3, 172, 167, 5]
set_option maxRecDepth 100000 in
theorem dby_48 : (cL_law.data.toList.drop 3072).take 64 = dbl_48 := by decide +kernel
def dbl_49 : List UInt8 := [137, 43, 42, 21, 4, 4, 96, 46, 153, 0, 7, 4, 167, 0, 4, 3, 182, 1, 48, 44, 42, 21, 4, 4, 96, 46, 153, 0, 7, 4, 167, 0, 4, 3, 182, 1, 51, 159, 5, 98, 3, 172, 43, 42, 21, 4, 4, 96, 46, 42, 21, 4, 5, 96, 46, 153, 0, 7, 4, 167, 0, 4, 3, 45]
set_option maxRecDepth 100000 in
theorem dby_49 : (cL_law.data.toList.drop 3136).take 64 = dbl_49 := by decide +kernel
def dbl_50 : List UInt8 := [184, 1, 52, 54, 5, 44, 42, 21, 4, 4, 96, 46, 42, 21, 4, 5, 96, 46, 153, 0, 7, 4, 167, 0, 4, 3, 182, 1, 54, 54, 6, 44, 182, 0, 183, 21, 5, 159, 0, 5, 3, 172, 21, 5, 154, 0, 22, 45, 3, 47, 21, 6, 153, 0, 7, 10, 167, 0, 4, 9, 148, 153, 0, 5]
set_option maxRecDepth 100000 in
theorem dby_50 : (cL_law.data.toList.drop 3200).take 64 = dbl_50 := by decide +kernel
def dbl_51 : List UInt8 := [3, 172, 167, 5, 5, 43, 42, 21, 4, 4, 96, 46, 133, 16, 32, 121, 42, 21, 4, 5, 96, 46, 133, 20, 1, 5, 127, 129, 45, 184, 1, 55, 54, 5, 44, 42, 21, 4, 4, 96, 46, 133, 16, 32, 121, 42, 21, 4, 5, 96, 46, 133, 20, 1, 5, 127, 129, 182, 1, 58, 54, 6, 44, 182]
set_option maxRecDepth 100000 in
theorem dby_51 : (cL_law.data.toList.drop 3264).take 64 = dbl_51 := by decide +kernel
def dbl_52 : List UInt8 := [0, 183, 21, 5, 159, 0, 5, 3, 172, 21, 5, 154, 0, 15, 45, 3, 47, 21, 6, 133, 148, 153, 0, 5, 3, 172, 167, 4, 173, 43, 42, 21, 4, 4, 96, 46, 42, 21, 4, 5, 96, 46, 153, 0, 7, 4, 167, 0, 4, 3, 45, 184, 1, 59, 54, 5, 44, 42, 21, 4, 4, 96, 46, 42]
set_option maxRecDepth 100000 in
theorem dby_52 : (cL_law.data.toList.drop 3328).take 64 = dbl_52 := by decide +kernel
def dbl_53 : List UInt8 := [21, 4, 5, 96, 46, 153, 0, 7, 4, 167, 0, 4, 3, 182, 1, 61, 54, 6, 44, 182, 0, 183, 21, 5, 159, 0, 5, 3, 172, 21, 5, 154, 0, 15, 45, 3, 47, 21, 6, 133, 148, 153, 0, 5, 3, 172, 167, 4, 89, 43, 42, 21, 4, 4, 96, 46, 133, 16, 32, 121, 42, 21, 4, 5]
set_option maxRecDepth 100000 in
theorem dby_53 : (cL_law.data.toList.drop 3392).take 64 = dbl_53 := by decide +kernel
def dbl_54 : List UInt8 := [96, 46, 133, 20, 1, 5, 127, 129, 42, 21, 4, 6, 96, 46, 153, 0, 7, 4, 167, 0, 4, 3, 42, 21, 4, 7, 96, 46, 42, 21, 4, 8, 96, 46, 45, 184, 1, 62, 54, 5, 44, 42, 21, 4, 4, 96, 46, 133, 16, 32, 121, 42, 21, 4, 5, 96, 46, 133, 20, 1, 5, 127, 129, 42]
set_option maxRecDepth 100000 in
theorem dby_54 : (cL_law.data.toList.drop 3456).take 64 = dbl_54 := by decide +kernel
def dbl_55 : List UInt8 := [21, 4, 6, 96, 46, 153, 0, 7, 4, 167, 0, 4, 3, 42, 21, 4, 7, 96, 46, 42, 21, 4, 8, 96, 46, 182, 1, 65, 54, 6, 44, 182, 0, 183, 21, 5, 159, 0, 5, 3, 172, 21, 5, 154, 0, 15, 45, 3, 47, 21, 6, 133, 148, 153, 0, 5, 3, 172, 167, 3, 205, 43, 42, 21]
set_option maxRecDepth 100000 in
theorem dby_55 : (cL_law.data.toList.drop 3520).take 64 = dbl_55 := by decide +kernel
def dbl_56 : List UInt8 := [4, 4, 96, 46, 42, 21, 4, 5, 96, 46, 42, 21, 4, 6, 96, 46, 153, 0, 7, 4, 167, 0, 4, 3, 42, 21, 4, 7, 96, 46, 153, 0, 7, 4, 167, 0, 4, 3, 45, 184, 1, 66, 54, 5, 44, 42, 21, 4, 4, 96, 46, 42, 21, 4, 5, 96, 46, 42, 21, 4, 6, 96, 46, 153]
set_option maxRecDepth 100000 in
theorem dby_56 : (cL_law.data.toList.drop 3584).take 64 = dbl_56 := by decide +kernel
def dbl_57 : List UInt8 := [0, 7, 4, 167, 0, 4, 3, 42, 21, 4, 7, 96, 46, 153, 0, 7, 4, 167, 0, 4, 3, 182, 1, 69, 54, 6, 44, 182, 0, 183, 21, 5, 159, 0, 5, 3, 172, 21, 5, 154, 0, 15, 45, 3, 47, 21, 6, 133, 148, 153, 0, 5, 3, 172, 167, 3, 81, 43, 42, 21, 4, 4, 96, 46]
set_option maxRecDepth 100000 in
theorem dby_57 : (cL_law.data.toList.drop 3648).take 64 = dbl_57 := by decide +kernel
def dbl_58 : List UInt8 := [42, 21, 4, 5, 96, 46, 42, 21, 4, 6, 96, 46, 42, 21, 4, 7, 96, 46, 42, 21, 4, 8, 96, 46, 153, 0, 7, 4, 167, 0, 4, 3, 45, 184, 1, 70, 54, 5, 44, 42, 21, 4, 4, 96, 46, 42, 21, 4, 5, 96, 46, 42, 21, 4, 6, 96, 46, 42, 21, 4, 7, 96, 46, 42]
set_option maxRecDepth 100000 in
theorem dby_58 : (cL_law.data.toList.drop 3712).take 64 = dbl_58 := by decide +kernel
def dbl_59 : List UInt8 := [21, 4, 8, 96, 46, 153, 0, 7, 4, 167, 0, 4, 3, 182, 1, 73, 54, 6, 44, 182, 0, 183, 21, 5, 159, 0, 5, 3, 172, 21, 5, 154, 0, 15, 45, 3, 47, 21, 6, 133, 148, 153, 0, 5, 3, 172, 167, 2, 217, 43, 42, 21, 4, 4, 96, 46, 42, 21, 4, 5, 96, 46, 42, 21]
set_option maxRecDepth 100000 in
theorem dby_59 : (cL_law.data.toList.drop 3776).take 64 = dbl_59 := by decide +kernel
def dbl_60 : List UInt8 := [4, 6, 96, 46, 42, 21, 4, 7, 96, 46, 42, 21, 4, 8, 96, 46, 182, 1, 74, 44, 42, 21, 4, 4, 96, 46, 42, 21, 4, 5, 96, 46, 42, 21, 4, 6, 96, 46, 42, 21, 4, 7, 96, 46, 42, 21, 4, 8, 96, 46, 182, 1, 78, 159, 2, 146, 3, 172, 43, 42, 21, 4, 4, 96]
set_option maxRecDepth 100000 in
theorem dby_60 : (cL_law.data.toList.drop 3840).take 64 = dbl_60 := by decide +kernel
def dbl_61 : List UInt8 := [46, 45, 184, 1, 79, 54, 5, 44, 42, 21, 4, 4, 96, 46, 182, 1, 81, 54, 6, 44, 182, 0, 183, 21, 5, 159, 0, 5, 3, 172, 21, 5, 154, 0, 15, 45, 3, 47, 21, 6, 133, 148, 153, 0, 5, 3, 172, 167, 2, 88, 43, 42, 21, 4, 4, 96, 46, 182, 1, 82, 44, 42, 21, 4]
set_option maxRecDepth 100000 in
theorem dby_61 : (cL_law.data.toList.drop 3904).take 64 = dbl_61 := by decide +kernel
def dbl_62 : List UInt8 := [4, 96, 46, 182, 1, 85, 159, 2, 65, 3, 172, 43, 42, 21, 4, 4, 96, 46, 42, 21, 4, 5, 96, 46, 45, 184, 1, 86, 54, 5, 44, 42, 21, 4, 4, 96, 46, 42, 21, 4, 5, 96, 46, 182, 1, 88, 54, 6, 44, 182, 0, 183, 21, 5, 159, 0, 5, 3, 172, 21, 5, 154, 0, 22]
set_option maxRecDepth 100000 in
theorem dby_62 : (cL_law.data.toList.drop 3968).take 64 = dbl_62 := by decide +kernel
def dbl_63 : List UInt8 := [45, 3, 47, 21, 6, 153, 0, 7, 10, 167, 0, 4, 9, 148, 153, 0, 5, 3, 172, 167, 1, 244, 43, 42, 21, 4, 4, 96, 46, 42, 21, 4, 5, 96, 46, 42, 21, 4, 6, 96, 46, 182, 1, 89, 44, 42, 21, 4, 4, 96, 46, 42, 21, 4, 5, 96, 46, 42, 21, 4, 6, 96, 46, 182]
set_option maxRecDepth 100000 in
theorem dby_63 : (cL_law.data.toList.drop 4032).take 64 = dbl_63 := by decide +kernel
def dbl_64 : List UInt8 := [1, 92, 159, 1, 197, 3, 172, 43, 42, 21, 4, 4, 96, 46, 45, 184, 1, 93, 54, 5, 44, 42, 21, 4, 4, 96, 46, 182, 1, 95, 54, 6, 44, 182, 0, 183, 21, 5, 159, 0, 5, 3, 172, 21, 5, 154, 0, 15, 45, 3, 47, 21, 6, 133, 148, 153, 0, 5, 3, 172, 167, 1, 139, 43]
set_option maxRecDepth 100000 in
theorem dby_64 : (cL_law.data.toList.drop 4096).take 64 = dbl_64 := by decide +kernel
def dbl_65 : List UInt8 := [42, 21, 4, 4, 96, 46, 42, 21, 4, 5, 96, 46, 42, 21, 4, 6, 96, 46, 184, 1, 96, 54, 5, 44, 42, 21, 4, 4, 96, 46, 42, 21, 4, 5, 96, 46, 42, 21, 4, 6, 96, 46, 182, 1, 98, 44, 182, 0, 183, 21, 5, 159, 0, 5, 3, 172, 167, 1, 79, 43, 42, 21, 4, 4]
set_option maxRecDepth 100000 in
theorem dby_65 : (cL_law.data.toList.drop 4160).take 64 = dbl_65 := by decide +kernel
def dbl_66 : List UInt8 := [96, 46, 42, 21, 4, 5, 96, 46, 42, 21, 4, 6, 96, 46, 133, 16, 32, 121, 42, 21, 4, 7, 96, 46, 133, 20, 1, 5, 127, 129, 45, 184, 1, 99, 54, 5, 44, 42, 21, 4, 4, 96, 46, 42, 21, 4, 5, 96, 46, 42, 21, 4, 6, 96, 46, 133, 16, 32, 121, 42, 21, 4, 7, 96]
set_option maxRecDepth 100000 in
theorem dby_66 : (cL_law.data.toList.drop 4224).take 64 = dbl_66 := by decide +kernel
def dbl_67 : List UInt8 := [46, 133, 20, 1, 5, 127, 129, 182, 1, 102, 55, 6, 44, 182, 0, 183, 21, 5, 159, 0, 5, 3, 172, 21, 5, 154, 0, 14, 45, 3, 47, 22, 6, 148, 153, 0, 5, 3, 172, 167, 0, 224, 43, 42, 21, 4, 4, 96, 46, 42, 21, 4, 5, 96, 46, 45, 184, 1, 103, 54, 5, 44, 42, 21]
set_option maxRecDepth 100000 in
theorem dby_67 : (cL_law.data.toList.drop 4288).take 64 = dbl_67 := by decide +kernel
def dbl_68 : List UInt8 := [4, 4, 96, 46, 42, 21, 4, 5, 96, 46, 182, 1, 105, 54, 6, 44, 182, 0, 183, 21, 5, 159, 0, 5, 3, 172, 21, 5, 154, 0, 15, 45, 3, 47, 21, 6, 133, 148, 153, 0, 5, 3, 172, 167, 0, 156, 43, 42, 21, 4, 4, 96, 46, 133, 16, 32, 121, 42, 21, 4, 5, 96, 46, 133]
set_option maxRecDepth 100000 in
theorem dby_68 : (cL_law.data.toList.drop 4352).take 64 = dbl_68 := by decide +kernel
def dbl_69 : List UInt8 := [20, 1, 5, 127, 129, 42, 21, 4, 6, 96, 46, 153, 0, 7, 4, 167, 0, 4, 3, 42, 21, 4, 7, 96, 46, 45, 184, 1, 106, 54, 5, 44, 42, 21, 4, 4, 96, 46, 133, 16, 32, 121, 42, 21, 4, 5, 96, 46, 133, 20, 1, 5, 127, 129, 42, 21, 4, 6, 96, 46, 153, 0, 7, 4]
set_option maxRecDepth 100000 in
theorem dby_69 : (cL_law.data.toList.drop 4416).take 64 = dbl_69 := by decide +kernel
def dbl_70 : List UInt8 := [167, 0, 4, 3, 42, 21, 4, 7, 96, 46, 182, 1, 108, 54, 6, 44, 182, 0, 183, 21, 5, 159, 0, 5, 3, 172, 21, 5, 154, 0, 15, 45, 3, 47, 21, 6, 133, 148, 153, 0, 5, 3, 172, 167, 0, 28, 43, 42, 21, 4, 4, 96, 46, 182, 1, 109, 44, 42, 21, 4, 4, 96, 46, 182]
set_option maxRecDepth 100000 in
theorem dby_70 : (cL_law.data.toList.drop 4480).take 64 = dbl_70 := by decide +kernel
def dbl_71 : List UInt8 := [1, 112, 159, 0, 5, 3, 172, 132, 4, 7, 167, 238, 77, 4, 172]
set_option maxRecDepth 100000 in
theorem dby_71 : (cL_law.data.toList.drop 4544).take 64 = dbl_71 := by decide +kernel
