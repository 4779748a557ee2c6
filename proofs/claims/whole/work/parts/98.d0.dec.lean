/-! decoding, byte by byte -/
section DEC
variable {c : ByteArray} {p : Nat} {a b e : UInt8}
theorem dc_rd (h : c.data.toList[p]? = some b) : (Reader.u1 : Decoder Nat) c p = .ok (b.toNat, p + 1) := by
  obtain ⟨bs⟩ := c
  have h : bs.toList[p]? = some b := h
  rw [Array.getElem?_toList] at h
  obtain ⟨hp, eb⟩ := Array.getElem?_eq_some_iff.mp h
  have e1 : (Reader.u1 : Decoder Nat) ⟨bs⟩ p = (dite (p < (ByteArray.mk bs).size) (fun h => (do set (p + 1); pure ((ByteArray.mk bs)[p].toNat) : Decoder Nat)) (fun _ => throw (HasTruncated.truncated p))) ⟨bs⟩ p := rfl
  have hp2 : p < (ByteArray.mk bs).size := hp
  rw [e1, dif_pos hp2]
  show Except.ok ((bs[p]).toNat, p + 1) = _
  rw [eb]
theorem dc_u2 (h1 : c.data.toList[p]? = some a) (h2 : c.data.toList[p + 1]? = some b) : (Reader.u2 : Decoder Nat) c p = .ok (a.toNat * 256 + b.toNat, p + 2) := by
  have e1 : (Reader.u2 : Decoder Nat) c p = Except.bind ((Reader.u1 : Decoder Nat) c p) (fun q => Except.bind ((Reader.u1 : Decoder Nat) c q.2) (fun r => .ok (q.1 * 256 + r.1, r.2))) := rfl
  rw [e1, dc_rd h1]
  show Except.bind ((Reader.u1 : Decoder Nat) c (p + 1)) _ = _
  rw [dc_rd h2]
  rfl
theorem dc_s1 (h : c.data.toList[p]? = some b) : (Reader.s1 : Decoder Int) c p = .ok (Reader.signed 8 b.toNat, p + 1) := by
  have e1 : (Reader.s1 : Decoder Int) c p = Except.bind ((Reader.u1 : Decoder Nat) c p) (fun q => .ok (Reader.signed 8 q.1, q.2)) := rfl
  rw [e1, dc_rd h]
  rfl
theorem dc_s2 (h1 : c.data.toList[p]? = some a) (h2 : c.data.toList[p + 1]? = some b) : (Reader.s2 : Decoder Int) c p = .ok (Reader.signed 16 (a.toNat * 256 + b.toNat), p + 2) := by
  have e1 : (Reader.s2 : Decoder Int) c p = Except.bind ((Reader.u2 : Decoder Nat) c p) (fun q => .ok (Reader.signed 16 q.1, q.2)) := rfl
  rw [e1, dc_u2 h1 h2]
  rfl
theorem dc_top {i : Instr} {n : Nat} (h : (Decoder.instr p) c p = .ok (i, p + n)) : decode c p = .ok (i, n) := by
  have e1 : decode c p = Except.bind ((Decoder.instr p) c p) (fun q => .ok (q.1, q.2 - p)) := rfl
  rw [e1, h]
  show Except.ok (i, p + n - p) = _
  rw [Nat.add_sub_cancel_left]
theorem dc_iconst_m1 (h : c.data.toList[p]? = some 2) : decode c p = .ok (.iconst (-1), 1) := dc_top (by
  have e1 := dc_rd h
  show Except.bind ((Reader.u1 : Decoder Nat) c p) _ = _
  rw [e1]
  rfl)
theorem dc_iconst_0 (h : c.data.toList[p]? = some 3) : decode c p = .ok (.iconst 0, 1) := dc_top (by
  have e1 := dc_rd h
  show Except.bind ((Reader.u1 : Decoder Nat) c p) _ = _
  rw [e1]
  rfl)
theorem dc_iconst_1 (h : c.data.toList[p]? = some 4) : decode c p = .ok (.iconst 1, 1) := dc_top (by
  have e1 := dc_rd h
  show Except.bind ((Reader.u1 : Decoder Nat) c p) _ = _
  rw [e1]
  rfl)
theorem dc_iconst_2 (h : c.data.toList[p]? = some 5) : decode c p = .ok (.iconst 2, 1) := dc_top (by
  have e1 := dc_rd h
  show Except.bind ((Reader.u1 : Decoder Nat) c p) _ = _
  rw [e1]
  rfl)
theorem dc_iconst_3 (h : c.data.toList[p]? = some 6) : decode c p = .ok (.iconst 3, 1) := dc_top (by
  have e1 := dc_rd h
  show Except.bind ((Reader.u1 : Decoder Nat) c p) _ = _
  rw [e1]
  rfl)
theorem dc_iconst_4 (h : c.data.toList[p]? = some 7) : decode c p = .ok (.iconst 4, 1) := dc_top (by
  have e1 := dc_rd h
  show Except.bind ((Reader.u1 : Decoder Nat) c p) _ = _
  rw [e1]
  rfl)
theorem dc_iconst_5 (h : c.data.toList[p]? = some 8) : decode c p = .ok (.iconst 5, 1) := dc_top (by
  have e1 := dc_rd h
  show Except.bind ((Reader.u1 : Decoder Nat) c p) _ = _
  rw [e1]
  rfl)
theorem dc_lconst_0 (h : c.data.toList[p]? = some 9) : decode c p = .ok (.lconst 0, 1) := dc_top (by
  have e1 := dc_rd h
  show Except.bind ((Reader.u1 : Decoder Nat) c p) _ = _
  rw [e1]
  rfl)
theorem dc_lconst_1 (h : c.data.toList[p]? = some 10) : decode c p = .ok (.lconst 1, 1) := dc_top (by
  have e1 := dc_rd h
  show Except.bind ((Reader.u1 : Decoder Nat) c p) _ = _
  rw [e1]
  rfl)
theorem dc_aload_n_0 (h : c.data.toList[p]? = some 42) : decode c p = .ok (.aload_n 0, 1) := dc_top (by
  have e1 := dc_rd h
  show Except.bind ((Reader.u1 : Decoder Nat) c p) _ = _
  rw [e1]
  rfl)
theorem dc_aload_n_1 (h : c.data.toList[p]? = some 43) : decode c p = .ok (.aload_n 1, 1) := dc_top (by
  have e1 := dc_rd h
  show Except.bind ((Reader.u1 : Decoder Nat) c p) _ = _
  rw [e1]
  rfl)
theorem dc_aload_n_2 (h : c.data.toList[p]? = some 44) : decode c p = .ok (.aload_n 2, 1) := dc_top (by
  have e1 := dc_rd h
  show Except.bind ((Reader.u1 : Decoder Nat) c p) _ = _
  rw [e1]
  rfl)
theorem dc_aload_n_3 (h : c.data.toList[p]? = some 45) : decode c p = .ok (.aload_n 3, 1) := dc_top (by
  have e1 := dc_rd h
  show Except.bind ((Reader.u1 : Decoder Nat) c p) _ = _
  rw [e1]
  rfl)
theorem dc_iaload (h : c.data.toList[p]? = some 46) : decode c p = .ok (.iaload, 1) := dc_top (by
  have e1 := dc_rd h
  show Except.bind ((Reader.u1 : Decoder Nat) c p) _ = _
  rw [e1]
  rfl)
theorem dc_laload (h : c.data.toList[p]? = some 47) : decode c p = .ok (.laload, 1) := dc_top (by
  have e1 := dc_rd h
  show Except.bind ((Reader.u1 : Decoder Nat) c p) _ = _
  rw [e1]
  rfl)
theorem dc_iadd (h : c.data.toList[p]? = some 96) : decode c p = .ok (.iadd, 1) := dc_top (by
  have e1 := dc_rd h
  show Except.bind ((Reader.u1 : Decoder Nat) c p) _ = _
  rw [e1]
  rfl)
theorem dc_isub (h : c.data.toList[p]? = some 100) : decode c p = .ok (.isub, 1) := dc_top (by
  have e1 := dc_rd h
  show Except.bind ((Reader.u1 : Decoder Nat) c p) _ = _
  rw [e1]
  rfl)
theorem dc_lshl (h : c.data.toList[p]? = some 121) : decode c p = .ok (.lshl, 1) := dc_top (by
  have e1 := dc_rd h
  show Except.bind ((Reader.u1 : Decoder Nat) c p) _ = _
  rw [e1]
  rfl)
theorem dc_iand (h : c.data.toList[p]? = some 126) : decode c p = .ok (.iand, 1) := dc_top (by
  have e1 := dc_rd h
  show Except.bind ((Reader.u1 : Decoder Nat) c p) _ = _
  rw [e1]
  rfl)
theorem dc_land (h : c.data.toList[p]? = some 127) : decode c p = .ok (.land, 1) := dc_top (by
  have e1 := dc_rd h
  show Except.bind ((Reader.u1 : Decoder Nat) c p) _ = _
  rw [e1]
  rfl)
theorem dc_lor (h : c.data.toList[p]? = some 129) : decode c p = .ok (.lor, 1) := dc_top (by
  have e1 := dc_rd h
  show Except.bind ((Reader.u1 : Decoder Nat) c p) _ = _
  rw [e1]
  rfl)
theorem dc_i2l (h : c.data.toList[p]? = some 133) : decode c p = .ok (.i2l, 1) := dc_top (by
  have e1 := dc_rd h
  show Except.bind ((Reader.u1 : Decoder Nat) c p) _ = _
  rw [e1]
  rfl)
theorem dc_lcmp (h : c.data.toList[p]? = some 148) : decode c p = .ok (.lcmp, 1) := dc_top (by
  have e1 := dc_rd h
  show Except.bind ((Reader.u1 : Decoder Nat) c p) _ = _
  rw [e1]
  rfl)
theorem dc_ireturn (h : c.data.toList[p]? = some 172) : decode c p = .ok (.ireturn, 1) := dc_top (by
  have e1 := dc_rd h
  show Except.bind ((Reader.u1 : Decoder Nat) c p) _ = _
  rw [e1]
  rfl)
theorem dc_arraylength (h : c.data.toList[p]? = some 190) : decode c p = .ok (.arraylength, 1) := dc_top (by
  have e1 := dc_rd h
  show Except.bind ((Reader.u1 : Decoder Nat) c p) _ = _
  rw [e1]
  rfl)
theorem dc_dup (h : c.data.toList[p]? = some 89) : decode c p = .ok (.dup, 1) := dc_top (by
  have e1 := dc_rd h
  show Except.bind ((Reader.u1 : Decoder Nat) c p) _ = _
  rw [e1]
  rfl)
theorem dc_astore_n_1 (h : c.data.toList[p]? = some 76) : decode c p = .ok (.astore_n 1, 1) := dc_top (by
  have e1 := dc_rd h
  show Except.bind ((Reader.u1 : Decoder Nat) c p) _ = _
  rw [e1]
  rfl)
theorem dc_astore_n_2 (h : c.data.toList[p]? = some 77) : decode c p = .ok (.astore_n 2, 1) := dc_top (by
  have e1 := dc_rd h
  show Except.bind ((Reader.u1 : Decoder Nat) c p) _ = _
  rw [e1]
  rfl)
theorem dc_astore_n_3 (h : c.data.toList[p]? = some 78) : decode c p = .ok (.astore_n 3, 1) := dc_top (by
  have e1 := dc_rd h
  show Except.bind ((Reader.u1 : Decoder Nat) c p) _ = _
  rw [e1]
  rfl)
theorem dc_iload (h : c.data.toList[p]? = some 21) (h1 : c.data.toList[p + 1]? = some a) {k : Nat} (hk : a.toNat = k) : decode c p = .ok (.iload k, 2) := dc_top (by
  have e1 := dc_rd h
  show Except.bind ((Reader.u1 : Decoder Nat) c p) _ = _
  rw [e1]
  subst hk
  show Except.bind ((Reader.u1 : Decoder Nat) c (p + 1)) _ = _
  rw [dc_rd h1]
  rfl)
theorem dc_lload (h : c.data.toList[p]? = some 22) (h1 : c.data.toList[p + 1]? = some a) {k : Nat} (hk : a.toNat = k) : decode c p = .ok (.lload k, 2) := dc_top (by
  have e1 := dc_rd h
  show Except.bind ((Reader.u1 : Decoder Nat) c p) _ = _
  rw [e1]
  subst hk
  show Except.bind ((Reader.u1 : Decoder Nat) c (p + 1)) _ = _
  rw [dc_rd h1]
  rfl)
theorem dc_istore (h : c.data.toList[p]? = some 54) (h1 : c.data.toList[p + 1]? = some a) {k : Nat} (hk : a.toNat = k) : decode c p = .ok (.istore k, 2) := dc_top (by
  have e1 := dc_rd h
  show Except.bind ((Reader.u1 : Decoder Nat) c p) _ = _
  rw [e1]
  subst hk
  show Except.bind ((Reader.u1 : Decoder Nat) c (p + 1)) _ = _
  rw [dc_rd h1]
  rfl)
theorem dc_lstore (h : c.data.toList[p]? = some 55) (h1 : c.data.toList[p + 1]? = some a) {k : Nat} (hk : a.toNat = k) : decode c p = .ok (.lstore k, 2) := dc_top (by
  have e1 := dc_rd h
  show Except.bind ((Reader.u1 : Decoder Nat) c p) _ = _
  rw [e1]
  subst hk
  show Except.bind ((Reader.u1 : Decoder Nat) c (p + 1)) _ = _
  rw [dc_rd h1]
  rfl)
theorem dc_bipush (h : c.data.toList[p]? = some 16) (h1 : c.data.toList[p + 1]? = some a) {k : Int} (hk : Reader.signed 8 a.toNat = k) : decode c p = .ok (.bipush k, 2) := dc_top (by
  have e1 := dc_rd h
  show Except.bind ((Reader.u1 : Decoder Nat) c p) _ = _
  rw [e1]
  subst hk
  show Except.bind ((Reader.s1 : Decoder Int) c (p + 1)) _ = _
  rw [dc_s1 h1]
  rfl)
theorem dc_ldc2_w (h : c.data.toList[p]? = some 20) (h1 : c.data.toList[p + 1]? = some a) (h2 : c.data.toList[p + 2]? = some b) {k : Nat} (hk : a.toNat * 256 + b.toNat = k) : decode c p = .ok (.ldc2_w k, 3) := dc_top (by
  have e1 := dc_rd h
  show Except.bind ((Reader.u1 : Decoder Nat) c p) _ = _
  rw [e1]
  subst hk
  show Except.bind ((Reader.u2 : Decoder Nat) c (p + 1)) _ = _
  rw [dc_u2 h1 h2]
  rfl)
theorem dc_invokevirtual (h : c.data.toList[p]? = some 182) (h1 : c.data.toList[p + 1]? = some a) (h2 : c.data.toList[p + 2]? = some b) {k : Nat} (hk : a.toNat * 256 + b.toNat = k) : decode c p = .ok (.invokevirtual k, 3) := dc_top (by
  have e1 := dc_rd h
  show Except.bind ((Reader.u1 : Decoder Nat) c p) _ = _
  rw [e1]
  subst hk
  show Except.bind ((Reader.u2 : Decoder Nat) c (p + 1)) _ = _
  rw [dc_u2 h1 h2]
  rfl)
theorem dc_invokespecial (h : c.data.toList[p]? = some 183) (h1 : c.data.toList[p + 1]? = some a) (h2 : c.data.toList[p + 2]? = some b) {k : Nat} (hk : a.toNat * 256 + b.toNat = k) : decode c p = .ok (.invokespecial k, 3) := dc_top (by
  have e1 := dc_rd h
  show Except.bind ((Reader.u1 : Decoder Nat) c p) _ = _
  rw [e1]
  subst hk
  show Except.bind ((Reader.u2 : Decoder Nat) c (p + 1)) _ = _
  rw [dc_u2 h1 h2]
  rfl)
theorem dc_invokestatic (h : c.data.toList[p]? = some 184) (h1 : c.data.toList[p + 1]? = some a) (h2 : c.data.toList[p + 2]? = some b) {k : Nat} (hk : a.toNat * 256 + b.toNat = k) : decode c p = .ok (.invokestatic k, 3) := dc_top (by
  have e1 := dc_rd h
  show Except.bind ((Reader.u1 : Decoder Nat) c p) _ = _
  rw [e1]
  subst hk
  show Except.bind ((Reader.u2 : Decoder Nat) c (p + 1)) _ = _
  rw [dc_u2 h1 h2]
  rfl)
theorem dc_new (h : c.data.toList[p]? = some 187) (h1 : c.data.toList[p + 1]? = some a) (h2 : c.data.toList[p + 2]? = some b) {k : Nat} (hk : a.toNat * 256 + b.toNat = k) : decode c p = .ok (.new k, 3) := dc_top (by
  have e1 := dc_rd h
  show Except.bind ((Reader.u1 : Decoder Nat) c p) _ = _
  rw [e1]
  subst hk
  show Except.bind ((Reader.u2 : Decoder Nat) c (p + 1)) _ = _
  rw [dc_u2 h1 h2]
  rfl)
theorem dc_ifCond_eq (h : c.data.toList[p]? = some 153) (h1 : c.data.toList[p + 1]? = some a) (h2 : c.data.toList[p + 2]? = some b) {k : Int} (hk : Reader.signed 16 (a.toNat * 256 + b.toNat) = k) : decode c p = .ok (.ifCond .eq k, 3) := dc_top (by
  have e1 := dc_rd h
  show Except.bind ((Reader.u1 : Decoder Nat) c p) _ = _
  rw [e1]
  subst hk
  show Except.bind ((Reader.s2 : Decoder Int) c (p + 1)) _ = _
  rw [dc_s2 h1 h2]
  rfl)
theorem dc_ifCond_ne (h : c.data.toList[p]? = some 154) (h1 : c.data.toList[p + 1]? = some a) (h2 : c.data.toList[p + 2]? = some b) {k : Int} (hk : Reader.signed 16 (a.toNat * 256 + b.toNat) = k) : decode c p = .ok (.ifCond .ne k, 3) := dc_top (by
  have e1 := dc_rd h
  show Except.bind ((Reader.u1 : Decoder Nat) c p) _ = _
  rw [e1]
  subst hk
  show Except.bind ((Reader.s2 : Decoder Int) c (p + 1)) _ = _
  rw [dc_s2 h1 h2]
  rfl)
theorem dc_if_icmp_eq (h : c.data.toList[p]? = some 159) (h1 : c.data.toList[p + 1]? = some a) (h2 : c.data.toList[p + 2]? = some b) {k : Int} (hk : Reader.signed 16 (a.toNat * 256 + b.toNat) = k) : decode c p = .ok (.if_icmp .eq k, 3) := dc_top (by
  have e1 := dc_rd h
  show Except.bind ((Reader.u1 : Decoder Nat) c p) _ = _
  rw [e1]
  subst hk
  show Except.bind ((Reader.s2 : Decoder Int) c (p + 1)) _ = _
  rw [dc_s2 h1 h2]
  rfl)
theorem dc_if_icmp_ne (h : c.data.toList[p]? = some 160) (h1 : c.data.toList[p + 1]? = some a) (h2 : c.data.toList[p + 2]? = some b) {k : Int} (hk : Reader.signed 16 (a.toNat * 256 + b.toNat) = k) : decode c p = .ok (.if_icmp .ne k, 3) := dc_top (by
  have e1 := dc_rd h
  show Except.bind ((Reader.u1 : Decoder Nat) c p) _ = _
  rw [e1]
  subst hk
  show Except.bind ((Reader.s2 : Decoder Int) c (p + 1)) _ = _
  rw [dc_s2 h1 h2]
  rfl)
theorem dc_if_icmp_gt (h : c.data.toList[p]? = some 163) (h1 : c.data.toList[p + 1]? = some a) (h2 : c.data.toList[p + 2]? = some b) {k : Int} (hk : Reader.signed 16 (a.toNat * 256 + b.toNat) = k) : decode c p = .ok (.if_icmp .gt k, 3) := dc_top (by
  have e1 := dc_rd h
  show Except.bind ((Reader.u1 : Decoder Nat) c p) _ = _
  rw [e1]
  subst hk
  show Except.bind ((Reader.s2 : Decoder Int) c (p + 1)) _ = _
  rw [dc_s2 h1 h2]
  rfl)
theorem dc_goto (h : c.data.toList[p]? = some 167) (h1 : c.data.toList[p + 1]? = some a) (h2 : c.data.toList[p + 2]? = some b) {k : Int} (hk : Reader.signed 16 (a.toNat * 256 + b.toNat) = k) : decode c p = .ok (.goto k, 3) := dc_top (by
  have e1 := dc_rd h
  show Except.bind ((Reader.u1 : Decoder Nat) c p) _ = _
  rw [e1]
  subst hk
  show Except.bind ((Reader.s2 : Decoder Int) c (p + 1)) _ = _
  rw [dc_s2 h1 h2]
  rfl)
end DEC
