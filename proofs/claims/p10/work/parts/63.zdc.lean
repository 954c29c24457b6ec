/-! instructions by their bytes: a walk over a method's bytes in place of decoding each place anew -/
def k_by (code : ByteArray) (p n : Nat) : Prop := (Reader.u1 : Decoder Nat) code p = .ok (n, p + 1)
def k_bys (code : ByteArray) (p : Nat) : List Nat → Prop
  | [] => True
  | n :: l => k_by code p n ∧ k_bys code (p + 1) l
theorem k_by_of {code : ByteArray} {p : Nat} {b : UInt8} (h : code.data.toList[p]? = some b) : k_by code p b.toNat := by
  obtain ⟨hp, hb⟩ := List.getElem?_eq_some_iff.mp h
  have hs : p < code.size := by
    show p < code.data.size
    rw [← Array.length_toList]
    exact hp
  have hg : code[p] = b := by
    show code.data[p] = b
    rw [← Array.getElem_toList]
    exact hb
  show (if h : p < code.size then (do set (p + 1); pure code[p].toNat : Decoder Nat) else (throw (HasTruncated.truncated p) : Decoder Nat)) code p = _
  rw [dif_pos hs, hg]
  rfl
section DC
variable {code : ByteArray} {p a b : Nat}
theorem k_u2 (h1 : k_by code p a) (h2 : k_by code (p + 1) b) : (Reader.u2 : Decoder Nat) code p = .ok (a * 256 + b, p + 1 + 1) := by
  show Except.bind ((Reader.u1 : Decoder Nat) code p) _ = _
  rw [show (Reader.u1 : Decoder Nat) code p = .ok (a, p + 1) from h1]
  show Except.bind ((Reader.u1 : Decoder Nat) code (p + 1)) _ = _
  rw [show (Reader.u1 : Decoder Nat) code (p + 1) = .ok (b, p + 1 + 1) from h2]
  rfl
theorem k_s1 (h1 : k_by code p a) : (Reader.s1 : Decoder Int) code p = .ok (Reader.signed 8 a, p + 1) := by
  show Except.bind ((Reader.u1 : Decoder Nat) code p) _ = _
  rw [show (Reader.u1 : Decoder Nat) code p = .ok (a, p + 1) from h1]
  rfl
theorem k_s2 (h1 : k_by code p a) (h2 : k_by code (p + 1) b) : (Reader.s2 : Decoder Int) code p = .ok (Reader.signed 16 (a * 256 + b), p + 1 + 1) := by
  show Except.bind ((Reader.u2 : Decoder Nat) code p) _ = _
  rw [k_u2 h1 h2]
  rfl
theorem k_de {ins : Instr} {n : Nat} (h : Decoder.instr p code p = .ok (ins, p + n)) : decode code p = .ok (ins, n) := by
  show Except.bind (Decoder.instr p code p) _ = _
  rw [h]
  show Except.ok (ins, p + n - p) = _
  rw [Nat.add_sub_cancel_left]
theorem k_w2 {f : Nat → Instr} {i n : Nat} (h : decode code p = .ok (f (i / 256 * 256 + i % 256), n)) : decode code p = .ok (f i, n) := by
  rw [Nat.div_add_mod'] at h
  exact h
theorem k_s8 {v : Int} (h1 : -128 ≤ v) (h2 : v < 128) : Reader.signed 8 (v % 256).toNat = v := by
  unfold Reader.signed
  split <;> omega
theorem k_s16 {v : Int} (h1 : -32768 ≤ v) (h2 : v < 32768) : Reader.signed 16 ((v % 65536).toNat / 256 * 256 + (v % 65536).toNat % 256) = v := by
  rw [Nat.div_add_mod']
  unfold Reader.signed
  split <;> omega
theorem k_op0 (h : k_by code p 0) : Decoder.instr p code p = .ok (.nop, p + 1) := by
  show Except.bind ((Reader.u1 : Decoder Nat) code p) _ = _
  rw [show (Reader.u1 : Decoder Nat) code p = .ok (0, p + 1) from h]
  rfl
theorem k_op1 (h : k_by code p 1) : Decoder.instr p code p = .ok (.aconst_null, p + 1) := by
  show Except.bind ((Reader.u1 : Decoder Nat) code p) _ = _
  rw [show (Reader.u1 : Decoder Nat) code p = .ok (1, p + 1) from h]
  rfl
theorem k_op46 (h : k_by code p 46) : Decoder.instr p code p = .ok (.iaload, p + 1) := by
  show Except.bind ((Reader.u1 : Decoder Nat) code p) _ = _
  rw [show (Reader.u1 : Decoder Nat) code p = .ok (46, p + 1) from h]
  rfl
theorem k_op47 (h : k_by code p 47) : Decoder.instr p code p = .ok (.laload, p + 1) := by
  show Except.bind ((Reader.u1 : Decoder Nat) code p) _ = _
  rw [show (Reader.u1 : Decoder Nat) code p = .ok (47, p + 1) from h]
  rfl
theorem k_op50 (h : k_by code p 50) : Decoder.instr p code p = .ok (.aaload, p + 1) := by
  show Except.bind ((Reader.u1 : Decoder Nat) code p) _ = _
  rw [show (Reader.u1 : Decoder Nat) code p = .ok (50, p + 1) from h]
  rfl
theorem k_op51 (h : k_by code p 51) : Decoder.instr p code p = .ok (.baload, p + 1) := by
  show Except.bind ((Reader.u1 : Decoder Nat) code p) _ = _
  rw [show (Reader.u1 : Decoder Nat) code p = .ok (51, p + 1) from h]
  rfl
theorem k_op53 (h : k_by code p 53) : Decoder.instr p code p = .ok (.saload, p + 1) := by
  show Except.bind ((Reader.u1 : Decoder Nat) code p) _ = _
  rw [show (Reader.u1 : Decoder Nat) code p = .ok (53, p + 1) from h]
  rfl
theorem k_op79 (h : k_by code p 79) : Decoder.instr p code p = .ok (.iastore, p + 1) := by
  show Except.bind ((Reader.u1 : Decoder Nat) code p) _ = _
  rw [show (Reader.u1 : Decoder Nat) code p = .ok (79, p + 1) from h]
  rfl
theorem k_op80 (h : k_by code p 80) : Decoder.instr p code p = .ok (.lastore, p + 1) := by
  show Except.bind ((Reader.u1 : Decoder Nat) code p) _ = _
  rw [show (Reader.u1 : Decoder Nat) code p = .ok (80, p + 1) from h]
  rfl
theorem k_op83 (h : k_by code p 83) : Decoder.instr p code p = .ok (.aastore, p + 1) := by
  show Except.bind ((Reader.u1 : Decoder Nat) code p) _ = _
  rw [show (Reader.u1 : Decoder Nat) code p = .ok (83, p + 1) from h]
  rfl
theorem k_op84 (h : k_by code p 84) : Decoder.instr p code p = .ok (.bastore, p + 1) := by
  show Except.bind ((Reader.u1 : Decoder Nat) code p) _ = _
  rw [show (Reader.u1 : Decoder Nat) code p = .ok (84, p + 1) from h]
  rfl
theorem k_op86 (h : k_by code p 86) : Decoder.instr p code p = .ok (.sastore, p + 1) := by
  show Except.bind ((Reader.u1 : Decoder Nat) code p) _ = _
  rw [show (Reader.u1 : Decoder Nat) code p = .ok (86, p + 1) from h]
  rfl
theorem k_op87 (h : k_by code p 87) : Decoder.instr p code p = .ok (.pop, p + 1) := by
  show Except.bind ((Reader.u1 : Decoder Nat) code p) _ = _
  rw [show (Reader.u1 : Decoder Nat) code p = .ok (87, p + 1) from h]
  rfl
theorem k_op88 (h : k_by code p 88) : Decoder.instr p code p = .ok (.pop2, p + 1) := by
  show Except.bind ((Reader.u1 : Decoder Nat) code p) _ = _
  rw [show (Reader.u1 : Decoder Nat) code p = .ok (88, p + 1) from h]
  rfl
theorem k_op89 (h : k_by code p 89) : Decoder.instr p code p = .ok (.dup, p + 1) := by
  show Except.bind ((Reader.u1 : Decoder Nat) code p) _ = _
  rw [show (Reader.u1 : Decoder Nat) code p = .ok (89, p + 1) from h]
  rfl
theorem k_op92 (h : k_by code p 92) : Decoder.instr p code p = .ok (.dup2, p + 1) := by
  show Except.bind ((Reader.u1 : Decoder Nat) code p) _ = _
  rw [show (Reader.u1 : Decoder Nat) code p = .ok (92, p + 1) from h]
  rfl
theorem k_op96 (h : k_by code p 96) : Decoder.instr p code p = .ok (.iadd, p + 1) := by
  show Except.bind ((Reader.u1 : Decoder Nat) code p) _ = _
  rw [show (Reader.u1 : Decoder Nat) code p = .ok (96, p + 1) from h]
  rfl
theorem k_op97 (h : k_by code p 97) : Decoder.instr p code p = .ok (.ladd, p + 1) := by
  show Except.bind ((Reader.u1 : Decoder Nat) code p) _ = _
  rw [show (Reader.u1 : Decoder Nat) code p = .ok (97, p + 1) from h]
  rfl
theorem k_op100 (h : k_by code p 100) : Decoder.instr p code p = .ok (.isub, p + 1) := by
  show Except.bind ((Reader.u1 : Decoder Nat) code p) _ = _
  rw [show (Reader.u1 : Decoder Nat) code p = .ok (100, p + 1) from h]
  rfl
theorem k_op101 (h : k_by code p 101) : Decoder.instr p code p = .ok (.lsub, p + 1) := by
  show Except.bind ((Reader.u1 : Decoder Nat) code p) _ = _
  rw [show (Reader.u1 : Decoder Nat) code p = .ok (101, p + 1) from h]
  rfl
theorem k_op104 (h : k_by code p 104) : Decoder.instr p code p = .ok (.imul, p + 1) := by
  show Except.bind ((Reader.u1 : Decoder Nat) code p) _ = _
  rw [show (Reader.u1 : Decoder Nat) code p = .ok (104, p + 1) from h]
  rfl
theorem k_op105 (h : k_by code p 105) : Decoder.instr p code p = .ok (.lmul, p + 1) := by
  show Except.bind ((Reader.u1 : Decoder Nat) code p) _ = _
  rw [show (Reader.u1 : Decoder Nat) code p = .ok (105, p + 1) from h]
  rfl
theorem k_op108 (h : k_by code p 108) : Decoder.instr p code p = .ok (.idiv, p + 1) := by
  show Except.bind ((Reader.u1 : Decoder Nat) code p) _ = _
  rw [show (Reader.u1 : Decoder Nat) code p = .ok (108, p + 1) from h]
  rfl
theorem k_op109 (h : k_by code p 109) : Decoder.instr p code p = .ok (.ldiv, p + 1) := by
  show Except.bind ((Reader.u1 : Decoder Nat) code p) _ = _
  rw [show (Reader.u1 : Decoder Nat) code p = .ok (109, p + 1) from h]
  rfl
theorem k_op112 (h : k_by code p 112) : Decoder.instr p code p = .ok (.irem, p + 1) := by
  show Except.bind ((Reader.u1 : Decoder Nat) code p) _ = _
  rw [show (Reader.u1 : Decoder Nat) code p = .ok (112, p + 1) from h]
  rfl
theorem k_op113 (h : k_by code p 113) : Decoder.instr p code p = .ok (.lrem, p + 1) := by
  show Except.bind ((Reader.u1 : Decoder Nat) code p) _ = _
  rw [show (Reader.u1 : Decoder Nat) code p = .ok (113, p + 1) from h]
  rfl
theorem k_op116 (h : k_by code p 116) : Decoder.instr p code p = .ok (.ineg, p + 1) := by
  show Except.bind ((Reader.u1 : Decoder Nat) code p) _ = _
  rw [show (Reader.u1 : Decoder Nat) code p = .ok (116, p + 1) from h]
  rfl
theorem k_op117 (h : k_by code p 117) : Decoder.instr p code p = .ok (.lneg, p + 1) := by
  show Except.bind ((Reader.u1 : Decoder Nat) code p) _ = _
  rw [show (Reader.u1 : Decoder Nat) code p = .ok (117, p + 1) from h]
  rfl
theorem k_op120 (h : k_by code p 120) : Decoder.instr p code p = .ok (.ishl, p + 1) := by
  show Except.bind ((Reader.u1 : Decoder Nat) code p) _ = _
  rw [show (Reader.u1 : Decoder Nat) code p = .ok (120, p + 1) from h]
  rfl
theorem k_op121 (h : k_by code p 121) : Decoder.instr p code p = .ok (.lshl, p + 1) := by
  show Except.bind ((Reader.u1 : Decoder Nat) code p) _ = _
  rw [show (Reader.u1 : Decoder Nat) code p = .ok (121, p + 1) from h]
  rfl
theorem k_op122 (h : k_by code p 122) : Decoder.instr p code p = .ok (.ishr, p + 1) := by
  show Except.bind ((Reader.u1 : Decoder Nat) code p) _ = _
  rw [show (Reader.u1 : Decoder Nat) code p = .ok (122, p + 1) from h]
  rfl
theorem k_op126 (h : k_by code p 126) : Decoder.instr p code p = .ok (.iand, p + 1) := by
  show Except.bind ((Reader.u1 : Decoder Nat) code p) _ = _
  rw [show (Reader.u1 : Decoder Nat) code p = .ok (126, p + 1) from h]
  rfl
theorem k_op127 (h : k_by code p 127) : Decoder.instr p code p = .ok (.land, p + 1) := by
  show Except.bind ((Reader.u1 : Decoder Nat) code p) _ = _
  rw [show (Reader.u1 : Decoder Nat) code p = .ok (127, p + 1) from h]
  rfl
theorem k_op128 (h : k_by code p 128) : Decoder.instr p code p = .ok (.ior, p + 1) := by
  show Except.bind ((Reader.u1 : Decoder Nat) code p) _ = _
  rw [show (Reader.u1 : Decoder Nat) code p = .ok (128, p + 1) from h]
  rfl
theorem k_op129 (h : k_by code p 129) : Decoder.instr p code p = .ok (.lor, p + 1) := by
  show Except.bind ((Reader.u1 : Decoder Nat) code p) _ = _
  rw [show (Reader.u1 : Decoder Nat) code p = .ok (129, p + 1) from h]
  rfl
theorem k_op130 (h : k_by code p 130) : Decoder.instr p code p = .ok (.ixor, p + 1) := by
  show Except.bind ((Reader.u1 : Decoder Nat) code p) _ = _
  rw [show (Reader.u1 : Decoder Nat) code p = .ok (130, p + 1) from h]
  rfl
theorem k_op131 (h : k_by code p 131) : Decoder.instr p code p = .ok (.lxor, p + 1) := by
  show Except.bind ((Reader.u1 : Decoder Nat) code p) _ = _
  rw [show (Reader.u1 : Decoder Nat) code p = .ok (131, p + 1) from h]
  rfl
theorem k_op133 (h : k_by code p 133) : Decoder.instr p code p = .ok (.i2l, p + 1) := by
  show Except.bind ((Reader.u1 : Decoder Nat) code p) _ = _
  rw [show (Reader.u1 : Decoder Nat) code p = .ok (133, p + 1) from h]
  rfl
theorem k_op136 (h : k_by code p 136) : Decoder.instr p code p = .ok (.l2i, p + 1) := by
  show Except.bind ((Reader.u1 : Decoder Nat) code p) _ = _
  rw [show (Reader.u1 : Decoder Nat) code p = .ok (136, p + 1) from h]
  rfl
theorem k_op145 (h : k_by code p 145) : Decoder.instr p code p = .ok (.i2b, p + 1) := by
  show Except.bind ((Reader.u1 : Decoder Nat) code p) _ = _
  rw [show (Reader.u1 : Decoder Nat) code p = .ok (145, p + 1) from h]
  rfl
theorem k_op146 (h : k_by code p 146) : Decoder.instr p code p = .ok (.i2c, p + 1) := by
  show Except.bind ((Reader.u1 : Decoder Nat) code p) _ = _
  rw [show (Reader.u1 : Decoder Nat) code p = .ok (146, p + 1) from h]
  rfl
theorem k_op147 (h : k_by code p 147) : Decoder.instr p code p = .ok (.i2s, p + 1) := by
  show Except.bind ((Reader.u1 : Decoder Nat) code p) _ = _
  rw [show (Reader.u1 : Decoder Nat) code p = .ok (147, p + 1) from h]
  rfl
theorem k_op148 (h : k_by code p 148) : Decoder.instr p code p = .ok (.lcmp, p + 1) := by
  show Except.bind ((Reader.u1 : Decoder Nat) code p) _ = _
  rw [show (Reader.u1 : Decoder Nat) code p = .ok (148, p + 1) from h]
  rfl
theorem k_op172 (h : k_by code p 172) : Decoder.instr p code p = .ok (.ireturn, p + 1) := by
  show Except.bind ((Reader.u1 : Decoder Nat) code p) _ = _
  rw [show (Reader.u1 : Decoder Nat) code p = .ok (172, p + 1) from h]
  rfl
theorem k_op173 (h : k_by code p 173) : Decoder.instr p code p = .ok (.lreturn, p + 1) := by
  show Except.bind ((Reader.u1 : Decoder Nat) code p) _ = _
  rw [show (Reader.u1 : Decoder Nat) code p = .ok (173, p + 1) from h]
  rfl
theorem k_op176 (h : k_by code p 176) : Decoder.instr p code p = .ok (.areturn, p + 1) := by
  show Except.bind ((Reader.u1 : Decoder Nat) code p) _ = _
  rw [show (Reader.u1 : Decoder Nat) code p = .ok (176, p + 1) from h]
  rfl
theorem k_op177 (h : k_by code p 177) : Decoder.instr p code p = .ok (.return_, p + 1) := by
  show Except.bind ((Reader.u1 : Decoder Nat) code p) _ = _
  rw [show (Reader.u1 : Decoder Nat) code p = .ok (177, p + 1) from h]
  rfl
theorem k_op190 (h : k_by code p 190) : Decoder.instr p code p = .ok (.arraylength, p + 1) := by
  show Except.bind ((Reader.u1 : Decoder Nat) code p) _ = _
  rw [show (Reader.u1 : Decoder Nat) code p = .ok (190, p + 1) from h]
  rfl
theorem k_op191 (h : k_by code p 191) : Decoder.instr p code p = .ok (.athrow, p + 1) := by
  show Except.bind ((Reader.u1 : Decoder Nat) code p) _ = _
  rw [show (Reader.u1 : Decoder Nat) code p = .ok (191, p + 1) from h]
  rfl
theorem k_op26 (h : k_by code p 26) : Decoder.instr p code p = .ok (.iload_n 0, p + 1) := by
  show Except.bind ((Reader.u1 : Decoder Nat) code p) _ = _
  rw [show (Reader.u1 : Decoder Nat) code p = .ok (26, p + 1) from h]
  rfl
theorem k_op27 (h : k_by code p 27) : Decoder.instr p code p = .ok (.iload_n 1, p + 1) := by
  show Except.bind ((Reader.u1 : Decoder Nat) code p) _ = _
  rw [show (Reader.u1 : Decoder Nat) code p = .ok (27, p + 1) from h]
  rfl
theorem k_op28 (h : k_by code p 28) : Decoder.instr p code p = .ok (.iload_n 2, p + 1) := by
  show Except.bind ((Reader.u1 : Decoder Nat) code p) _ = _
  rw [show (Reader.u1 : Decoder Nat) code p = .ok (28, p + 1) from h]
  rfl
theorem k_op29 (h : k_by code p 29) : Decoder.instr p code p = .ok (.iload_n 3, p + 1) := by
  show Except.bind ((Reader.u1 : Decoder Nat) code p) _ = _
  rw [show (Reader.u1 : Decoder Nat) code p = .ok (29, p + 1) from h]
  rfl
theorem k_op30 (h : k_by code p 30) : Decoder.instr p code p = .ok (.lload_n 0, p + 1) := by
  show Except.bind ((Reader.u1 : Decoder Nat) code p) _ = _
  rw [show (Reader.u1 : Decoder Nat) code p = .ok (30, p + 1) from h]
  rfl
theorem k_op31 (h : k_by code p 31) : Decoder.instr p code p = .ok (.lload_n 1, p + 1) := by
  show Except.bind ((Reader.u1 : Decoder Nat) code p) _ = _
  rw [show (Reader.u1 : Decoder Nat) code p = .ok (31, p + 1) from h]
  rfl
theorem k_op32 (h : k_by code p 32) : Decoder.instr p code p = .ok (.lload_n 2, p + 1) := by
  show Except.bind ((Reader.u1 : Decoder Nat) code p) _ = _
  rw [show (Reader.u1 : Decoder Nat) code p = .ok (32, p + 1) from h]
  rfl
theorem k_op33 (h : k_by code p 33) : Decoder.instr p code p = .ok (.lload_n 3, p + 1) := by
  show Except.bind ((Reader.u1 : Decoder Nat) code p) _ = _
  rw [show (Reader.u1 : Decoder Nat) code p = .ok (33, p + 1) from h]
  rfl
theorem k_op42 (h : k_by code p 42) : Decoder.instr p code p = .ok (.aload_n 0, p + 1) := by
  show Except.bind ((Reader.u1 : Decoder Nat) code p) _ = _
  rw [show (Reader.u1 : Decoder Nat) code p = .ok (42, p + 1) from h]
  rfl
theorem k_op43 (h : k_by code p 43) : Decoder.instr p code p = .ok (.aload_n 1, p + 1) := by
  show Except.bind ((Reader.u1 : Decoder Nat) code p) _ = _
  rw [show (Reader.u1 : Decoder Nat) code p = .ok (43, p + 1) from h]
  rfl
theorem k_op44 (h : k_by code p 44) : Decoder.instr p code p = .ok (.aload_n 2, p + 1) := by
  show Except.bind ((Reader.u1 : Decoder Nat) code p) _ = _
  rw [show (Reader.u1 : Decoder Nat) code p = .ok (44, p + 1) from h]
  rfl
theorem k_op45 (h : k_by code p 45) : Decoder.instr p code p = .ok (.aload_n 3, p + 1) := by
  show Except.bind ((Reader.u1 : Decoder Nat) code p) _ = _
  rw [show (Reader.u1 : Decoder Nat) code p = .ok (45, p + 1) from h]
  rfl
theorem k_op59 (h : k_by code p 59) : Decoder.instr p code p = .ok (.istore_n 0, p + 1) := by
  show Except.bind ((Reader.u1 : Decoder Nat) code p) _ = _
  rw [show (Reader.u1 : Decoder Nat) code p = .ok (59, p + 1) from h]
  rfl
theorem k_op60 (h : k_by code p 60) : Decoder.instr p code p = .ok (.istore_n 1, p + 1) := by
  show Except.bind ((Reader.u1 : Decoder Nat) code p) _ = _
  rw [show (Reader.u1 : Decoder Nat) code p = .ok (60, p + 1) from h]
  rfl
theorem k_op61 (h : k_by code p 61) : Decoder.instr p code p = .ok (.istore_n 2, p + 1) := by
  show Except.bind ((Reader.u1 : Decoder Nat) code p) _ = _
  rw [show (Reader.u1 : Decoder Nat) code p = .ok (61, p + 1) from h]
  rfl
theorem k_op62 (h : k_by code p 62) : Decoder.instr p code p = .ok (.istore_n 3, p + 1) := by
  show Except.bind ((Reader.u1 : Decoder Nat) code p) _ = _
  rw [show (Reader.u1 : Decoder Nat) code p = .ok (62, p + 1) from h]
  rfl
theorem k_op63 (h : k_by code p 63) : Decoder.instr p code p = .ok (.lstore_n 0, p + 1) := by
  show Except.bind ((Reader.u1 : Decoder Nat) code p) _ = _
  rw [show (Reader.u1 : Decoder Nat) code p = .ok (63, p + 1) from h]
  rfl
theorem k_op64 (h : k_by code p 64) : Decoder.instr p code p = .ok (.lstore_n 1, p + 1) := by
  show Except.bind ((Reader.u1 : Decoder Nat) code p) _ = _
  rw [show (Reader.u1 : Decoder Nat) code p = .ok (64, p + 1) from h]
  rfl
theorem k_op65 (h : k_by code p 65) : Decoder.instr p code p = .ok (.lstore_n 2, p + 1) := by
  show Except.bind ((Reader.u1 : Decoder Nat) code p) _ = _
  rw [show (Reader.u1 : Decoder Nat) code p = .ok (65, p + 1) from h]
  rfl
theorem k_op66 (h : k_by code p 66) : Decoder.instr p code p = .ok (.lstore_n 3, p + 1) := by
  show Except.bind ((Reader.u1 : Decoder Nat) code p) _ = _
  rw [show (Reader.u1 : Decoder Nat) code p = .ok (66, p + 1) from h]
  rfl
theorem k_op75 (h : k_by code p 75) : Decoder.instr p code p = .ok (.astore_n 0, p + 1) := by
  show Except.bind ((Reader.u1 : Decoder Nat) code p) _ = _
  rw [show (Reader.u1 : Decoder Nat) code p = .ok (75, p + 1) from h]
  rfl
theorem k_op76 (h : k_by code p 76) : Decoder.instr p code p = .ok (.astore_n 1, p + 1) := by
  show Except.bind ((Reader.u1 : Decoder Nat) code p) _ = _
  rw [show (Reader.u1 : Decoder Nat) code p = .ok (76, p + 1) from h]
  rfl
theorem k_op77 (h : k_by code p 77) : Decoder.instr p code p = .ok (.astore_n 2, p + 1) := by
  show Except.bind ((Reader.u1 : Decoder Nat) code p) _ = _
  rw [show (Reader.u1 : Decoder Nat) code p = .ok (77, p + 1) from h]
  rfl
theorem k_op78 (h : k_by code p 78) : Decoder.instr p code p = .ok (.astore_n 3, p + 1) := by
  show Except.bind ((Reader.u1 : Decoder Nat) code p) _ = _
  rw [show (Reader.u1 : Decoder Nat) code p = .ok (78, p + 1) from h]
  rfl
theorem k_op9 (h : k_by code p 9) : Decoder.instr p code p = .ok (.lconst 0, p + 1) := by
  show Except.bind ((Reader.u1 : Decoder Nat) code p) _ = _
  rw [show (Reader.u1 : Decoder Nat) code p = .ok (9, p + 1) from h]
  rfl
theorem k_op10 (h : k_by code p 10) : Decoder.instr p code p = .ok (.lconst 1, p + 1) := by
  show Except.bind ((Reader.u1 : Decoder Nat) code p) _ = _
  rw [show (Reader.u1 : Decoder Nat) code p = .ok (10, p + 1) from h]
  rfl
theorem k_op2 (h : k_by code p 2) : Decoder.instr p code p = .ok (.iconst (-1), p + 1) := by
  show Except.bind ((Reader.u1 : Decoder Nat) code p) _ = _
  rw [show (Reader.u1 : Decoder Nat) code p = .ok (2, p + 1) from h]
  rfl
theorem k_op3 (h : k_by code p 3) : Decoder.instr p code p = .ok (.iconst (0), p + 1) := by
  show Except.bind ((Reader.u1 : Decoder Nat) code p) _ = _
  rw [show (Reader.u1 : Decoder Nat) code p = .ok (3, p + 1) from h]
  rfl
theorem k_op4 (h : k_by code p 4) : Decoder.instr p code p = .ok (.iconst (1), p + 1) := by
  show Except.bind ((Reader.u1 : Decoder Nat) code p) _ = _
  rw [show (Reader.u1 : Decoder Nat) code p = .ok (4, p + 1) from h]
  rfl
theorem k_op5 (h : k_by code p 5) : Decoder.instr p code p = .ok (.iconst (2), p + 1) := by
  show Except.bind ((Reader.u1 : Decoder Nat) code p) _ = _
  rw [show (Reader.u1 : Decoder Nat) code p = .ok (5, p + 1) from h]
  rfl
theorem k_op6 (h : k_by code p 6) : Decoder.instr p code p = .ok (.iconst (3), p + 1) := by
  show Except.bind ((Reader.u1 : Decoder Nat) code p) _ = _
  rw [show (Reader.u1 : Decoder Nat) code p = .ok (6, p + 1) from h]
  rfl
theorem k_op7 (h : k_by code p 7) : Decoder.instr p code p = .ok (.iconst (4), p + 1) := by
  show Except.bind ((Reader.u1 : Decoder Nat) code p) _ = _
  rw [show (Reader.u1 : Decoder Nat) code p = .ok (7, p + 1) from h]
  rfl
theorem k_op8 (h : k_by code p 8) : Decoder.instr p code p = .ok (.iconst (5), p + 1) := by
  show Except.bind ((Reader.u1 : Decoder Nat) code p) _ = _
  rw [show (Reader.u1 : Decoder Nat) code p = .ok (8, p + 1) from h]
  rfl
theorem k_op18 (h : k_by code p 18) (h1 : k_by code (p + 1) a) : Decoder.instr p code p = .ok (.ldc a, p + 2) := by
  show Except.bind ((Reader.u1 : Decoder Nat) code p) _ = _
  rw [show (Reader.u1 : Decoder Nat) code p = .ok (18, p + 1) from h]
  show Except.bind ((Reader.u1 : Decoder Nat) code (p + 1)) _ = _
  rw [show (Reader.u1 : Decoder Nat) code (p + 1) = .ok (a, p + 1 + 1) from h1]
  rfl
theorem k_op21 (h : k_by code p 21) (h1 : k_by code (p + 1) a) : Decoder.instr p code p = .ok (.iload a, p + 2) := by
  show Except.bind ((Reader.u1 : Decoder Nat) code p) _ = _
  rw [show (Reader.u1 : Decoder Nat) code p = .ok (21, p + 1) from h]
  show Except.bind ((Reader.u1 : Decoder Nat) code (p + 1)) _ = _
  rw [show (Reader.u1 : Decoder Nat) code (p + 1) = .ok (a, p + 1 + 1) from h1]
  rfl
theorem k_op22 (h : k_by code p 22) (h1 : k_by code (p + 1) a) : Decoder.instr p code p = .ok (.lload a, p + 2) := by
  show Except.bind ((Reader.u1 : Decoder Nat) code p) _ = _
  rw [show (Reader.u1 : Decoder Nat) code p = .ok (22, p + 1) from h]
  show Except.bind ((Reader.u1 : Decoder Nat) code (p + 1)) _ = _
  rw [show (Reader.u1 : Decoder Nat) code (p + 1) = .ok (a, p + 1 + 1) from h1]
  rfl
theorem k_op25 (h : k_by code p 25) (h1 : k_by code (p + 1) a) : Decoder.instr p code p = .ok (.aload a, p + 2) := by
  show Except.bind ((Reader.u1 : Decoder Nat) code p) _ = _
  rw [show (Reader.u1 : Decoder Nat) code p = .ok (25, p + 1) from h]
  show Except.bind ((Reader.u1 : Decoder Nat) code (p + 1)) _ = _
  rw [show (Reader.u1 : Decoder Nat) code (p + 1) = .ok (a, p + 1 + 1) from h1]
  rfl
theorem k_op54 (h : k_by code p 54) (h1 : k_by code (p + 1) a) : Decoder.instr p code p = .ok (.istore a, p + 2) := by
  show Except.bind ((Reader.u1 : Decoder Nat) code p) _ = _
  rw [show (Reader.u1 : Decoder Nat) code p = .ok (54, p + 1) from h]
  show Except.bind ((Reader.u1 : Decoder Nat) code (p + 1)) _ = _
  rw [show (Reader.u1 : Decoder Nat) code (p + 1) = .ok (a, p + 1 + 1) from h1]
  rfl
theorem k_op55 (h : k_by code p 55) (h1 : k_by code (p + 1) a) : Decoder.instr p code p = .ok (.lstore a, p + 2) := by
  show Except.bind ((Reader.u1 : Decoder Nat) code p) _ = _
  rw [show (Reader.u1 : Decoder Nat) code p = .ok (55, p + 1) from h]
  show Except.bind ((Reader.u1 : Decoder Nat) code (p + 1)) _ = _
  rw [show (Reader.u1 : Decoder Nat) code (p + 1) = .ok (a, p + 1 + 1) from h1]
  rfl
theorem k_op58 (h : k_by code p 58) (h1 : k_by code (p + 1) a) : Decoder.instr p code p = .ok (.astore a, p + 2) := by
  show Except.bind ((Reader.u1 : Decoder Nat) code p) _ = _
  rw [show (Reader.u1 : Decoder Nat) code p = .ok (58, p + 1) from h]
  show Except.bind ((Reader.u1 : Decoder Nat) code (p + 1)) _ = _
  rw [show (Reader.u1 : Decoder Nat) code (p + 1) = .ok (a, p + 1 + 1) from h1]
  rfl
theorem k_op16 (h : k_by code p 16) (h1 : k_by code (p + 1) a) : Decoder.instr p code p = .ok (.bipush (Reader.signed 8 a), p + 2) := by
  show Except.bind ((Reader.u1 : Decoder Nat) code p) _ = _
  rw [show (Reader.u1 : Decoder Nat) code p = .ok (16, p + 1) from h]
  show Except.bind ((Reader.s1 : Decoder Int) code (p + 1)) _ = _
  rw [k_s1 h1]
  rfl
theorem k_op19 (h : k_by code p 19) (h1 : k_by code (p + 1) a) (h2 : k_by code (p + 1 + 1) b) : Decoder.instr p code p = .ok (.ldc_w (a * 256 + b), p + 3) := by
  show Except.bind ((Reader.u1 : Decoder Nat) code p) _ = _
  rw [show (Reader.u1 : Decoder Nat) code p = .ok (19, p + 1) from h]
  show Except.bind ((Reader.u2 : Decoder Nat) code (p + 1)) _ = _
  rw [k_u2 h1 h2]
  rfl
theorem k_op20 (h : k_by code p 20) (h1 : k_by code (p + 1) a) (h2 : k_by code (p + 1 + 1) b) : Decoder.instr p code p = .ok (.ldc2_w (a * 256 + b), p + 3) := by
  show Except.bind ((Reader.u1 : Decoder Nat) code p) _ = _
  rw [show (Reader.u1 : Decoder Nat) code p = .ok (20, p + 1) from h]
  show Except.bind ((Reader.u2 : Decoder Nat) code (p + 1)) _ = _
  rw [k_u2 h1 h2]
  rfl
theorem k_op178 (h : k_by code p 178) (h1 : k_by code (p + 1) a) (h2 : k_by code (p + 1 + 1) b) : Decoder.instr p code p = .ok (.getstatic (a * 256 + b), p + 3) := by
  show Except.bind ((Reader.u1 : Decoder Nat) code p) _ = _
  rw [show (Reader.u1 : Decoder Nat) code p = .ok (178, p + 1) from h]
  show Except.bind ((Reader.u2 : Decoder Nat) code (p + 1)) _ = _
  rw [k_u2 h1 h2]
  rfl
theorem k_op179 (h : k_by code p 179) (h1 : k_by code (p + 1) a) (h2 : k_by code (p + 1 + 1) b) : Decoder.instr p code p = .ok (.putstatic (a * 256 + b), p + 3) := by
  show Except.bind ((Reader.u1 : Decoder Nat) code p) _ = _
  rw [show (Reader.u1 : Decoder Nat) code p = .ok (179, p + 1) from h]
  show Except.bind ((Reader.u2 : Decoder Nat) code (p + 1)) _ = _
  rw [k_u2 h1 h2]
  rfl
theorem k_op180 (h : k_by code p 180) (h1 : k_by code (p + 1) a) (h2 : k_by code (p + 1 + 1) b) : Decoder.instr p code p = .ok (.getfield (a * 256 + b), p + 3) := by
  show Except.bind ((Reader.u1 : Decoder Nat) code p) _ = _
  rw [show (Reader.u1 : Decoder Nat) code p = .ok (180, p + 1) from h]
  show Except.bind ((Reader.u2 : Decoder Nat) code (p + 1)) _ = _
  rw [k_u2 h1 h2]
  rfl
theorem k_op181 (h : k_by code p 181) (h1 : k_by code (p + 1) a) (h2 : k_by code (p + 1 + 1) b) : Decoder.instr p code p = .ok (.putfield (a * 256 + b), p + 3) := by
  show Except.bind ((Reader.u1 : Decoder Nat) code p) _ = _
  rw [show (Reader.u1 : Decoder Nat) code p = .ok (181, p + 1) from h]
  show Except.bind ((Reader.u2 : Decoder Nat) code (p + 1)) _ = _
  rw [k_u2 h1 h2]
  rfl
theorem k_op182 (h : k_by code p 182) (h1 : k_by code (p + 1) a) (h2 : k_by code (p + 1 + 1) b) : Decoder.instr p code p = .ok (.invokevirtual (a * 256 + b), p + 3) := by
  show Except.bind ((Reader.u1 : Decoder Nat) code p) _ = _
  rw [show (Reader.u1 : Decoder Nat) code p = .ok (182, p + 1) from h]
  show Except.bind ((Reader.u2 : Decoder Nat) code (p + 1)) _ = _
  rw [k_u2 h1 h2]
  rfl
theorem k_op183 (h : k_by code p 183) (h1 : k_by code (p + 1) a) (h2 : k_by code (p + 1 + 1) b) : Decoder.instr p code p = .ok (.invokespecial (a * 256 + b), p + 3) := by
  show Except.bind ((Reader.u1 : Decoder Nat) code p) _ = _
  rw [show (Reader.u1 : Decoder Nat) code p = .ok (183, p + 1) from h]
  show Except.bind ((Reader.u2 : Decoder Nat) code (p + 1)) _ = _
  rw [k_u2 h1 h2]
  rfl
theorem k_op184 (h : k_by code p 184) (h1 : k_by code (p + 1) a) (h2 : k_by code (p + 1 + 1) b) : Decoder.instr p code p = .ok (.invokestatic (a * 256 + b), p + 3) := by
  show Except.bind ((Reader.u1 : Decoder Nat) code p) _ = _
  rw [show (Reader.u1 : Decoder Nat) code p = .ok (184, p + 1) from h]
  show Except.bind ((Reader.u2 : Decoder Nat) code (p + 1)) _ = _
  rw [k_u2 h1 h2]
  rfl
theorem k_op187 (h : k_by code p 187) (h1 : k_by code (p + 1) a) (h2 : k_by code (p + 1 + 1) b) : Decoder.instr p code p = .ok (.new (a * 256 + b), p + 3) := by
  show Except.bind ((Reader.u1 : Decoder Nat) code p) _ = _
  rw [show (Reader.u1 : Decoder Nat) code p = .ok (187, p + 1) from h]
  show Except.bind ((Reader.u2 : Decoder Nat) code (p + 1)) _ = _
  rw [k_u2 h1 h2]
  rfl
theorem k_op189 (h : k_by code p 189) (h1 : k_by code (p + 1) a) (h2 : k_by code (p + 1 + 1) b) : Decoder.instr p code p = .ok (.anewarray (a * 256 + b), p + 3) := by
  show Except.bind ((Reader.u1 : Decoder Nat) code p) _ = _
  rw [show (Reader.u1 : Decoder Nat) code p = .ok (189, p + 1) from h]
  show Except.bind ((Reader.u2 : Decoder Nat) code (p + 1)) _ = _
  rw [k_u2 h1 h2]
  rfl
theorem k_op17 (h : k_by code p 17) (h1 : k_by code (p + 1) a) (h2 : k_by code (p + 1 + 1) b) : Decoder.instr p code p = .ok (.sipush (Reader.signed 16 (a * 256 + b)), p + 3) := by
  show Except.bind ((Reader.u1 : Decoder Nat) code p) _ = _
  rw [show (Reader.u1 : Decoder Nat) code p = .ok (17, p + 1) from h]
  show Except.bind ((Reader.s2 : Decoder Int) code (p + 1)) _ = _
  rw [k_s2 h1 h2]
  rfl
theorem k_op167 (h : k_by code p 167) (h1 : k_by code (p + 1) a) (h2 : k_by code (p + 1 + 1) b) : Decoder.instr p code p = .ok (.goto (Reader.signed 16 (a * 256 + b)), p + 3) := by
  show Except.bind ((Reader.u1 : Decoder Nat) code p) _ = _
  rw [show (Reader.u1 : Decoder Nat) code p = .ok (167, p + 1) from h]
  show Except.bind ((Reader.s2 : Decoder Int) code (p + 1)) _ = _
  rw [k_s2 h1 h2]
  rfl
theorem k_op198 (h : k_by code p 198) (h1 : k_by code (p + 1) a) (h2 : k_by code (p + 1 + 1) b) : Decoder.instr p code p = .ok (.ifnull (Reader.signed 16 (a * 256 + b)), p + 3) := by
  show Except.bind ((Reader.u1 : Decoder Nat) code p) _ = _
  rw [show (Reader.u1 : Decoder Nat) code p = .ok (198, p + 1) from h]
  show Except.bind ((Reader.s2 : Decoder Int) code (p + 1)) _ = _
  rw [k_s2 h1 h2]
  rfl
theorem k_op199 (h : k_by code p 199) (h1 : k_by code (p + 1) a) (h2 : k_by code (p + 1 + 1) b) : Decoder.instr p code p = .ok (.ifnonnull (Reader.signed 16 (a * 256 + b)), p + 3) := by
  show Except.bind ((Reader.u1 : Decoder Nat) code p) _ = _
  rw [show (Reader.u1 : Decoder Nat) code p = .ok (199, p + 1) from h]
  show Except.bind ((Reader.s2 : Decoder Int) code (p + 1)) _ = _
  rw [k_s2 h1 h2]
  rfl
theorem k_op153 (h : k_by code p 153) (h1 : k_by code (p + 1) a) (h2 : k_by code (p + 1 + 1) b) : Decoder.instr p code p = .ok (.ifCond .eq (Reader.signed 16 (a * 256 + b)), p + 3) := by
  show Except.bind ((Reader.u1 : Decoder Nat) code p) _ = _
  rw [show (Reader.u1 : Decoder Nat) code p = .ok (153, p + 1) from h]
  show Except.bind ((Reader.s2 : Decoder Int) code (p + 1)) _ = _
  rw [k_s2 h1 h2]
  rfl
theorem k_op154 (h : k_by code p 154) (h1 : k_by code (p + 1) a) (h2 : k_by code (p + 1 + 1) b) : Decoder.instr p code p = .ok (.ifCond .ne (Reader.signed 16 (a * 256 + b)), p + 3) := by
  show Except.bind ((Reader.u1 : Decoder Nat) code p) _ = _
  rw [show (Reader.u1 : Decoder Nat) code p = .ok (154, p + 1) from h]
  show Except.bind ((Reader.s2 : Decoder Int) code (p + 1)) _ = _
  rw [k_s2 h1 h2]
  rfl
theorem k_op155 (h : k_by code p 155) (h1 : k_by code (p + 1) a) (h2 : k_by code (p + 1 + 1) b) : Decoder.instr p code p = .ok (.ifCond .lt (Reader.signed 16 (a * 256 + b)), p + 3) := by
  show Except.bind ((Reader.u1 : Decoder Nat) code p) _ = _
  rw [show (Reader.u1 : Decoder Nat) code p = .ok (155, p + 1) from h]
  show Except.bind ((Reader.s2 : Decoder Int) code (p + 1)) _ = _
  rw [k_s2 h1 h2]
  rfl
theorem k_op156 (h : k_by code p 156) (h1 : k_by code (p + 1) a) (h2 : k_by code (p + 1 + 1) b) : Decoder.instr p code p = .ok (.ifCond .ge (Reader.signed 16 (a * 256 + b)), p + 3) := by
  show Except.bind ((Reader.u1 : Decoder Nat) code p) _ = _
  rw [show (Reader.u1 : Decoder Nat) code p = .ok (156, p + 1) from h]
  show Except.bind ((Reader.s2 : Decoder Int) code (p + 1)) _ = _
  rw [k_s2 h1 h2]
  rfl
theorem k_op157 (h : k_by code p 157) (h1 : k_by code (p + 1) a) (h2 : k_by code (p + 1 + 1) b) : Decoder.instr p code p = .ok (.ifCond .gt (Reader.signed 16 (a * 256 + b)), p + 3) := by
  show Except.bind ((Reader.u1 : Decoder Nat) code p) _ = _
  rw [show (Reader.u1 : Decoder Nat) code p = .ok (157, p + 1) from h]
  show Except.bind ((Reader.s2 : Decoder Int) code (p + 1)) _ = _
  rw [k_s2 h1 h2]
  rfl
theorem k_op158 (h : k_by code p 158) (h1 : k_by code (p + 1) a) (h2 : k_by code (p + 1 + 1) b) : Decoder.instr p code p = .ok (.ifCond .le (Reader.signed 16 (a * 256 + b)), p + 3) := by
  show Except.bind ((Reader.u1 : Decoder Nat) code p) _ = _
  rw [show (Reader.u1 : Decoder Nat) code p = .ok (158, p + 1) from h]
  show Except.bind ((Reader.s2 : Decoder Int) code (p + 1)) _ = _
  rw [k_s2 h1 h2]
  rfl
theorem k_op159 (h : k_by code p 159) (h1 : k_by code (p + 1) a) (h2 : k_by code (p + 1 + 1) b) : Decoder.instr p code p = .ok (.if_icmp .eq (Reader.signed 16 (a * 256 + b)), p + 3) := by
  show Except.bind ((Reader.u1 : Decoder Nat) code p) _ = _
  rw [show (Reader.u1 : Decoder Nat) code p = .ok (159, p + 1) from h]
  show Except.bind ((Reader.s2 : Decoder Int) code (p + 1)) _ = _
  rw [k_s2 h1 h2]
  rfl
theorem k_op160 (h : k_by code p 160) (h1 : k_by code (p + 1) a) (h2 : k_by code (p + 1 + 1) b) : Decoder.instr p code p = .ok (.if_icmp .ne (Reader.signed 16 (a * 256 + b)), p + 3) := by
  show Except.bind ((Reader.u1 : Decoder Nat) code p) _ = _
  rw [show (Reader.u1 : Decoder Nat) code p = .ok (160, p + 1) from h]
  show Except.bind ((Reader.s2 : Decoder Int) code (p + 1)) _ = _
  rw [k_s2 h1 h2]
  rfl
theorem k_op161 (h : k_by code p 161) (h1 : k_by code (p + 1) a) (h2 : k_by code (p + 1 + 1) b) : Decoder.instr p code p = .ok (.if_icmp .lt (Reader.signed 16 (a * 256 + b)), p + 3) := by
  show Except.bind ((Reader.u1 : Decoder Nat) code p) _ = _
  rw [show (Reader.u1 : Decoder Nat) code p = .ok (161, p + 1) from h]
  show Except.bind ((Reader.s2 : Decoder Int) code (p + 1)) _ = _
  rw [k_s2 h1 h2]
  rfl
theorem k_op162 (h : k_by code p 162) (h1 : k_by code (p + 1) a) (h2 : k_by code (p + 1 + 1) b) : Decoder.instr p code p = .ok (.if_icmp .ge (Reader.signed 16 (a * 256 + b)), p + 3) := by
  show Except.bind ((Reader.u1 : Decoder Nat) code p) _ = _
  rw [show (Reader.u1 : Decoder Nat) code p = .ok (162, p + 1) from h]
  show Except.bind ((Reader.s2 : Decoder Int) code (p + 1)) _ = _
  rw [k_s2 h1 h2]
  rfl
theorem k_op163 (h : k_by code p 163) (h1 : k_by code (p + 1) a) (h2 : k_by code (p + 1 + 1) b) : Decoder.instr p code p = .ok (.if_icmp .gt (Reader.signed 16 (a * 256 + b)), p + 3) := by
  show Except.bind ((Reader.u1 : Decoder Nat) code p) _ = _
  rw [show (Reader.u1 : Decoder Nat) code p = .ok (163, p + 1) from h]
  show Except.bind ((Reader.s2 : Decoder Int) code (p + 1)) _ = _
  rw [k_s2 h1 h2]
  rfl
theorem k_op164 (h : k_by code p 164) (h1 : k_by code (p + 1) a) (h2 : k_by code (p + 1 + 1) b) : Decoder.instr p code p = .ok (.if_icmp .le (Reader.signed 16 (a * 256 + b)), p + 3) := by
  show Except.bind ((Reader.u1 : Decoder Nat) code p) _ = _
  rw [show (Reader.u1 : Decoder Nat) code p = .ok (164, p + 1) from h]
  show Except.bind ((Reader.s2 : Decoder Int) code (p + 1)) _ = _
  rw [k_s2 h1 h2]
  rfl
theorem k_op165 (h : k_by code p 165) (h1 : k_by code (p + 1) a) (h2 : k_by code (p + 1 + 1) b) : Decoder.instr p code p = .ok (.if_acmp .eq (Reader.signed 16 (a * 256 + b)), p + 3) := by
  show Except.bind ((Reader.u1 : Decoder Nat) code p) _ = _
  rw [show (Reader.u1 : Decoder Nat) code p = .ok (165, p + 1) from h]
  show Except.bind ((Reader.s2 : Decoder Int) code (p + 1)) _ = _
  rw [k_s2 h1 h2]
  rfl
theorem k_op166 (h : k_by code p 166) (h1 : k_by code (p + 1) a) (h2 : k_by code (p + 1 + 1) b) : Decoder.instr p code p = .ok (.if_acmp .ne (Reader.signed 16 (a * 256 + b)), p + 3) := by
  show Except.bind ((Reader.u1 : Decoder Nat) code p) _ = _
  rw [show (Reader.u1 : Decoder Nat) code p = .ok (166, p + 1) from h]
  show Except.bind ((Reader.s2 : Decoder Int) code (p + 1)) _ = _
  rw [k_s2 h1 h2]
  rfl
theorem k_op132 {d : Nat} (h : k_by code p 132) (h1 : k_by code (p + 1) a) (h2 : k_by code (p + 1 + 1) d) : Decoder.instr p code p = .ok (.iinc a (Reader.signed 8 d), p + 3) := by
  show Except.bind ((Reader.u1 : Decoder Nat) code p) _ = _
  rw [show (Reader.u1 : Decoder Nat) code p = .ok (132, p + 1) from h]
  show Except.bind ((Reader.u1 : Decoder Nat) code (p + 1)) _ = _
  rw [show (Reader.u1 : Decoder Nat) code (p + 1) = .ok (a, p + 1 + 1) from h1]
  show Except.bind ((Reader.s1 : Decoder Int) code (p + 1 + 1)) _ = _
  rw [k_s1 h2]
  rfl
theorem k_na4 (h : k_by code p 188) (h1 : k_by code (p + 1) 4) : Decoder.instr p code p = .ok (.newarray .boolean, p + 2) := by
  show Except.bind ((Reader.u1 : Decoder Nat) code p) _ = _
  rw [show (Reader.u1 : Decoder Nat) code p = .ok (188, p + 1) from h]
  show Except.bind ((Reader.u1 : Decoder Nat) code (p + 1)) _ = _
  rw [show (Reader.u1 : Decoder Nat) code (p + 1) = .ok (4, p + 1 + 1) from h1]
  rfl
theorem k_na5 (h : k_by code p 188) (h1 : k_by code (p + 1) 5) : Decoder.instr p code p = .ok (.newarray .char, p + 2) := by
  show Except.bind ((Reader.u1 : Decoder Nat) code p) _ = _
  rw [show (Reader.u1 : Decoder Nat) code p = .ok (188, p + 1) from h]
  show Except.bind ((Reader.u1 : Decoder Nat) code (p + 1)) _ = _
  rw [show (Reader.u1 : Decoder Nat) code (p + 1) = .ok (5, p + 1 + 1) from h1]
  rfl
theorem k_na6 (h : k_by code p 188) (h1 : k_by code (p + 1) 6) : Decoder.instr p code p = .ok (.newarray .float, p + 2) := by
  show Except.bind ((Reader.u1 : Decoder Nat) code p) _ = _
  rw [show (Reader.u1 : Decoder Nat) code p = .ok (188, p + 1) from h]
  show Except.bind ((Reader.u1 : Decoder Nat) code (p + 1)) _ = _
  rw [show (Reader.u1 : Decoder Nat) code (p + 1) = .ok (6, p + 1 + 1) from h1]
  rfl
theorem k_na7 (h : k_by code p 188) (h1 : k_by code (p + 1) 7) : Decoder.instr p code p = .ok (.newarray .double, p + 2) := by
  show Except.bind ((Reader.u1 : Decoder Nat) code p) _ = _
  rw [show (Reader.u1 : Decoder Nat) code p = .ok (188, p + 1) from h]
  show Except.bind ((Reader.u1 : Decoder Nat) code (p + 1)) _ = _
  rw [show (Reader.u1 : Decoder Nat) code (p + 1) = .ok (7, p + 1 + 1) from h1]
  rfl
theorem k_na8 (h : k_by code p 188) (h1 : k_by code (p + 1) 8) : Decoder.instr p code p = .ok (.newarray .byte, p + 2) := by
  show Except.bind ((Reader.u1 : Decoder Nat) code p) _ = _
  rw [show (Reader.u1 : Decoder Nat) code p = .ok (188, p + 1) from h]
  show Except.bind ((Reader.u1 : Decoder Nat) code (p + 1)) _ = _
  rw [show (Reader.u1 : Decoder Nat) code (p + 1) = .ok (8, p + 1 + 1) from h1]
  rfl
theorem k_na9 (h : k_by code p 188) (h1 : k_by code (p + 1) 9) : Decoder.instr p code p = .ok (.newarray .short, p + 2) := by
  show Except.bind ((Reader.u1 : Decoder Nat) code p) _ = _
  rw [show (Reader.u1 : Decoder Nat) code p = .ok (188, p + 1) from h]
  show Except.bind ((Reader.u1 : Decoder Nat) code (p + 1)) _ = _
  rw [show (Reader.u1 : Decoder Nat) code (p + 1) = .ok (9, p + 1 + 1) from h1]
  rfl
theorem k_na10 (h : k_by code p 188) (h1 : k_by code (p + 1) 10) : Decoder.instr p code p = .ok (.newarray .int, p + 2) := by
  show Except.bind ((Reader.u1 : Decoder Nat) code p) _ = _
  rw [show (Reader.u1 : Decoder Nat) code p = .ok (188, p + 1) from h]
  show Except.bind ((Reader.u1 : Decoder Nat) code (p + 1)) _ = _
  rw [show (Reader.u1 : Decoder Nat) code (p + 1) = .ok (10, p + 1 + 1) from h1]
  rfl
theorem k_na11 (h : k_by code p 188) (h1 : k_by code (p + 1) 11) : Decoder.instr p code p = .ok (.newarray .long, p + 2) := by
  show Except.bind ((Reader.u1 : Decoder Nat) code p) _ = _
  rw [show (Reader.u1 : Decoder Nat) code p = .ok (188, p + 1) from h]
  show Except.bind ((Reader.u1 : Decoder Nat) code (p + 1)) _ = _
  rw [show (Reader.u1 : Decoder Nat) code (p + 1) = .ok (11, p + 1 + 1) from h1]
  rfl
/-- the bytes of an instruction ([]: not told) -/
def k_enc : Instr → List Nat
  | .nop => [0]
  | .aconst_null => [1]
  | .iaload => [46]
  | .laload => [47]
  | .aaload => [50]
  | .baload => [51]
  | .saload => [53]
  | .iastore => [79]
  | .lastore => [80]
  | .aastore => [83]
  | .bastore => [84]
  | .sastore => [86]
  | .pop => [87]
  | .pop2 => [88]
  | .dup => [89]
  | .dup2 => [92]
  | .iadd => [96]
  | .ladd => [97]
  | .isub => [100]
  | .lsub => [101]
  | .imul => [104]
  | .lmul => [105]
  | .idiv => [108]
  | .ldiv => [109]
  | .irem => [112]
  | .lrem => [113]
  | .ineg => [116]
  | .lneg => [117]
  | .ishl => [120]
  | .lshl => [121]
  | .ishr => [122]
  | .iand => [126]
  | .land => [127]
  | .ior => [128]
  | .lor => [129]
  | .ixor => [130]
  | .lxor => [131]
  | .i2l => [133]
  | .l2i => [136]
  | .i2b => [145]
  | .i2c => [146]
  | .i2s => [147]
  | .lcmp => [148]
  | .ireturn => [172]
  | .lreturn => [173]
  | .areturn => [176]
  | .return_ => [177]
  | .arraylength => [190]
  | .athrow => [191]
  | .iload_n i => [26 + i.val]
  | .lload_n i => [30 + i.val]
  | .aload_n i => [42 + i.val]
  | .istore_n i => [59 + i.val]
  | .lstore_n i => [63 + i.val]
  | .astore_n i => [75 + i.val]
  | .lconst i => [9 + i.val]
  | .iconst v => [(v + 3).toNat]
  | .ldc a => [18, a]
  | .iload a => [21, a]
  | .lload a => [22, a]
  | .aload a => [25, a]
  | .istore a => [54, a]
  | .lstore a => [55, a]
  | .astore a => [58, a]
  | .bipush v => [16, (v % 256).toNat]
  | .ldc_w i => [19, i / 256, i % 256]
  | .ldc2_w i => [20, i / 256, i % 256]
  | .getstatic i => [178, i / 256, i % 256]
  | .putstatic i => [179, i / 256, i % 256]
  | .getfield i => [180, i / 256, i % 256]
  | .putfield i => [181, i / 256, i % 256]
  | .invokevirtual i => [182, i / 256, i % 256]
  | .invokespecial i => [183, i / 256, i % 256]
  | .invokestatic i => [184, i / 256, i % 256]
  | .new i => [187, i / 256, i % 256]
  | .anewarray i => [189, i / 256, i % 256]
  | .sipush v => [17, (v % 65536).toNat / 256, (v % 65536).toNat % 256]
  | .goto v => [167, (v % 65536).toNat / 256, (v % 65536).toNat % 256]
  | .ifnull v => [198, (v % 65536).toNat / 256, (v % 65536).toNat % 256]
  | .ifnonnull v => [199, (v % 65536).toNat / 256, (v % 65536).toNat % 256]
  | .ifCond .eq v => [153, (v % 65536).toNat / 256, (v % 65536).toNat % 256]
  | .ifCond .ne v => [154, (v % 65536).toNat / 256, (v % 65536).toNat % 256]
  | .ifCond .lt v => [155, (v % 65536).toNat / 256, (v % 65536).toNat % 256]
  | .ifCond .ge v => [156, (v % 65536).toNat / 256, (v % 65536).toNat % 256]
  | .ifCond .gt v => [157, (v % 65536).toNat / 256, (v % 65536).toNat % 256]
  | .ifCond .le v => [158, (v % 65536).toNat / 256, (v % 65536).toNat % 256]
  | .if_icmp .eq v => [159, (v % 65536).toNat / 256, (v % 65536).toNat % 256]
  | .if_icmp .ne v => [160, (v % 65536).toNat / 256, (v % 65536).toNat % 256]
  | .if_icmp .lt v => [161, (v % 65536).toNat / 256, (v % 65536).toNat % 256]
  | .if_icmp .ge v => [162, (v % 65536).toNat / 256, (v % 65536).toNat % 256]
  | .if_icmp .gt v => [163, (v % 65536).toNat / 256, (v % 65536).toNat % 256]
  | .if_icmp .le v => [164, (v % 65536).toNat / 256, (v % 65536).toNat % 256]
  | .if_acmp .eq v => [165, (v % 65536).toNat / 256, (v % 65536).toNat % 256]
  | .if_acmp .ne v => [166, (v % 65536).toNat / 256, (v % 65536).toNat % 256]
  | .iinc a v => [132, a, (v % 256).toNat]
  | .newarray .boolean => [188, 4]
  | .newarray .char => [188, 5]
  | .newarray .float => [188, 6]
  | .newarray .double => [188, 7]
  | .newarray .byte => [188, 8]
  | .newarray .short => [188, 9]
  | .newarray .int => [188, 10]
  | .newarray .long => [188, 11]
  | _ => []
/-- its numbers are in their ranges -/
def k_rg : Instr → Bool
  | .iconst v => decide (-1 ≤ v) && decide (v ≤ 5)
  | .bipush v => decide (-128 ≤ v) && decide (v < 128)
  | .sipush v => decide (-32768 ≤ v) && decide (v < 32768)
  | .goto v => decide (-32768 ≤ v) && decide (v < 32768)
  | .ifnull v => decide (-32768 ≤ v) && decide (v < 32768)
  | .ifnonnull v => decide (-32768 ≤ v) && decide (v < 32768)
  | .ifCond .eq v => decide (-32768 ≤ v) && decide (v < 32768)
  | .ifCond .ne v => decide (-32768 ≤ v) && decide (v < 32768)
  | .ifCond .lt v => decide (-32768 ≤ v) && decide (v < 32768)
  | .ifCond .ge v => decide (-32768 ≤ v) && decide (v < 32768)
  | .ifCond .gt v => decide (-32768 ≤ v) && decide (v < 32768)
  | .ifCond .le v => decide (-32768 ≤ v) && decide (v < 32768)
  | .if_icmp .eq v => decide (-32768 ≤ v) && decide (v < 32768)
  | .if_icmp .ne v => decide (-32768 ≤ v) && decide (v < 32768)
  | .if_icmp .lt v => decide (-32768 ≤ v) && decide (v < 32768)
  | .if_icmp .ge v => decide (-32768 ≤ v) && decide (v < 32768)
  | .if_icmp .gt v => decide (-32768 ≤ v) && decide (v < 32768)
  | .if_icmp .le v => decide (-32768 ≤ v) && decide (v < 32768)
  | .if_acmp .eq v => decide (-32768 ≤ v) && decide (v < 32768)
  | .if_acmp .ne v => decide (-32768 ≤ v) && decide (v < 32768)
  | .iinc _ v => decide (-128 ≤ v) && decide (v < 128)
  | _ => true
theorem k_rgb {x y : Prop} [Decidable x] [Decidable y] (h : (decide x && decide y) = true) : x ∧ y := by
  rw [Bool.and_eq_true] at h
  exact ⟨of_decide_eq_true h.1, of_decide_eq_true h.2⟩
theorem k_eic {v : Int} (hr : (decide (-1 ≤ v) && decide (v ≤ 5)) = true) (h : k_bys code p [(v + 3).toNat]) : decode code p = .ok (.iconst v, 1) := by
  have h9 := k_rgb hr
  rcases (show v = -1 ∨ v = 0 ∨ v = 1 ∨ v = 2 ∨ v = 3 ∨ v = 4 ∨ v = 5 by omega) with rfl | rfl | rfl | rfl | rfl | rfl | rfl
  · exact k_de (k_op2 h.1)
  · exact k_de (k_op3 h.1)
  · exact k_de (k_op4 h.1)
  · exact k_de (k_op5 h.1)
  · exact k_de (k_op6 h.1)
  · exact k_de (k_op7 h.1)
  · exact k_de (k_op8 h.1)
theorem k_elc {i : Fin 2} (h : k_bys code p [9 + i.val]) : decode code p = .ok (.lconst i, 1) := by
  match i, h with
  | ⟨0, _⟩, h => exact k_de (k_op9 h.1)
  | ⟨1, _⟩, h => exact k_de (k_op10 h.1)
theorem k_eib {v : Int} {f : Int → Instr} {n : Nat} (hr : (decide (-128 ≤ v) && decide (v < 128)) = true) (h : decode code p = .ok (f (Reader.signed 8 (v % 256).toNat), n)) : decode code p = .ok (f v, n) := by
  have h9 := k_rgb hr
  rw [k_s8 h9.1 h9.2] at h
  exact h
theorem k_eis {v : Int} {f : Int → Instr} {n : Nat} (hr : (decide (-32768 ≤ v) && decide (v < 32768)) = true) (h : decode code p = .ok (f (Reader.signed 16 ((v % 65536).toNat / 256 * 256 + (v % 65536).toNat % 256)), n)) : decode code p = .ok (f v, n) := by
  have h9 := k_rgb hr
  rw [k_s16 h9.1 h9.2] at h
  exact h
theorem k_eiload_n {i : Fin 4} (h : k_bys code p [26 + i.val]) : decode code p = .ok (.iload_n i, 1) := by
  match i, h with
  | ⟨0, _⟩, h => exact k_de (k_op26 h.1)
  | ⟨1, _⟩, h => exact k_de (k_op27 h.1)
  | ⟨2, _⟩, h => exact k_de (k_op28 h.1)
  | ⟨3, _⟩, h => exact k_de (k_op29 h.1)
theorem k_elload_n {i : Fin 4} (h : k_bys code p [30 + i.val]) : decode code p = .ok (.lload_n i, 1) := by
  match i, h with
  | ⟨0, _⟩, h => exact k_de (k_op30 h.1)
  | ⟨1, _⟩, h => exact k_de (k_op31 h.1)
  | ⟨2, _⟩, h => exact k_de (k_op32 h.1)
  | ⟨3, _⟩, h => exact k_de (k_op33 h.1)
theorem k_eaload_n {i : Fin 4} (h : k_bys code p [42 + i.val]) : decode code p = .ok (.aload_n i, 1) := by
  match i, h with
  | ⟨0, _⟩, h => exact k_de (k_op42 h.1)
  | ⟨1, _⟩, h => exact k_de (k_op43 h.1)
  | ⟨2, _⟩, h => exact k_de (k_op44 h.1)
  | ⟨3, _⟩, h => exact k_de (k_op45 h.1)
theorem k_eistore_n {i : Fin 4} (h : k_bys code p [59 + i.val]) : decode code p = .ok (.istore_n i, 1) := by
  match i, h with
  | ⟨0, _⟩, h => exact k_de (k_op59 h.1)
  | ⟨1, _⟩, h => exact k_de (k_op60 h.1)
  | ⟨2, _⟩, h => exact k_de (k_op61 h.1)
  | ⟨3, _⟩, h => exact k_de (k_op62 h.1)
theorem k_elstore_n {i : Fin 4} (h : k_bys code p [63 + i.val]) : decode code p = .ok (.lstore_n i, 1) := by
  match i, h with
  | ⟨0, _⟩, h => exact k_de (k_op63 h.1)
  | ⟨1, _⟩, h => exact k_de (k_op64 h.1)
  | ⟨2, _⟩, h => exact k_de (k_op65 h.1)
  | ⟨3, _⟩, h => exact k_de (k_op66 h.1)
theorem k_eastore_n {i : Fin 4} (h : k_bys code p [75 + i.val]) : decode code p = .ok (.astore_n i, 1) := by
  match i, h with
  | ⟨0, _⟩, h => exact k_de (k_op75 h.1)
  | ⟨1, _⟩, h => exact k_de (k_op76 h.1)
  | ⟨2, _⟩, h => exact k_de (k_op77 h.1)
  | ⟨3, _⟩, h => exact k_de (k_op78 h.1)
theorem k_enc_ok : ∀ (ins : Instr), k_enc ins ≠ [] → k_rg ins = true → k_bys code p (k_enc ins) → decode code p = .ok (ins, (k_enc ins).length)
  | .nop, _, hr, h => k_de (k_op0 h.1)
  | .aconst_null, _, hr, h => k_de (k_op1 h.1)
  | .iaload, _, hr, h => k_de (k_op46 h.1)
  | .laload, _, hr, h => k_de (k_op47 h.1)
  | .aaload, _, hr, h => k_de (k_op50 h.1)
  | .baload, _, hr, h => k_de (k_op51 h.1)
  | .saload, _, hr, h => k_de (k_op53 h.1)
  | .iastore, _, hr, h => k_de (k_op79 h.1)
  | .lastore, _, hr, h => k_de (k_op80 h.1)
  | .aastore, _, hr, h => k_de (k_op83 h.1)
  | .bastore, _, hr, h => k_de (k_op84 h.1)
  | .sastore, _, hr, h => k_de (k_op86 h.1)
  | .pop, _, hr, h => k_de (k_op87 h.1)
  | .pop2, _, hr, h => k_de (k_op88 h.1)
  | .dup, _, hr, h => k_de (k_op89 h.1)
  | .dup2, _, hr, h => k_de (k_op92 h.1)
  | .iadd, _, hr, h => k_de (k_op96 h.1)
  | .ladd, _, hr, h => k_de (k_op97 h.1)
  | .isub, _, hr, h => k_de (k_op100 h.1)
  | .lsub, _, hr, h => k_de (k_op101 h.1)
  | .imul, _, hr, h => k_de (k_op104 h.1)
  | .lmul, _, hr, h => k_de (k_op105 h.1)
  | .idiv, _, hr, h => k_de (k_op108 h.1)
  | .ldiv, _, hr, h => k_de (k_op109 h.1)
  | .irem, _, hr, h => k_de (k_op112 h.1)
  | .lrem, _, hr, h => k_de (k_op113 h.1)
  | .ineg, _, hr, h => k_de (k_op116 h.1)
  | .lneg, _, hr, h => k_de (k_op117 h.1)
  | .ishl, _, hr, h => k_de (k_op120 h.1)
  | .lshl, _, hr, h => k_de (k_op121 h.1)
  | .ishr, _, hr, h => k_de (k_op122 h.1)
  | .iand, _, hr, h => k_de (k_op126 h.1)
  | .land, _, hr, h => k_de (k_op127 h.1)
  | .ior, _, hr, h => k_de (k_op128 h.1)
  | .lor, _, hr, h => k_de (k_op129 h.1)
  | .ixor, _, hr, h => k_de (k_op130 h.1)
  | .lxor, _, hr, h => k_de (k_op131 h.1)
  | .i2l, _, hr, h => k_de (k_op133 h.1)
  | .l2i, _, hr, h => k_de (k_op136 h.1)
  | .i2b, _, hr, h => k_de (k_op145 h.1)
  | .i2c, _, hr, h => k_de (k_op146 h.1)
  | .i2s, _, hr, h => k_de (k_op147 h.1)
  | .lcmp, _, hr, h => k_de (k_op148 h.1)
  | .ireturn, _, hr, h => k_de (k_op172 h.1)
  | .lreturn, _, hr, h => k_de (k_op173 h.1)
  | .areturn, _, hr, h => k_de (k_op176 h.1)
  | .return_, _, hr, h => k_de (k_op177 h.1)
  | .arraylength, _, hr, h => k_de (k_op190 h.1)
  | .athrow, _, hr, h => k_de (k_op191 h.1)
  | .iload_n i, _, hr, h => k_eiload_n h
  | .lload_n i, _, hr, h => k_elload_n h
  | .aload_n i, _, hr, h => k_eaload_n h
  | .istore_n i, _, hr, h => k_eistore_n h
  | .lstore_n i, _, hr, h => k_elstore_n h
  | .astore_n i, _, hr, h => k_eastore_n h
  | .lconst i, _, hr, h => k_elc h
  | .iconst v, _, hr, h => k_eic hr h
  | .ldc a, _, hr, h => k_de (k_op18 h.1 h.2.1)
  | .iload a, _, hr, h => k_de (k_op21 h.1 h.2.1)
  | .lload a, _, hr, h => k_de (k_op22 h.1 h.2.1)
  | .aload a, _, hr, h => k_de (k_op25 h.1 h.2.1)
  | .istore a, _, hr, h => k_de (k_op54 h.1 h.2.1)
  | .lstore a, _, hr, h => k_de (k_op55 h.1 h.2.1)
  | .astore a, _, hr, h => k_de (k_op58 h.1 h.2.1)
  | .bipush v, _, hr, h => k_eib (f := .bipush) hr (k_de (k_op16 h.1 h.2.1))
  | .ldc_w i, _, hr, h => k_w2 (f := .ldc_w) (k_de (k_op19 h.1 h.2.1 h.2.2.1))
  | .ldc2_w i, _, hr, h => k_w2 (f := .ldc2_w) (k_de (k_op20 h.1 h.2.1 h.2.2.1))
  | .getstatic i, _, hr, h => k_w2 (f := .getstatic) (k_de (k_op178 h.1 h.2.1 h.2.2.1))
  | .putstatic i, _, hr, h => k_w2 (f := .putstatic) (k_de (k_op179 h.1 h.2.1 h.2.2.1))
  | .getfield i, _, hr, h => k_w2 (f := .getfield) (k_de (k_op180 h.1 h.2.1 h.2.2.1))
  | .putfield i, _, hr, h => k_w2 (f := .putfield) (k_de (k_op181 h.1 h.2.1 h.2.2.1))
  | .invokevirtual i, _, hr, h => k_w2 (f := .invokevirtual) (k_de (k_op182 h.1 h.2.1 h.2.2.1))
  | .invokespecial i, _, hr, h => k_w2 (f := .invokespecial) (k_de (k_op183 h.1 h.2.1 h.2.2.1))
  | .invokestatic i, _, hr, h => k_w2 (f := .invokestatic) (k_de (k_op184 h.1 h.2.1 h.2.2.1))
  | .new i, _, hr, h => k_w2 (f := .new) (k_de (k_op187 h.1 h.2.1 h.2.2.1))
  | .anewarray i, _, hr, h => k_w2 (f := .anewarray) (k_de (k_op189 h.1 h.2.1 h.2.2.1))
  | .sipush v, _, hr, h => k_eis (f := .sipush) hr (k_de (k_op17 h.1 h.2.1 h.2.2.1))
  | .goto v, _, hr, h => k_eis (f := .goto) hr (k_de (k_op167 h.1 h.2.1 h.2.2.1))
  | .ifnull v, _, hr, h => k_eis (f := .ifnull) hr (k_de (k_op198 h.1 h.2.1 h.2.2.1))
  | .ifnonnull v, _, hr, h => k_eis (f := .ifnonnull) hr (k_de (k_op199 h.1 h.2.1 h.2.2.1))
  | .iinc a v, _, hr, h => k_eib (f := .iinc a) hr (k_de (k_op132 h.1 h.2.1 h.2.2.1))
  | .ifCond .eq v, _, hr, h => k_eis (f := .ifCond .eq) hr (k_de (k_op153 h.1 h.2.1 h.2.2.1))
  | .ifCond .ne v, _, hr, h => k_eis (f := .ifCond .ne) hr (k_de (k_op154 h.1 h.2.1 h.2.2.1))
  | .ifCond .lt v, _, hr, h => k_eis (f := .ifCond .lt) hr (k_de (k_op155 h.1 h.2.1 h.2.2.1))
  | .ifCond .ge v, _, hr, h => k_eis (f := .ifCond .ge) hr (k_de (k_op156 h.1 h.2.1 h.2.2.1))
  | .ifCond .gt v, _, hr, h => k_eis (f := .ifCond .gt) hr (k_de (k_op157 h.1 h.2.1 h.2.2.1))
  | .ifCond .le v, _, hr, h => k_eis (f := .ifCond .le) hr (k_de (k_op158 h.1 h.2.1 h.2.2.1))
  | .if_icmp .eq v, _, hr, h => k_eis (f := .if_icmp .eq) hr (k_de (k_op159 h.1 h.2.1 h.2.2.1))
  | .if_icmp .ne v, _, hr, h => k_eis (f := .if_icmp .ne) hr (k_de (k_op160 h.1 h.2.1 h.2.2.1))
  | .if_icmp .lt v, _, hr, h => k_eis (f := .if_icmp .lt) hr (k_de (k_op161 h.1 h.2.1 h.2.2.1))
  | .if_icmp .ge v, _, hr, h => k_eis (f := .if_icmp .ge) hr (k_de (k_op162 h.1 h.2.1 h.2.2.1))
  | .if_icmp .gt v, _, hr, h => k_eis (f := .if_icmp .gt) hr (k_de (k_op163 h.1 h.2.1 h.2.2.1))
  | .if_icmp .le v, _, hr, h => k_eis (f := .if_icmp .le) hr (k_de (k_op164 h.1 h.2.1 h.2.2.1))
  | .if_acmp .eq v, _, hr, h => k_eis (f := .if_acmp .eq) hr (k_de (k_op165 h.1 h.2.1 h.2.2.1))
  | .if_acmp .ne v, _, hr, h => k_eis (f := .if_acmp .ne) hr (k_de (k_op166 h.1 h.2.1 h.2.2.1))
  | .newarray .boolean, _, hr, h => k_de (k_na4 h.1 h.2.1)
  | .newarray .char, _, hr, h => k_de (k_na5 h.1 h.2.1)
  | .newarray .float, _, hr, h => k_de (k_na6 h.1 h.2.1)
  | .newarray .double, _, hr, h => k_de (k_na7 h.1 h.2.1)
  | .newarray .byte, _, hr, h => k_de (k_na8 h.1 h.2.1)
  | .newarray .short, _, hr, h => k_de (k_na9 h.1 h.2.1)
  | .newarray .int, _, hr, h => k_de (k_na10 h.1 h.2.1)
  | .newarray .long, _, hr, h => k_de (k_na11 h.1 h.2.1)
  | .caload, hn, _, _ => absurd rfl hn
  | .castore, hn, _, _ => absurd rfl hn
  | .checkcast _, hn, _, _ => absurd rfl hn
  | .d2f, hn, _, _ => absurd rfl hn
  | .d2i, hn, _, _ => absurd rfl hn
  | .d2l, hn, _, _ => absurd rfl hn
  | .dadd, hn, _, _ => absurd rfl hn
  | .daload, hn, _, _ => absurd rfl hn
  | .dastore, hn, _, _ => absurd rfl hn
  | .dcmp _, hn, _, _ => absurd rfl hn
  | .dconst _, hn, _, _ => absurd rfl hn
  | .ddiv, hn, _, _ => absurd rfl hn
  | .dload _, hn, _, _ => absurd rfl hn
  | .dload_n _, hn, _, _ => absurd rfl hn
  | .dmul, hn, _, _ => absurd rfl hn
  | .dneg, hn, _, _ => absurd rfl hn
  | .drem, hn, _, _ => absurd rfl hn
  | .dreturn, hn, _, _ => absurd rfl hn
  | .dstore _, hn, _, _ => absurd rfl hn
  | .dstore_n _, hn, _, _ => absurd rfl hn
  | .dsub, hn, _, _ => absurd rfl hn
  | .dup_x1, hn, _, _ => absurd rfl hn
  | .dup_x2, hn, _, _ => absurd rfl hn
  | .dup2_x1, hn, _, _ => absurd rfl hn
  | .dup2_x2, hn, _, _ => absurd rfl hn
  | .f2d, hn, _, _ => absurd rfl hn
  | .f2i, hn, _, _ => absurd rfl hn
  | .f2l, hn, _, _ => absurd rfl hn
  | .fadd, hn, _, _ => absurd rfl hn
  | .faload, hn, _, _ => absurd rfl hn
  | .fastore, hn, _, _ => absurd rfl hn
  | .fcmp _, hn, _, _ => absurd rfl hn
  | .fconst _, hn, _, _ => absurd rfl hn
  | .fdiv, hn, _, _ => absurd rfl hn
  | .fload _, hn, _, _ => absurd rfl hn
  | .fload_n _, hn, _, _ => absurd rfl hn
  | .fmul, hn, _, _ => absurd rfl hn
  | .fneg, hn, _, _ => absurd rfl hn
  | .frem, hn, _, _ => absurd rfl hn
  | .freturn, hn, _, _ => absurd rfl hn
  | .fstore _, hn, _, _ => absurd rfl hn
  | .fstore_n _, hn, _, _ => absurd rfl hn
  | .fsub, hn, _, _ => absurd rfl hn
  | .goto_w _, hn, _, _ => absurd rfl hn
  | .i2d, hn, _, _ => absurd rfl hn
  | .i2f, hn, _, _ => absurd rfl hn
  | .instanceof _, hn, _, _ => absurd rfl hn
  | .invokedynamic _, hn, _, _ => absurd rfl hn
  | .invokeinterface _ _, hn, _, _ => absurd rfl hn
  | .iushr, hn, _, _ => absurd rfl hn
  | .jsr _, hn, _, _ => absurd rfl hn
  | .jsr_w _, hn, _, _ => absurd rfl hn
  | .l2d, hn, _, _ => absurd rfl hn
  | .l2f, hn, _, _ => absurd rfl hn
  | .lshr, hn, _, _ => absurd rfl hn
  | .lushr, hn, _, _ => absurd rfl hn
  | .monitorenter, hn, _, _ => absurd rfl hn
  | .monitorexit, hn, _, _ => absurd rfl hn
  | .multianewarray _ _, hn, _, _ => absurd rfl hn
  | .ret _, hn, _, _ => absurd rfl hn
  | .swap, hn, _, _ => absurd rfl hn
  | .tableswitch _ _ _ _, hn, _, _ => absurd rfl hn
end DC
/-- the bytes of a list stand at its head -/
def k_pre : List Nat → List UInt8 → Bool
  | [], _ => true
  | _ :: _, [] => false
  | n :: l, b :: t => Nat.beq b.toNat n && k_pre l t
theorem k_pre_ok {code : ByteArray} : ∀ {ns : List Nat} {t : List UInt8} {p : Nat}, code.data.toList.drop p = t → k_pre ns t = true → k_bys code p ns
  | [], _, _, _, _ => trivial
  | _ :: _, [], _, _, h => by cases h
  | n :: ns, b :: t, p, hd, h => by
    have h : (Nat.beq b.toNat n && k_pre ns t) = true := h
    rw [Bool.and_eq_true] at h
    have h0 : code.data.toList[p]? = some b := by
      have : (code.data.toList.drop p)[0]? = (b :: t)[0]? := by rw [hd]
      rw [List.getElem?_drop, Nat.add_zero] at this
      exact this
    refine ⟨?_, k_pre_ok ?_ h.2⟩
    · rw [← Nat.eq_of_beq_eq_true h.1]
      exact k_by_of h0
    · rw [← List.drop_drop, hd]
      rfl
/-- rows in their order, along the bytes from place p on -/
def k_walk (code : ByteArray) : List cRow → Nat → List UInt8 → Bool
  | [], _, _ => true
  | x :: l, p, t => Nat.ble p x.1 && (fun t' => ((!(k_enc x.2.1).isEmpty && k_rg x.2.1 && Nat.beq (k_enc x.2.1).length x.2.2 && k_pre (k_enc x.2.1) t') || decide (decode code x.1 = .ok x.2)) && k_walk code l x.1 t') (t.drop (x.1 - p))
theorem k_walk_ok {code : ByteArray} : ∀ {l : List cRow} {p : Nat} {t : List UInt8}, code.data.toList.drop p = t → k_walk code l p t = true → ∀ x ∈ l, decode code x.1 = .ok x.2
  | [], _, _, _, _, x, hx => by cases hx
  | y :: l, p, t, hd, h, x, hx => by
    have h : (Nat.ble p y.1 && ((((!(k_enc y.2.1).isEmpty && k_rg y.2.1 && Nat.beq (k_enc y.2.1).length y.2.2 && k_pre (k_enc y.2.1) (t.drop (y.1 - p))) || decide (decode code y.1 = .ok y.2)) && k_walk code l y.1 (t.drop (y.1 - p))))) = true := h
    rw [Bool.and_eq_true, Bool.and_eq_true] at h
    obtain ⟨h1, h2, h3⟩ := h
    have hp := Nat.le_of_ble_eq_true h1
    have hd' : code.data.toList.drop y.1 = t.drop (y.1 - p) := by
      rw [← hd, List.drop_drop]
      congr 1
      omega
    rcases List.mem_cons.mp hx with rfl | hx
    · rw [Bool.or_eq_true] at h2
      rcases h2 with h2 | h2
      · rw [Bool.and_eq_true, Bool.and_eq_true, Bool.and_eq_true] at h2
        obtain ⟨⟨⟨g1, g2⟩, g3⟩, g4⟩ := h2
        have hn : k_enc x.2.1 ≠ [] := by
          intro hq
          rw [hq] at g1
          cases g1
        have := k_enc_ok _ hn g2 (k_pre_ok hd' g4)
        rw [Nat.eq_of_beq_eq_true g3] at this
        exact this
      · exact of_decide_eq_true h2
    · exact k_walk_ok hd' h3 x hx
def k_rows : cCode → List cRow
  | [] => []
  | q :: l => q.2 ++ k_rows l
theorem k_rows_mem : ∀ {l : cCode} {q : Nat × List cRow} {x : cRow}, q ∈ l → x ∈ q.2 → x ∈ k_rows l
  | y :: l, q, x, hq, hx => by
    rcases List.mem_cons.mp hq with rfl | hq
    · exact List.mem_append_left _ hx
    · exact List.mem_append_right _ (k_rows_mem hq hx)
def k_decF (b : ByteArray) (l : cCode) : Bool := k_walk b (k_rows l) 0 b.data.toList
theorem k_decF_ok {b : ByteArray} {l : cCode} (h : k_decF b l = true) : ∀ q ∈ l, ∀ x ∈ q.2, decode b x.1 = .ok x.2 := fun _ hq _ hx => k_walk_ok rfl h _ (k_rows_mem hq hx)
