/-! decode rows by a function of our own -/
def u1r (code : ByteArray) (p : Nat) : Option Nat := if h : p < code.size then some code[p].toNat else none
theorem u1_run {code : ByteArray} {p n : Nat} (h : u1r code p = some n) : (ClassFile.Reader.u1 : ClassFile.Decoder Nat).runAt code p = .ok (n, p + 1) := by
  unfold u1r at h
  by_cases hp : p < code.size
  · rw [dif_pos hp] at h
    cases h
    show (if h : p < code.size then _ else _ : ClassFile.Decoder Nat).runAt code p = _
    rw [dif_pos hp]
    rfl
  · rw [dif_neg hp] at h
    cases h
theorem dec_bind {α β : Type} {r : ClassFile.Decoder α} {f : α → ClassFile.Decoder β} {code : ByteArray} {p q : Nat} {a : α} (h : r.runAt code p = .ok (a, q)) : (r >>= f).runAt code p = (f a).runAt code q := by
  show ((r.run code).run p >>= fun x => ((f x.1).run code).run x.2) = _
  rw [show (r.run code).run p = .ok (a, q) from h]
  rfl
theorem u2_run {code : ByteArray} {p b1 b2 : Nat} (h1 : u1r code p = some b1) (h2 : u1r code (p + 1) = some b2) : (ClassFile.Reader.u2 : ClassFile.Decoder Nat).runAt code p = .ok (b1 * 256 + b2, p + 2) := by
  unfold ClassFile.Reader.u2
  rw [dec_bind (u1_run h1), dec_bind (u1_run h2)]
  rfl
theorem s1_run {code : ByteArray} {p b1 : Nat} (h1 : u1r code p = some b1) : (ClassFile.Reader.s1 : ClassFile.Decoder Int).runAt code p = .ok (ClassFile.Reader.signed 8 b1, p + 1) := by
  show (ClassFile.Reader.u1 >>= fun x => pure (ClassFile.Reader.signed 8 x) : ClassFile.Decoder Int).runAt code p = _
  rw [dec_bind (u1_run h1)]
  rfl
theorem s2_run {code : ByteArray} {p b1 b2 : Nat} (h1 : u1r code p = some b1) (h2 : u1r code (p + 1) = some b2) : (ClassFile.Reader.s2 : ClassFile.Decoder Int).runAt code p = .ok (ClassFile.Reader.signed 16 (b1 * 256 + b2), p + 2) := by
  show (ClassFile.Reader.u2 >>= fun x => pure (ClassFile.Reader.signed 16 x) : ClassFile.Decoder Int).runAt code p = _
  rw [dec_bind (u2_run h1 h2)]
  rfl
theorem dec_of {code : ByteArray} {pc n : Nat} {i : Instr} (h : (ClassFile.Decoder.instr pc).runAt code pc = .ok (i, pc + n)) : decode code pc = .ok (i, n) := by
  unfold ClassFile.decode
  rw [h]
  show Except.ok (i, pc + n - pc) = _
  rw [Nat.add_sub_cancel_left]
theorem fd42 {code : ByteArray} {pc : Nat} (h : u1r code pc = some 42) : decode code pc = .ok (.aload_n 0, 1) := dec_of (dec_bind (u1_run h))
theorem fd3 {code : ByteArray} {pc : Nat} (h : u1r code pc = some 3) : decode code pc = .ok (.iconst 0, 1) := dec_of (dec_bind (u1_run h))
theorem fd4 {code : ByteArray} {pc : Nat} (h : u1r code pc = some 4) : decode code pc = .ok (.iconst 1, 1) := dec_of (dec_bind (u1_run h))
theorem fd27 {code : ByteArray} {pc : Nat} (h : u1r code pc = some 27) : decode code pc = .ok (.iload_n 1, 1) := dec_of (dec_bind (u1_run h))
theorem fd180 {code : ByteArray} {pc b1 b2 : Nat} (h : u1r code pc = some 180) (h1 : u1r code (pc + 1) = some b1) (h2 : u1r code (pc + 1 + 1) = some b2) : decode code pc = .ok (.getfield (b1 * 256 + b2), 3) := dec_of ((dec_bind (u1_run h)).trans (dec_bind (u2_run h1 h2)))
theorem fd28 {code : ByteArray} {pc : Nat} (h : u1r code pc = some 28) : decode code pc = .ok (.iload_n 2, 1) := dec_of (dec_bind (u1_run h))
theorem fd21 {code : ByteArray} {pc b1 : Nat} (h : u1r code pc = some 21) (h1 : u1r code (pc + 1) = some b1) : decode code pc = .ok (.iload b1, 2) := dec_of ((dec_bind (u1_run h)).trans (dec_bind (u1_run h1)))
theorem fd26 {code : ByteArray} {pc : Nat} (h : u1r code pc = some 26) : decode code pc = .ok (.iload_n 0, 1) := dec_of (dec_bind (u1_run h))
theorem fd29 {code : ByteArray} {pc : Nat} (h : u1r code pc = some 29) : decode code pc = .ok (.iload_n 3, 1) := dec_of (dec_bind (u1_run h))
theorem fd172 {code : ByteArray} {pc : Nat} (h : u1r code pc = some 172) : decode code pc = .ok (.ireturn, 1) := dec_of (dec_bind (u1_run h))
theorem fd46 {code : ByteArray} {pc : Nat} (h : u1r code pc = some 46) : decode code pc = .ok (.iaload, 1) := dec_of (dec_bind (u1_run h))
theorem fd16 {code : ByteArray} {pc b1 : Nat} (h : u1r code pc = some 16) (h1 : u1r code (pc + 1) = some b1) : decode code pc = .ok (.bipush (ClassFile.Reader.signed 8 b1), 2) := dec_of ((dec_bind (u1_run h)).trans (dec_bind (s1_run h1)))
theorem fd182 {code : ByteArray} {pc b1 b2 : Nat} (h : u1r code pc = some 182) (h1 : u1r code (pc + 1) = some b1) (h2 : u1r code (pc + 1 + 1) = some b2) : decode code pc = .ok (.invokevirtual (b1 * 256 + b2), 3) := dec_of ((dec_bind (u1_run h)).trans (dec_bind (u2_run h1 h2)))
theorem fd167 {code : ByteArray} {pc b1 b2 : Nat} (h : u1r code pc = some 167) (h1 : u1r code (pc + 1) = some b1) (h2 : u1r code (pc + 1 + 1) = some b2) : decode code pc = .ok (.goto (ClassFile.Reader.signed 16 (b1 * 256 + b2)), 3) := dec_of ((dec_bind (u1_run h)).trans (dec_bind (s2_run h1 h2)))
theorem fd96 {code : ByteArray} {pc : Nat} (h : u1r code pc = some 96) : decode code pc = .ok (.iadd, 1) := dec_of (dec_bind (u1_run h))
theorem fd43 {code : ByteArray} {pc : Nat} (h : u1r code pc = some 43) : decode code pc = .ok (.aload_n 1, 1) := dec_of (dec_bind (u1_run h))
theorem fd44 {code : ByteArray} {pc : Nat} (h : u1r code pc = some 44) : decode code pc = .ok (.aload_n 2, 1) := dec_of (dec_bind (u1_run h))
theorem fd45 {code : ByteArray} {pc : Nat} (h : u1r code pc = some 45) : decode code pc = .ok (.aload_n 3, 1) := dec_of (dec_bind (u1_run h))
theorem fd5 {code : ByteArray} {pc : Nat} (h : u1r code pc = some 5) : decode code pc = .ok (.iconst 2, 1) := dec_of (dec_bind (u1_run h))
theorem fd153 {code : ByteArray} {pc b1 b2 : Nat} (h : u1r code pc = some 153) (h1 : u1r code (pc + 1) = some b1) (h2 : u1r code (pc + 1 + 1) = some b2) : decode code pc = .ok (.ifCond .eq (ClassFile.Reader.signed 16 (b1 * 256 + b2)), 3) := dec_of ((dec_bind (u1_run h)).trans (dec_bind (s2_run h1 h2)))
theorem fd154 {code : ByteArray} {pc b1 b2 : Nat} (h : u1r code pc = some 154) (h1 : u1r code (pc + 1) = some b1) (h2 : u1r code (pc + 1 + 1) = some b2) : decode code pc = .ok (.ifCond .ne (ClassFile.Reader.signed 16 (b1 * 256 + b2)), 3) := dec_of ((dec_bind (u1_run h)).trans (dec_bind (s2_run h1 h2)))
theorem fd162 {code : ByteArray} {pc b1 b2 : Nat} (h : u1r code pc = some 162) (h1 : u1r code (pc + 1) = some b1) (h2 : u1r code (pc + 1 + 1) = some b2) : decode code pc = .ok (.if_icmp .ge (ClassFile.Reader.signed 16 (b1 * 256 + b2)), 3) := dec_of ((dec_bind (u1_run h)).trans (dec_bind (s2_run h1 h2)))
theorem fd160 {code : ByteArray} {pc b1 b2 : Nat} (h : u1r code pc = some 160) (h1 : u1r code (pc + 1) = some b1) (h2 : u1r code (pc + 1 + 1) = some b2) : decode code pc = .ok (.if_icmp .ne (ClassFile.Reader.signed 16 (b1 * 256 + b2)), 3) := dec_of ((dec_bind (u1_run h)).trans (dec_bind (s2_run h1 h2)))
theorem fd161 {code : ByteArray} {pc b1 b2 : Nat} (h : u1r code pc = some 161) (h1 : u1r code (pc + 1) = some b1) (h2 : u1r code (pc + 1 + 1) = some b2) : decode code pc = .ok (.if_icmp .lt (ClassFile.Reader.signed 16 (b1 * 256 + b2)), 3) := dec_of ((dec_bind (u1_run h)).trans (dec_bind (s2_run h1 h2)))
theorem fd2 {code : ByteArray} {pc : Nat} (h : u1r code pc = some 2) : decode code pc = .ok (.iconst (-1), 1) := dec_of (dec_bind (u1_run h))
theorem fd59 {code : ByteArray} {pc : Nat} (h : u1r code pc = some 59) : decode code pc = .ok (.istore_n 0, 1) := dec_of (dec_bind (u1_run h))
theorem fd60 {code : ByteArray} {pc : Nat} (h : u1r code pc = some 60) : decode code pc = .ok (.istore_n 1, 1) := dec_of (dec_bind (u1_run h))
theorem fd61 {code : ByteArray} {pc : Nat} (h : u1r code pc = some 61) : decode code pc = .ok (.istore_n 2, 1) := dec_of (dec_bind (u1_run h))
theorem fd62 {code : ByteArray} {pc : Nat} (h : u1r code pc = some 62) : decode code pc = .ok (.istore_n 3, 1) := dec_of (dec_bind (u1_run h))
theorem fd54 {code : ByteArray} {pc b1 : Nat} (h : u1r code pc = some 54) (h1 : u1r code (pc + 1) = some b1) : decode code pc = .ok (.istore b1, 2) := dec_of ((dec_bind (u1_run h)).trans (dec_bind (u1_run h1)))
theorem fd184 {code : ByteArray} {pc b1 b2 : Nat} (h : u1r code pc = some 184) (h1 : u1r code (pc + 1) = some b1) (h2 : u1r code (pc + 1 + 1) = some b2) : decode code pc = .ok (.invokestatic (b1 * 256 + b2), 3) := dec_of ((dec_bind (u1_run h)).trans (dec_bind (u2_run h1 h2)))
theorem fd181 {code : ByteArray} {pc b1 b2 : Nat} (h : u1r code pc = some 181) (h1 : u1r code (pc + 1) = some b1) (h2 : u1r code (pc + 1 + 1) = some b2) : decode code pc = .ok (.putfield (b1 * 256 + b2), 3) := dec_of ((dec_bind (u1_run h)).trans (dec_bind (u2_run h1 h2)))
theorem fd6 {code : ByteArray} {pc : Nat} (h : u1r code pc = some 6) : decode code pc = .ok (.iconst 3, 1) := dec_of (dec_bind (u1_run h))
theorem fd7 {code : ByteArray} {pc : Nat} (h : u1r code pc = some 7) : decode code pc = .ok (.iconst 4, 1) := dec_of (dec_bind (u1_run h))
theorem fd8 {code : ByteArray} {pc : Nat} (h : u1r code pc = some 8) : decode code pc = .ok (.iconst 5, 1) := dec_of (dec_bind (u1_run h))
theorem fd9 {code : ByteArray} {pc : Nat} (h : u1r code pc = some 9) : decode code pc = .ok (.lconst 0, 1) := dec_of (dec_bind (u1_run h))
theorem fd10 {code : ByteArray} {pc : Nat} (h : u1r code pc = some 10) : decode code pc = .ok (.lconst 1, 1) := dec_of (dec_bind (u1_run h))
theorem fd17 {code : ByteArray} {pc b1 b2 : Nat} (h : u1r code pc = some 17) (h1 : u1r code (pc + 1) = some b1) (h2 : u1r code (pc + 1 + 1) = some b2) : decode code pc = .ok (.sipush (ClassFile.Reader.signed 16 (b1 * 256 + b2)), 3) := dec_of ((dec_bind (u1_run h)).trans (dec_bind (s2_run h1 h2)))
theorem fd18 {code : ByteArray} {pc b1 : Nat} (h : u1r code pc = some 18) (h1 : u1r code (pc + 1) = some b1) : decode code pc = .ok (.ldc b1, 2) := dec_of ((dec_bind (u1_run h)).trans (dec_bind (u1_run h1)))
theorem fd19 {code : ByteArray} {pc b1 b2 : Nat} (h : u1r code pc = some 19) (h1 : u1r code (pc + 1) = some b1) (h2 : u1r code (pc + 1 + 1) = some b2) : decode code pc = .ok (.ldc_w (b1 * 256 + b2), 3) := dec_of ((dec_bind (u1_run h)).trans (dec_bind (u2_run h1 h2)))
theorem fd20 {code : ByteArray} {pc b1 b2 : Nat} (h : u1r code pc = some 20) (h1 : u1r code (pc + 1) = some b1) (h2 : u1r code (pc + 1 + 1) = some b2) : decode code pc = .ok (.ldc2_w (b1 * 256 + b2), 3) := dec_of ((dec_bind (u1_run h)).trans (dec_bind (u2_run h1 h2)))
theorem fd22 {code : ByteArray} {pc b1 : Nat} (h : u1r code pc = some 22) (h1 : u1r code (pc + 1) = some b1) : decode code pc = .ok (.lload b1, 2) := dec_of ((dec_bind (u1_run h)).trans (dec_bind (u1_run h1)))
theorem fd25 {code : ByteArray} {pc b1 : Nat} (h : u1r code pc = some 25) (h1 : u1r code (pc + 1) = some b1) : decode code pc = .ok (.aload b1, 2) := dec_of ((dec_bind (u1_run h)).trans (dec_bind (u1_run h1)))
theorem fd30 {code : ByteArray} {pc : Nat} (h : u1r code pc = some 30) : decode code pc = .ok (.lload_n 0, 1) := dec_of (dec_bind (u1_run h))
theorem fd31 {code : ByteArray} {pc : Nat} (h : u1r code pc = some 31) : decode code pc = .ok (.lload_n 1, 1) := dec_of (dec_bind (u1_run h))
theorem fd32 {code : ByteArray} {pc : Nat} (h : u1r code pc = some 32) : decode code pc = .ok (.lload_n 2, 1) := dec_of (dec_bind (u1_run h))
theorem fd33 {code : ByteArray} {pc : Nat} (h : u1r code pc = some 33) : decode code pc = .ok (.lload_n 3, 1) := dec_of (dec_bind (u1_run h))
theorem fd47 {code : ByteArray} {pc : Nat} (h : u1r code pc = some 47) : decode code pc = .ok (.laload, 1) := dec_of (dec_bind (u1_run h))
theorem fd50 {code : ByteArray} {pc : Nat} (h : u1r code pc = some 50) : decode code pc = .ok (.aaload, 1) := dec_of (dec_bind (u1_run h))
theorem fd51 {code : ByteArray} {pc : Nat} (h : u1r code pc = some 51) : decode code pc = .ok (.baload, 1) := dec_of (dec_bind (u1_run h))
theorem fd52 {code : ByteArray} {pc : Nat} (h : u1r code pc = some 52) : decode code pc = .ok (.caload, 1) := dec_of (dec_bind (u1_run h))
theorem fd55 {code : ByteArray} {pc b1 : Nat} (h : u1r code pc = some 55) (h1 : u1r code (pc + 1) = some b1) : decode code pc = .ok (.lstore b1, 2) := dec_of ((dec_bind (u1_run h)).trans (dec_bind (u1_run h1)))
theorem fd58 {code : ByteArray} {pc b1 : Nat} (h : u1r code pc = some 58) (h1 : u1r code (pc + 1) = some b1) : decode code pc = .ok (.astore b1, 2) := dec_of ((dec_bind (u1_run h)).trans (dec_bind (u1_run h1)))
theorem fd63 {code : ByteArray} {pc : Nat} (h : u1r code pc = some 63) : decode code pc = .ok (.lstore_n 0, 1) := dec_of (dec_bind (u1_run h))
theorem fd64 {code : ByteArray} {pc : Nat} (h : u1r code pc = some 64) : decode code pc = .ok (.lstore_n 1, 1) := dec_of (dec_bind (u1_run h))
theorem fd65 {code : ByteArray} {pc : Nat} (h : u1r code pc = some 65) : decode code pc = .ok (.lstore_n 2, 1) := dec_of (dec_bind (u1_run h))
theorem fd66 {code : ByteArray} {pc : Nat} (h : u1r code pc = some 66) : decode code pc = .ok (.lstore_n 3, 1) := dec_of (dec_bind (u1_run h))
theorem fd75 {code : ByteArray} {pc : Nat} (h : u1r code pc = some 75) : decode code pc = .ok (.astore_n 0, 1) := dec_of (dec_bind (u1_run h))
theorem fd76 {code : ByteArray} {pc : Nat} (h : u1r code pc = some 76) : decode code pc = .ok (.astore_n 1, 1) := dec_of (dec_bind (u1_run h))
theorem fd77 {code : ByteArray} {pc : Nat} (h : u1r code pc = some 77) : decode code pc = .ok (.astore_n 2, 1) := dec_of (dec_bind (u1_run h))
theorem fd78 {code : ByteArray} {pc : Nat} (h : u1r code pc = some 78) : decode code pc = .ok (.astore_n 3, 1) := dec_of (dec_bind (u1_run h))
theorem fd79 {code : ByteArray} {pc : Nat} (h : u1r code pc = some 79) : decode code pc = .ok (.iastore, 1) := dec_of (dec_bind (u1_run h))
theorem fd80 {code : ByteArray} {pc : Nat} (h : u1r code pc = some 80) : decode code pc = .ok (.lastore, 1) := dec_of (dec_bind (u1_run h))
theorem fd83 {code : ByteArray} {pc : Nat} (h : u1r code pc = some 83) : decode code pc = .ok (.aastore, 1) := dec_of (dec_bind (u1_run h))
theorem fd84 {code : ByteArray} {pc : Nat} (h : u1r code pc = some 84) : decode code pc = .ok (.bastore, 1) := dec_of (dec_bind (u1_run h))
theorem fd85 {code : ByteArray} {pc : Nat} (h : u1r code pc = some 85) : decode code pc = .ok (.castore, 1) := dec_of (dec_bind (u1_run h))
theorem fd87 {code : ByteArray} {pc : Nat} (h : u1r code pc = some 87) : decode code pc = .ok (.pop, 1) := dec_of (dec_bind (u1_run h))
theorem fd89 {code : ByteArray} {pc : Nat} (h : u1r code pc = some 89) : decode code pc = .ok (.dup, 1) := dec_of (dec_bind (u1_run h))
theorem fd92 {code : ByteArray} {pc : Nat} (h : u1r code pc = some 92) : decode code pc = .ok (.dup2, 1) := dec_of (dec_bind (u1_run h))
theorem fd97 {code : ByteArray} {pc : Nat} (h : u1r code pc = some 97) : decode code pc = .ok (.ladd, 1) := dec_of (dec_bind (u1_run h))
theorem fd100 {code : ByteArray} {pc : Nat} (h : u1r code pc = some 100) : decode code pc = .ok (.isub, 1) := dec_of (dec_bind (u1_run h))
theorem fd101 {code : ByteArray} {pc : Nat} (h : u1r code pc = some 101) : decode code pc = .ok (.lsub, 1) := dec_of (dec_bind (u1_run h))
theorem fd104 {code : ByteArray} {pc : Nat} (h : u1r code pc = some 104) : decode code pc = .ok (.imul, 1) := dec_of (dec_bind (u1_run h))
theorem fd105 {code : ByteArray} {pc : Nat} (h : u1r code pc = some 105) : decode code pc = .ok (.lmul, 1) := dec_of (dec_bind (u1_run h))
theorem fd108 {code : ByteArray} {pc : Nat} (h : u1r code pc = some 108) : decode code pc = .ok (.idiv, 1) := dec_of (dec_bind (u1_run h))
theorem fd112 {code : ByteArray} {pc : Nat} (h : u1r code pc = some 112) : decode code pc = .ok (.irem, 1) := dec_of (dec_bind (u1_run h))
theorem fd120 {code : ByteArray} {pc : Nat} (h : u1r code pc = some 120) : decode code pc = .ok (.ishl, 1) := dec_of (dec_bind (u1_run h))
theorem fd121 {code : ByteArray} {pc : Nat} (h : u1r code pc = some 121) : decode code pc = .ok (.lshl, 1) := dec_of (dec_bind (u1_run h))
theorem fd122 {code : ByteArray} {pc : Nat} (h : u1r code pc = some 122) : decode code pc = .ok (.ishr, 1) := dec_of (dec_bind (u1_run h))
theorem fd123 {code : ByteArray} {pc : Nat} (h : u1r code pc = some 123) : decode code pc = .ok (.lshr, 1) := dec_of (dec_bind (u1_run h))
theorem fd124 {code : ByteArray} {pc : Nat} (h : u1r code pc = some 124) : decode code pc = .ok (.iushr, 1) := dec_of (dec_bind (u1_run h))
theorem fd125 {code : ByteArray} {pc : Nat} (h : u1r code pc = some 125) : decode code pc = .ok (.lushr, 1) := dec_of (dec_bind (u1_run h))
theorem fd126 {code : ByteArray} {pc : Nat} (h : u1r code pc = some 126) : decode code pc = .ok (.iand, 1) := dec_of (dec_bind (u1_run h))
theorem fd127 {code : ByteArray} {pc : Nat} (h : u1r code pc = some 127) : decode code pc = .ok (.land, 1) := dec_of (dec_bind (u1_run h))
theorem fd128 {code : ByteArray} {pc : Nat} (h : u1r code pc = some 128) : decode code pc = .ok (.ior, 1) := dec_of (dec_bind (u1_run h))
theorem fd129 {code : ByteArray} {pc : Nat} (h : u1r code pc = some 129) : decode code pc = .ok (.lor, 1) := dec_of (dec_bind (u1_run h))
theorem fd133 {code : ByteArray} {pc : Nat} (h : u1r code pc = some 133) : decode code pc = .ok (.i2l, 1) := dec_of (dec_bind (u1_run h))
theorem fd136 {code : ByteArray} {pc : Nat} (h : u1r code pc = some 136) : decode code pc = .ok (.l2i, 1) := dec_of (dec_bind (u1_run h))
theorem fd146 {code : ByteArray} {pc : Nat} (h : u1r code pc = some 146) : decode code pc = .ok (.i2c, 1) := dec_of (dec_bind (u1_run h))
theorem fd148 {code : ByteArray} {pc : Nat} (h : u1r code pc = some 148) : decode code pc = .ok (.lcmp, 1) := dec_of (dec_bind (u1_run h))
theorem fd155 {code : ByteArray} {pc b1 b2 : Nat} (h : u1r code pc = some 155) (h1 : u1r code (pc + 1) = some b1) (h2 : u1r code (pc + 1 + 1) = some b2) : decode code pc = .ok (.ifCond .lt (ClassFile.Reader.signed 16 (b1 * 256 + b2)), 3) := dec_of ((dec_bind (u1_run h)).trans (dec_bind (s2_run h1 h2)))
theorem fd156 {code : ByteArray} {pc b1 b2 : Nat} (h : u1r code pc = some 156) (h1 : u1r code (pc + 1) = some b1) (h2 : u1r code (pc + 1 + 1) = some b2) : decode code pc = .ok (.ifCond .ge (ClassFile.Reader.signed 16 (b1 * 256 + b2)), 3) := dec_of ((dec_bind (u1_run h)).trans (dec_bind (s2_run h1 h2)))
theorem fd157 {code : ByteArray} {pc b1 b2 : Nat} (h : u1r code pc = some 157) (h1 : u1r code (pc + 1) = some b1) (h2 : u1r code (pc + 1 + 1) = some b2) : decode code pc = .ok (.ifCond .gt (ClassFile.Reader.signed 16 (b1 * 256 + b2)), 3) := dec_of ((dec_bind (u1_run h)).trans (dec_bind (s2_run h1 h2)))
theorem fd158 {code : ByteArray} {pc b1 b2 : Nat} (h : u1r code pc = some 158) (h1 : u1r code (pc + 1) = some b1) (h2 : u1r code (pc + 1 + 1) = some b2) : decode code pc = .ok (.ifCond .le (ClassFile.Reader.signed 16 (b1 * 256 + b2)), 3) := dec_of ((dec_bind (u1_run h)).trans (dec_bind (s2_run h1 h2)))
theorem fd159 {code : ByteArray} {pc b1 b2 : Nat} (h : u1r code pc = some 159) (h1 : u1r code (pc + 1) = some b1) (h2 : u1r code (pc + 1 + 1) = some b2) : decode code pc = .ok (.if_icmp .eq (ClassFile.Reader.signed 16 (b1 * 256 + b2)), 3) := dec_of ((dec_bind (u1_run h)).trans (dec_bind (s2_run h1 h2)))
theorem fd163 {code : ByteArray} {pc b1 b2 : Nat} (h : u1r code pc = some 163) (h1 : u1r code (pc + 1) = some b1) (h2 : u1r code (pc + 1 + 1) = some b2) : decode code pc = .ok (.if_icmp .gt (ClassFile.Reader.signed 16 (b1 * 256 + b2)), 3) := dec_of ((dec_bind (u1_run h)).trans (dec_bind (s2_run h1 h2)))
theorem fd164 {code : ByteArray} {pc b1 b2 : Nat} (h : u1r code pc = some 164) (h1 : u1r code (pc + 1) = some b1) (h2 : u1r code (pc + 1 + 1) = some b2) : decode code pc = .ok (.if_icmp .le (ClassFile.Reader.signed 16 (b1 * 256 + b2)), 3) := dec_of ((dec_bind (u1_run h)).trans (dec_bind (s2_run h1 h2)))
theorem fd177 {code : ByteArray} {pc : Nat} (h : u1r code pc = some 177) : decode code pc = .ok (.return_, 1) := dec_of (dec_bind (u1_run h))
theorem fd183 {code : ByteArray} {pc b1 b2 : Nat} (h : u1r code pc = some 183) (h1 : u1r code (pc + 1) = some b1) (h2 : u1r code (pc + 1 + 1) = some b2) : decode code pc = .ok (.invokespecial (b1 * 256 + b2), 3) := dec_of ((dec_bind (u1_run h)).trans (dec_bind (u2_run h1 h2)))
theorem fd187 {code : ByteArray} {pc b1 b2 : Nat} (h : u1r code pc = some 187) (h1 : u1r code (pc + 1) = some b1) (h2 : u1r code (pc + 1 + 1) = some b2) : decode code pc = .ok (.new (b1 * 256 + b2), 3) := dec_of ((dec_bind (u1_run h)).trans (dec_bind (u2_run h1 h2)))
theorem fd189 {code : ByteArray} {pc b1 b2 : Nat} (h : u1r code pc = some 189) (h1 : u1r code (pc + 1) = some b1) (h2 : u1r code (pc + 1 + 1) = some b2) : decode code pc = .ok (.anewarray (b1 * 256 + b2), 3) := dec_of ((dec_bind (u1_run h)).trans (dec_bind (u2_run h1 h2)))
theorem fd190 {code : ByteArray} {pc : Nat} (h : u1r code pc = some 190) : decode code pc = .ok (.arraylength, 1) := dec_of (dec_bind (u1_run h))
theorem fd132 {code : ByteArray} {pc b1 b2 : Nat} (h : u1r code pc = some 132) (h1 : u1r code (pc + 1) = some b1) (h2 : u1r code (pc + 1 + 1) = some b2) : decode code pc = .ok (.iinc b1 (ClassFile.Reader.signed 8 b2), 3) := dec_of ((dec_bind (u1_run h)).trans ((dec_bind (u1_run h1)).trans (dec_bind (s1_run h2))))
def fdk (b0 b1 b2 : Nat) (ins : Instr) (len : Nat) : Bool := match ins with
  | .ireturn => Nat.beq b0 172 && Nat.beq len 1
  | .iaload => Nat.beq b0 46 && Nat.beq len 1
  | .iadd => Nat.beq b0 96 && Nat.beq len 1
  | .laload => Nat.beq b0 47 && Nat.beq len 1
  | .aaload => Nat.beq b0 50 && Nat.beq len 1
  | .baload => Nat.beq b0 51 && Nat.beq len 1
  | .caload => Nat.beq b0 52 && Nat.beq len 1
  | .iastore => Nat.beq b0 79 && Nat.beq len 1
  | .lastore => Nat.beq b0 80 && Nat.beq len 1
  | .aastore => Nat.beq b0 83 && Nat.beq len 1
  | .bastore => Nat.beq b0 84 && Nat.beq len 1
  | .castore => Nat.beq b0 85 && Nat.beq len 1
  | .pop => Nat.beq b0 87 && Nat.beq len 1
  | .dup => Nat.beq b0 89 && Nat.beq len 1
  | .dup2 => Nat.beq b0 92 && Nat.beq len 1
  | .ladd => Nat.beq b0 97 && Nat.beq len 1
  | .isub => Nat.beq b0 100 && Nat.beq len 1
  | .lsub => Nat.beq b0 101 && Nat.beq len 1
  | .imul => Nat.beq b0 104 && Nat.beq len 1
  | .lmul => Nat.beq b0 105 && Nat.beq len 1
  | .idiv => Nat.beq b0 108 && Nat.beq len 1
  | .irem => Nat.beq b0 112 && Nat.beq len 1
  | .ishl => Nat.beq b0 120 && Nat.beq len 1
  | .lshl => Nat.beq b0 121 && Nat.beq len 1
  | .ishr => Nat.beq b0 122 && Nat.beq len 1
  | .lshr => Nat.beq b0 123 && Nat.beq len 1
  | .iushr => Nat.beq b0 124 && Nat.beq len 1
  | .lushr => Nat.beq b0 125 && Nat.beq len 1
  | .iand => Nat.beq b0 126 && Nat.beq len 1
  | .land => Nat.beq b0 127 && Nat.beq len 1
  | .ior => Nat.beq b0 128 && Nat.beq len 1
  | .lor => Nat.beq b0 129 && Nat.beq len 1
  | .i2l => Nat.beq b0 133 && Nat.beq len 1
  | .l2i => Nat.beq b0 136 && Nat.beq len 1
  | .i2c => Nat.beq b0 146 && Nat.beq len 1
  | .lcmp => Nat.beq b0 148 && Nat.beq len 1
  | .return_ => Nat.beq b0 177 && Nat.beq len 1
  | .arraylength => Nat.beq b0 190 && Nat.beq len 1
  | .iload_n k => Nat.beq b0 (26 + k.val) && Nat.beq len 1
  | .lload_n k => Nat.beq b0 (30 + k.val) && Nat.beq len 1
  | .aload_n k => Nat.beq b0 (42 + k.val) && Nat.beq len 1
  | .istore_n k => Nat.beq b0 (59 + k.val) && Nat.beq len 1
  | .lstore_n k => Nat.beq b0 (63 + k.val) && Nat.beq len 1
  | .astore_n k => Nat.beq b0 (75 + k.val) && Nat.beq len 1
  | .iconst n => Nat.ble 2 b0 && (Nat.ble b0 8 && (decide (n = (b0 : Int) - 3) && Nat.beq len 1))
  | .getfield i => Nat.beq b0 180 && (Nat.blt b1 256 && (Nat.blt b2 256 && (Nat.beq (b1 * 256 + b2) i && Nat.beq len 3)))
  | .iload i => Nat.beq b0 21 && (Nat.blt b1 256 && (Nat.beq b1 i && Nat.beq len 2))
  | .bipush v => Nat.beq b0 16 && (Nat.blt b1 256 && (decide (ClassFile.Reader.signed 8 b1 = v) && Nat.beq len 2))
  | .invokevirtual i => Nat.beq b0 182 && (Nat.blt b1 256 && (Nat.blt b2 256 && (Nat.beq (b1 * 256 + b2) i && Nat.beq len 3)))
  | .istore i => Nat.beq b0 54 && (Nat.blt b1 256 && (Nat.beq b1 i && Nat.beq len 2))
  | .invokestatic i => Nat.beq b0 184 && (Nat.blt b1 256 && (Nat.blt b2 256 && (Nat.beq (b1 * 256 + b2) i && Nat.beq len 3)))
  | .putfield i => Nat.beq b0 181 && (Nat.blt b1 256 && (Nat.blt b2 256 && (Nat.beq (b1 * 256 + b2) i && Nat.beq len 3)))
  | .ldc i => Nat.beq b0 18 && (Nat.blt b1 256 && (Nat.beq b1 i && Nat.beq len 2))
  | .ldc_w i => Nat.beq b0 19 && (Nat.blt b1 256 && (Nat.blt b2 256 && (Nat.beq (b1 * 256 + b2) i && Nat.beq len 3)))
  | .ldc2_w i => Nat.beq b0 20 && (Nat.blt b1 256 && (Nat.blt b2 256 && (Nat.beq (b1 * 256 + b2) i && Nat.beq len 3)))
  | .lload i => Nat.beq b0 22 && (Nat.blt b1 256 && (Nat.beq b1 i && Nat.beq len 2))
  | .aload i => Nat.beq b0 25 && (Nat.blt b1 256 && (Nat.beq b1 i && Nat.beq len 2))
  | .lstore i => Nat.beq b0 55 && (Nat.blt b1 256 && (Nat.beq b1 i && Nat.beq len 2))
  | .astore i => Nat.beq b0 58 && (Nat.blt b1 256 && (Nat.beq b1 i && Nat.beq len 2))
  | .invokespecial i => Nat.beq b0 183 && (Nat.blt b1 256 && (Nat.blt b2 256 && (Nat.beq (b1 * 256 + b2) i && Nat.beq len 3)))
  | .new i => Nat.beq b0 187 && (Nat.blt b1 256 && (Nat.blt b2 256 && (Nat.beq (b1 * 256 + b2) i && Nat.beq len 3)))
  | .anewarray i => Nat.beq b0 189 && (Nat.blt b1 256 && (Nat.blt b2 256 && (Nat.beq (b1 * 256 + b2) i && Nat.beq len 3)))
  | .sipush v => Nat.beq b0 17 && (Nat.blt b1 256 && (Nat.blt b2 256 && (decide (ClassFile.Reader.signed 16 (b1 * 256 + b2) = v) && Nat.beq len 3)))
  | .goto v => Nat.beq b0 167 && (Nat.blt b1 256 && (Nat.blt b2 256 && (decide (ClassFile.Reader.signed 16 (b1 * 256 + b2) = v) && Nat.beq len 3)))
  | .ifCond .eq v => Nat.beq b0 153 && (Nat.blt b1 256 && (Nat.blt b2 256 && (decide (ClassFile.Reader.signed 16 (b1 * 256 + b2) = v) && Nat.beq len 3)))
  | .ifCond .ne v => Nat.beq b0 154 && (Nat.blt b1 256 && (Nat.blt b2 256 && (decide (ClassFile.Reader.signed 16 (b1 * 256 + b2) = v) && Nat.beq len 3)))
  | .ifCond .lt v => Nat.beq b0 155 && (Nat.blt b1 256 && (Nat.blt b2 256 && (decide (ClassFile.Reader.signed 16 (b1 * 256 + b2) = v) && Nat.beq len 3)))
  | .ifCond .ge v => Nat.beq b0 156 && (Nat.blt b1 256 && (Nat.blt b2 256 && (decide (ClassFile.Reader.signed 16 (b1 * 256 + b2) = v) && Nat.beq len 3)))
  | .ifCond .gt v => Nat.beq b0 157 && (Nat.blt b1 256 && (Nat.blt b2 256 && (decide (ClassFile.Reader.signed 16 (b1 * 256 + b2) = v) && Nat.beq len 3)))
  | .ifCond .le v => Nat.beq b0 158 && (Nat.blt b1 256 && (Nat.blt b2 256 && (decide (ClassFile.Reader.signed 16 (b1 * 256 + b2) = v) && Nat.beq len 3)))
  | .if_icmp .eq v => Nat.beq b0 159 && (Nat.blt b1 256 && (Nat.blt b2 256 && (decide (ClassFile.Reader.signed 16 (b1 * 256 + b2) = v) && Nat.beq len 3)))
  | .if_icmp .ne v => Nat.beq b0 160 && (Nat.blt b1 256 && (Nat.blt b2 256 && (decide (ClassFile.Reader.signed 16 (b1 * 256 + b2) = v) && Nat.beq len 3)))
  | .if_icmp .lt v => Nat.beq b0 161 && (Nat.blt b1 256 && (Nat.blt b2 256 && (decide (ClassFile.Reader.signed 16 (b1 * 256 + b2) = v) && Nat.beq len 3)))
  | .if_icmp .ge v => Nat.beq b0 162 && (Nat.blt b1 256 && (Nat.blt b2 256 && (decide (ClassFile.Reader.signed 16 (b1 * 256 + b2) = v) && Nat.beq len 3)))
  | .if_icmp .gt v => Nat.beq b0 163 && (Nat.blt b1 256 && (Nat.blt b2 256 && (decide (ClassFile.Reader.signed 16 (b1 * 256 + b2) = v) && Nat.beq len 3)))
  | .if_icmp .le v => Nat.beq b0 164 && (Nat.blt b1 256 && (Nat.blt b2 256 && (decide (ClassFile.Reader.signed 16 (b1 * 256 + b2) = v) && Nat.beq len 3)))
  | .iinc i v => Nat.beq b0 132 && (Nat.blt b1 256 && (Nat.blt b2 256 && (Nat.beq b1 i && (decide (ClassFile.Reader.signed 8 b2 = v) && Nat.beq len 3))))
  | _ => false
def fget (bs : List UInt8) (p : Nat) : Nat := match bs[p]? with
  | some b => b.toNat
  | none => 999
theorem fget_u1 {code : ByteArray} {p v : Nat} (h : fget code.data.toList p = v) (hv : v < 256) : u1r code p = some v := by
  unfold fget at h
  unfold u1r
  cases hb : code.data.toList[p]? with
  | none =>
    rw [hb] at h
    simp only at h
    omega
  | some b =>
    rw [hb] at h
    simp only at h
    have hb2 : code.data[p]? = some b := by rw [← Array.getElem?_toList]; exact hb
    obtain ⟨hlt, he⟩ := Array.getElem?_eq_some_iff.mp hb2
    have hlt2 : p < code.size := hlt
    rw [dif_pos hlt2]
    have he2 : code[p] = b := he
    rw [he2, h]
set_option maxHeartbeats 4000000 in
theorem fdk_ok {code : ByteArray} {pc b0 b1 b2 len : Nat} {ins : Instr} (h0 : b0 < 256 → u1r code pc = some b0) (h1 : b1 < 256 → u1r code (pc + 1) = some b1) (h2 : b2 < 256 → u1r code (pc + 1 + 1) = some b2) (h : fdk b0 b1 b2 ins len = true) : decode code pc = .ok (ins, len) := by
  cases ins with
  | ireturn =>
    have h : (Nat.beq b0 172 && Nat.beq len 1) = true := h
    rw [Bool.and_eq_true] at h
    rw [Nat.beq_eq.mp h.2]
    exact fd172 (by rw [h0 (by rw [Nat.beq_eq.mp h.1]; decide), Nat.beq_eq.mp h.1])
  | iaload =>
    have h : (Nat.beq b0 46 && Nat.beq len 1) = true := h
    rw [Bool.and_eq_true] at h
    rw [Nat.beq_eq.mp h.2]
    exact fd46 (by rw [h0 (by rw [Nat.beq_eq.mp h.1]; decide), Nat.beq_eq.mp h.1])
  | iadd =>
    have h : (Nat.beq b0 96 && Nat.beq len 1) = true := h
    rw [Bool.and_eq_true] at h
    rw [Nat.beq_eq.mp h.2]
    exact fd96 (by rw [h0 (by rw [Nat.beq_eq.mp h.1]; decide), Nat.beq_eq.mp h.1])
  | laload =>
    have h : (Nat.beq b0 47 && Nat.beq len 1) = true := h
    rw [Bool.and_eq_true] at h
    rw [Nat.beq_eq.mp h.2]
    exact fd47 (by rw [h0 (by rw [Nat.beq_eq.mp h.1]; decide), Nat.beq_eq.mp h.1])
  | aaload =>
    have h : (Nat.beq b0 50 && Nat.beq len 1) = true := h
    rw [Bool.and_eq_true] at h
    rw [Nat.beq_eq.mp h.2]
    exact fd50 (by rw [h0 (by rw [Nat.beq_eq.mp h.1]; decide), Nat.beq_eq.mp h.1])
  | baload =>
    have h : (Nat.beq b0 51 && Nat.beq len 1) = true := h
    rw [Bool.and_eq_true] at h
    rw [Nat.beq_eq.mp h.2]
    exact fd51 (by rw [h0 (by rw [Nat.beq_eq.mp h.1]; decide), Nat.beq_eq.mp h.1])
  | caload =>
    have h : (Nat.beq b0 52 && Nat.beq len 1) = true := h
    rw [Bool.and_eq_true] at h
    rw [Nat.beq_eq.mp h.2]
    exact fd52 (by rw [h0 (by rw [Nat.beq_eq.mp h.1]; decide), Nat.beq_eq.mp h.1])
  | iastore =>
    have h : (Nat.beq b0 79 && Nat.beq len 1) = true := h
    rw [Bool.and_eq_true] at h
    rw [Nat.beq_eq.mp h.2]
    exact fd79 (by rw [h0 (by rw [Nat.beq_eq.mp h.1]; decide), Nat.beq_eq.mp h.1])
  | lastore =>
    have h : (Nat.beq b0 80 && Nat.beq len 1) = true := h
    rw [Bool.and_eq_true] at h
    rw [Nat.beq_eq.mp h.2]
    exact fd80 (by rw [h0 (by rw [Nat.beq_eq.mp h.1]; decide), Nat.beq_eq.mp h.1])
  | aastore =>
    have h : (Nat.beq b0 83 && Nat.beq len 1) = true := h
    rw [Bool.and_eq_true] at h
    rw [Nat.beq_eq.mp h.2]
    exact fd83 (by rw [h0 (by rw [Nat.beq_eq.mp h.1]; decide), Nat.beq_eq.mp h.1])
  | bastore =>
    have h : (Nat.beq b0 84 && Nat.beq len 1) = true := h
    rw [Bool.and_eq_true] at h
    rw [Nat.beq_eq.mp h.2]
    exact fd84 (by rw [h0 (by rw [Nat.beq_eq.mp h.1]; decide), Nat.beq_eq.mp h.1])
  | castore =>
    have h : (Nat.beq b0 85 && Nat.beq len 1) = true := h
    rw [Bool.and_eq_true] at h
    rw [Nat.beq_eq.mp h.2]
    exact fd85 (by rw [h0 (by rw [Nat.beq_eq.mp h.1]; decide), Nat.beq_eq.mp h.1])
  | pop =>
    have h : (Nat.beq b0 87 && Nat.beq len 1) = true := h
    rw [Bool.and_eq_true] at h
    rw [Nat.beq_eq.mp h.2]
    exact fd87 (by rw [h0 (by rw [Nat.beq_eq.mp h.1]; decide), Nat.beq_eq.mp h.1])
  | dup =>
    have h : (Nat.beq b0 89 && Nat.beq len 1) = true := h
    rw [Bool.and_eq_true] at h
    rw [Nat.beq_eq.mp h.2]
    exact fd89 (by rw [h0 (by rw [Nat.beq_eq.mp h.1]; decide), Nat.beq_eq.mp h.1])
  | dup2 =>
    have h : (Nat.beq b0 92 && Nat.beq len 1) = true := h
    rw [Bool.and_eq_true] at h
    rw [Nat.beq_eq.mp h.2]
    exact fd92 (by rw [h0 (by rw [Nat.beq_eq.mp h.1]; decide), Nat.beq_eq.mp h.1])
  | ladd =>
    have h : (Nat.beq b0 97 && Nat.beq len 1) = true := h
    rw [Bool.and_eq_true] at h
    rw [Nat.beq_eq.mp h.2]
    exact fd97 (by rw [h0 (by rw [Nat.beq_eq.mp h.1]; decide), Nat.beq_eq.mp h.1])
  | isub =>
    have h : (Nat.beq b0 100 && Nat.beq len 1) = true := h
    rw [Bool.and_eq_true] at h
    rw [Nat.beq_eq.mp h.2]
    exact fd100 (by rw [h0 (by rw [Nat.beq_eq.mp h.1]; decide), Nat.beq_eq.mp h.1])
  | lsub =>
    have h : (Nat.beq b0 101 && Nat.beq len 1) = true := h
    rw [Bool.and_eq_true] at h
    rw [Nat.beq_eq.mp h.2]
    exact fd101 (by rw [h0 (by rw [Nat.beq_eq.mp h.1]; decide), Nat.beq_eq.mp h.1])
  | imul =>
    have h : (Nat.beq b0 104 && Nat.beq len 1) = true := h
    rw [Bool.and_eq_true] at h
    rw [Nat.beq_eq.mp h.2]
    exact fd104 (by rw [h0 (by rw [Nat.beq_eq.mp h.1]; decide), Nat.beq_eq.mp h.1])
  | lmul =>
    have h : (Nat.beq b0 105 && Nat.beq len 1) = true := h
    rw [Bool.and_eq_true] at h
    rw [Nat.beq_eq.mp h.2]
    exact fd105 (by rw [h0 (by rw [Nat.beq_eq.mp h.1]; decide), Nat.beq_eq.mp h.1])
  | idiv =>
    have h : (Nat.beq b0 108 && Nat.beq len 1) = true := h
    rw [Bool.and_eq_true] at h
    rw [Nat.beq_eq.mp h.2]
    exact fd108 (by rw [h0 (by rw [Nat.beq_eq.mp h.1]; decide), Nat.beq_eq.mp h.1])
  | irem =>
    have h : (Nat.beq b0 112 && Nat.beq len 1) = true := h
    rw [Bool.and_eq_true] at h
    rw [Nat.beq_eq.mp h.2]
    exact fd112 (by rw [h0 (by rw [Nat.beq_eq.mp h.1]; decide), Nat.beq_eq.mp h.1])
  | ishl =>
    have h : (Nat.beq b0 120 && Nat.beq len 1) = true := h
    rw [Bool.and_eq_true] at h
    rw [Nat.beq_eq.mp h.2]
    exact fd120 (by rw [h0 (by rw [Nat.beq_eq.mp h.1]; decide), Nat.beq_eq.mp h.1])
  | lshl =>
    have h : (Nat.beq b0 121 && Nat.beq len 1) = true := h
    rw [Bool.and_eq_true] at h
    rw [Nat.beq_eq.mp h.2]
    exact fd121 (by rw [h0 (by rw [Nat.beq_eq.mp h.1]; decide), Nat.beq_eq.mp h.1])
  | ishr =>
    have h : (Nat.beq b0 122 && Nat.beq len 1) = true := h
    rw [Bool.and_eq_true] at h
    rw [Nat.beq_eq.mp h.2]
    exact fd122 (by rw [h0 (by rw [Nat.beq_eq.mp h.1]; decide), Nat.beq_eq.mp h.1])
  | lshr =>
    have h : (Nat.beq b0 123 && Nat.beq len 1) = true := h
    rw [Bool.and_eq_true] at h
    rw [Nat.beq_eq.mp h.2]
    exact fd123 (by rw [h0 (by rw [Nat.beq_eq.mp h.1]; decide), Nat.beq_eq.mp h.1])
  | iushr =>
    have h : (Nat.beq b0 124 && Nat.beq len 1) = true := h
    rw [Bool.and_eq_true] at h
    rw [Nat.beq_eq.mp h.2]
    exact fd124 (by rw [h0 (by rw [Nat.beq_eq.mp h.1]; decide), Nat.beq_eq.mp h.1])
  | lushr =>
    have h : (Nat.beq b0 125 && Nat.beq len 1) = true := h
    rw [Bool.and_eq_true] at h
    rw [Nat.beq_eq.mp h.2]
    exact fd125 (by rw [h0 (by rw [Nat.beq_eq.mp h.1]; decide), Nat.beq_eq.mp h.1])
  | iand =>
    have h : (Nat.beq b0 126 && Nat.beq len 1) = true := h
    rw [Bool.and_eq_true] at h
    rw [Nat.beq_eq.mp h.2]
    exact fd126 (by rw [h0 (by rw [Nat.beq_eq.mp h.1]; decide), Nat.beq_eq.mp h.1])
  | land =>
    have h : (Nat.beq b0 127 && Nat.beq len 1) = true := h
    rw [Bool.and_eq_true] at h
    rw [Nat.beq_eq.mp h.2]
    exact fd127 (by rw [h0 (by rw [Nat.beq_eq.mp h.1]; decide), Nat.beq_eq.mp h.1])
  | ior =>
    have h : (Nat.beq b0 128 && Nat.beq len 1) = true := h
    rw [Bool.and_eq_true] at h
    rw [Nat.beq_eq.mp h.2]
    exact fd128 (by rw [h0 (by rw [Nat.beq_eq.mp h.1]; decide), Nat.beq_eq.mp h.1])
  | lor =>
    have h : (Nat.beq b0 129 && Nat.beq len 1) = true := h
    rw [Bool.and_eq_true] at h
    rw [Nat.beq_eq.mp h.2]
    exact fd129 (by rw [h0 (by rw [Nat.beq_eq.mp h.1]; decide), Nat.beq_eq.mp h.1])
  | i2l =>
    have h : (Nat.beq b0 133 && Nat.beq len 1) = true := h
    rw [Bool.and_eq_true] at h
    rw [Nat.beq_eq.mp h.2]
    exact fd133 (by rw [h0 (by rw [Nat.beq_eq.mp h.1]; decide), Nat.beq_eq.mp h.1])
  | l2i =>
    have h : (Nat.beq b0 136 && Nat.beq len 1) = true := h
    rw [Bool.and_eq_true] at h
    rw [Nat.beq_eq.mp h.2]
    exact fd136 (by rw [h0 (by rw [Nat.beq_eq.mp h.1]; decide), Nat.beq_eq.mp h.1])
  | i2c =>
    have h : (Nat.beq b0 146 && Nat.beq len 1) = true := h
    rw [Bool.and_eq_true] at h
    rw [Nat.beq_eq.mp h.2]
    exact fd146 (by rw [h0 (by rw [Nat.beq_eq.mp h.1]; decide), Nat.beq_eq.mp h.1])
  | lcmp =>
    have h : (Nat.beq b0 148 && Nat.beq len 1) = true := h
    rw [Bool.and_eq_true] at h
    rw [Nat.beq_eq.mp h.2]
    exact fd148 (by rw [h0 (by rw [Nat.beq_eq.mp h.1]; decide), Nat.beq_eq.mp h.1])
  | return_ =>
    have h : (Nat.beq b0 177 && Nat.beq len 1) = true := h
    rw [Bool.and_eq_true] at h
    rw [Nat.beq_eq.mp h.2]
    exact fd177 (by rw [h0 (by rw [Nat.beq_eq.mp h.1]; decide), Nat.beq_eq.mp h.1])
  | arraylength =>
    have h : (Nat.beq b0 190 && Nat.beq len 1) = true := h
    rw [Bool.and_eq_true] at h
    rw [Nat.beq_eq.mp h.2]
    exact fd190 (by rw [h0 (by rw [Nat.beq_eq.mp h.1]; decide), Nat.beq_eq.mp h.1])
  | iload_n k =>
    have h : (Nat.beq b0 (26 + k.val) && Nat.beq len 1) = true := h
    rw [Bool.and_eq_true] at h
    rw [Nat.beq_eq.mp h.2]
    have e := Nat.beq_eq.mp h.1
    match k, e with
    | 0, e => exact fd26 (by rw [h0 (by rw [e]; decide), e]; rfl)
    | 1, e => exact fd27 (by rw [h0 (by rw [e]; decide), e]; rfl)
    | 2, e => exact fd28 (by rw [h0 (by rw [e]; decide), e]; rfl)
    | 3, e => exact fd29 (by rw [h0 (by rw [e]; decide), e]; rfl)
  | lload_n k =>
    have h : (Nat.beq b0 (30 + k.val) && Nat.beq len 1) = true := h
    rw [Bool.and_eq_true] at h
    rw [Nat.beq_eq.mp h.2]
    have e := Nat.beq_eq.mp h.1
    match k, e with
    | 0, e => exact fd30 (by rw [h0 (by rw [e]; decide), e]; rfl)
    | 1, e => exact fd31 (by rw [h0 (by rw [e]; decide), e]; rfl)
    | 2, e => exact fd32 (by rw [h0 (by rw [e]; decide), e]; rfl)
    | 3, e => exact fd33 (by rw [h0 (by rw [e]; decide), e]; rfl)
  | aload_n k =>
    have h : (Nat.beq b0 (42 + k.val) && Nat.beq len 1) = true := h
    rw [Bool.and_eq_true] at h
    rw [Nat.beq_eq.mp h.2]
    have e := Nat.beq_eq.mp h.1
    match k, e with
    | 0, e => exact fd42 (by rw [h0 (by rw [e]; decide), e]; rfl)
    | 1, e => exact fd43 (by rw [h0 (by rw [e]; decide), e]; rfl)
    | 2, e => exact fd44 (by rw [h0 (by rw [e]; decide), e]; rfl)
    | 3, e => exact fd45 (by rw [h0 (by rw [e]; decide), e]; rfl)
  | istore_n k =>
    have h : (Nat.beq b0 (59 + k.val) && Nat.beq len 1) = true := h
    rw [Bool.and_eq_true] at h
    rw [Nat.beq_eq.mp h.2]
    have e := Nat.beq_eq.mp h.1
    match k, e with
    | 0, e => exact fd59 (by rw [h0 (by rw [e]; decide), e]; rfl)
    | 1, e => exact fd60 (by rw [h0 (by rw [e]; decide), e]; rfl)
    | 2, e => exact fd61 (by rw [h0 (by rw [e]; decide), e]; rfl)
    | 3, e => exact fd62 (by rw [h0 (by rw [e]; decide), e]; rfl)
  | lstore_n k =>
    have h : (Nat.beq b0 (63 + k.val) && Nat.beq len 1) = true := h
    rw [Bool.and_eq_true] at h
    rw [Nat.beq_eq.mp h.2]
    have e := Nat.beq_eq.mp h.1
    match k, e with
    | 0, e => exact fd63 (by rw [h0 (by rw [e]; decide), e]; rfl)
    | 1, e => exact fd64 (by rw [h0 (by rw [e]; decide), e]; rfl)
    | 2, e => exact fd65 (by rw [h0 (by rw [e]; decide), e]; rfl)
    | 3, e => exact fd66 (by rw [h0 (by rw [e]; decide), e]; rfl)
  | astore_n k =>
    have h : (Nat.beq b0 (75 + k.val) && Nat.beq len 1) = true := h
    rw [Bool.and_eq_true] at h
    rw [Nat.beq_eq.mp h.2]
    have e := Nat.beq_eq.mp h.1
    match k, e with
    | 0, e => exact fd75 (by rw [h0 (by rw [e]; decide), e]; rfl)
    | 1, e => exact fd76 (by rw [h0 (by rw [e]; decide), e]; rfl)
    | 2, e => exact fd77 (by rw [h0 (by rw [e]; decide), e]; rfl)
    | 3, e => exact fd78 (by rw [h0 (by rw [e]; decide), e]; rfl)
  | iconst n =>
    have h : (Nat.ble 2 b0 && (Nat.ble b0 8 && (decide (n = (b0 : Int) - 3) && Nat.beq len 1))) = true := h
    simp only [Bool.and_eq_true] at h
    obtain ⟨g1, g2, g3, g4⟩ := h
    have l1 := Nat.le_of_ble_eq_true g1
    have l2 := Nat.le_of_ble_eq_true g2
    have en := of_decide_eq_true g3
    rw [Nat.beq_eq.mp g4]
    have h9 := h0 (by omega)
    rcases (show b0 = 2 ∨ b0 = 3 ∨ b0 = 4 ∨ b0 = 5 ∨ b0 = 6 ∨ b0 = 7 ∨ b0 = 8 by omega) with e | e | e | e | e | e | e
    · subst e
      rw [show n = -1 by omega]
      exact fd2 h9
    · subst e
      rw [show n = 0 by omega]
      exact fd3 h9
    · subst e
      rw [show n = 1 by omega]
      exact fd4 h9
    · subst e
      rw [show n = 2 by omega]
      exact fd5 h9
    · subst e
      rw [show n = 3 by omega]
      exact fd6 h9
    · subst e
      rw [show n = 4 by omega]
      exact fd7 h9
    · subst e
      rw [show n = 5 by omega]
      exact fd8 h9
  | getfield i =>
    have h : (Nat.beq b0 180 && (Nat.blt b1 256 && (Nat.blt b2 256 && (Nat.beq (b1 * 256 + b2) i && Nat.beq len 3)))) = true := h
    simp only [Bool.and_eq_true] at h
    obtain ⟨g1, g2, g3, g4, g5⟩ := h
    rw [Nat.beq_eq.mp g5, ← Nat.beq_eq.mp g4]
    exact fd180 (by rw [h0 (by rw [Nat.beq_eq.mp g1]; decide), Nat.beq_eq.mp g1]) (h1 (zblt g2)) (h2 (zblt g3))
  | iload i =>
    have h : (Nat.beq b0 21 && (Nat.blt b1 256 && (Nat.beq b1 i && Nat.beq len 2))) = true := h
    simp only [Bool.and_eq_true] at h
    obtain ⟨g1, g2, g3, g4⟩ := h
    rw [Nat.beq_eq.mp g4, ← Nat.beq_eq.mp g3]
    exact fd21 (by rw [h0 (by rw [Nat.beq_eq.mp g1]; decide), Nat.beq_eq.mp g1]) (h1 (zblt g2))
  | bipush v =>
    have h : (Nat.beq b0 16 && (Nat.blt b1 256 && (decide (ClassFile.Reader.signed 8 b1 = v) && Nat.beq len 2))) = true := h
    simp only [Bool.and_eq_true] at h
    obtain ⟨g1, g2, g3, g4⟩ := h
    rw [Nat.beq_eq.mp g4, ← of_decide_eq_true g3]
    exact fd16 (by rw [h0 (by rw [Nat.beq_eq.mp g1]; decide), Nat.beq_eq.mp g1]) (h1 (zblt g2))
  | invokevirtual i =>
    have h : (Nat.beq b0 182 && (Nat.blt b1 256 && (Nat.blt b2 256 && (Nat.beq (b1 * 256 + b2) i && Nat.beq len 3)))) = true := h
    simp only [Bool.and_eq_true] at h
    obtain ⟨g1, g2, g3, g4, g5⟩ := h
    rw [Nat.beq_eq.mp g5, ← Nat.beq_eq.mp g4]
    exact fd182 (by rw [h0 (by rw [Nat.beq_eq.mp g1]; decide), Nat.beq_eq.mp g1]) (h1 (zblt g2)) (h2 (zblt g3))
  | istore i =>
    have h : (Nat.beq b0 54 && (Nat.blt b1 256 && (Nat.beq b1 i && Nat.beq len 2))) = true := h
    simp only [Bool.and_eq_true] at h
    obtain ⟨g1, g2, g3, g4⟩ := h
    rw [Nat.beq_eq.mp g4, ← Nat.beq_eq.mp g3]
    exact fd54 (by rw [h0 (by rw [Nat.beq_eq.mp g1]; decide), Nat.beq_eq.mp g1]) (h1 (zblt g2))
  | invokestatic i =>
    have h : (Nat.beq b0 184 && (Nat.blt b1 256 && (Nat.blt b2 256 && (Nat.beq (b1 * 256 + b2) i && Nat.beq len 3)))) = true := h
    simp only [Bool.and_eq_true] at h
    obtain ⟨g1, g2, g3, g4, g5⟩ := h
    rw [Nat.beq_eq.mp g5, ← Nat.beq_eq.mp g4]
    exact fd184 (by rw [h0 (by rw [Nat.beq_eq.mp g1]; decide), Nat.beq_eq.mp g1]) (h1 (zblt g2)) (h2 (zblt g3))
  | putfield i =>
    have h : (Nat.beq b0 181 && (Nat.blt b1 256 && (Nat.blt b2 256 && (Nat.beq (b1 * 256 + b2) i && Nat.beq len 3)))) = true := h
    simp only [Bool.and_eq_true] at h
    obtain ⟨g1, g2, g3, g4, g5⟩ := h
    rw [Nat.beq_eq.mp g5, ← Nat.beq_eq.mp g4]
    exact fd181 (by rw [h0 (by rw [Nat.beq_eq.mp g1]; decide), Nat.beq_eq.mp g1]) (h1 (zblt g2)) (h2 (zblt g3))
  | ldc i =>
    have h : (Nat.beq b0 18 && (Nat.blt b1 256 && (Nat.beq b1 i && Nat.beq len 2))) = true := h
    simp only [Bool.and_eq_true] at h
    obtain ⟨g1, g2, g3, g4⟩ := h
    rw [Nat.beq_eq.mp g4, ← Nat.beq_eq.mp g3]
    exact fd18 (by rw [h0 (by rw [Nat.beq_eq.mp g1]; decide), Nat.beq_eq.mp g1]) (h1 (zblt g2))
  | ldc_w i =>
    have h : (Nat.beq b0 19 && (Nat.blt b1 256 && (Nat.blt b2 256 && (Nat.beq (b1 * 256 + b2) i && Nat.beq len 3)))) = true := h
    simp only [Bool.and_eq_true] at h
    obtain ⟨g1, g2, g3, g4, g5⟩ := h
    rw [Nat.beq_eq.mp g5, ← Nat.beq_eq.mp g4]
    exact fd19 (by rw [h0 (by rw [Nat.beq_eq.mp g1]; decide), Nat.beq_eq.mp g1]) (h1 (zblt g2)) (h2 (zblt g3))
  | ldc2_w i =>
    have h : (Nat.beq b0 20 && (Nat.blt b1 256 && (Nat.blt b2 256 && (Nat.beq (b1 * 256 + b2) i && Nat.beq len 3)))) = true := h
    simp only [Bool.and_eq_true] at h
    obtain ⟨g1, g2, g3, g4, g5⟩ := h
    rw [Nat.beq_eq.mp g5, ← Nat.beq_eq.mp g4]
    exact fd20 (by rw [h0 (by rw [Nat.beq_eq.mp g1]; decide), Nat.beq_eq.mp g1]) (h1 (zblt g2)) (h2 (zblt g3))
  | lload i =>
    have h : (Nat.beq b0 22 && (Nat.blt b1 256 && (Nat.beq b1 i && Nat.beq len 2))) = true := h
    simp only [Bool.and_eq_true] at h
    obtain ⟨g1, g2, g3, g4⟩ := h
    rw [Nat.beq_eq.mp g4, ← Nat.beq_eq.mp g3]
    exact fd22 (by rw [h0 (by rw [Nat.beq_eq.mp g1]; decide), Nat.beq_eq.mp g1]) (h1 (zblt g2))
  | aload i =>
    have h : (Nat.beq b0 25 && (Nat.blt b1 256 && (Nat.beq b1 i && Nat.beq len 2))) = true := h
    simp only [Bool.and_eq_true] at h
    obtain ⟨g1, g2, g3, g4⟩ := h
    rw [Nat.beq_eq.mp g4, ← Nat.beq_eq.mp g3]
    exact fd25 (by rw [h0 (by rw [Nat.beq_eq.mp g1]; decide), Nat.beq_eq.mp g1]) (h1 (zblt g2))
  | lstore i =>
    have h : (Nat.beq b0 55 && (Nat.blt b1 256 && (Nat.beq b1 i && Nat.beq len 2))) = true := h
    simp only [Bool.and_eq_true] at h
    obtain ⟨g1, g2, g3, g4⟩ := h
    rw [Nat.beq_eq.mp g4, ← Nat.beq_eq.mp g3]
    exact fd55 (by rw [h0 (by rw [Nat.beq_eq.mp g1]; decide), Nat.beq_eq.mp g1]) (h1 (zblt g2))
  | astore i =>
    have h : (Nat.beq b0 58 && (Nat.blt b1 256 && (Nat.beq b1 i && Nat.beq len 2))) = true := h
    simp only [Bool.and_eq_true] at h
    obtain ⟨g1, g2, g3, g4⟩ := h
    rw [Nat.beq_eq.mp g4, ← Nat.beq_eq.mp g3]
    exact fd58 (by rw [h0 (by rw [Nat.beq_eq.mp g1]; decide), Nat.beq_eq.mp g1]) (h1 (zblt g2))
  | invokespecial i =>
    have h : (Nat.beq b0 183 && (Nat.blt b1 256 && (Nat.blt b2 256 && (Nat.beq (b1 * 256 + b2) i && Nat.beq len 3)))) = true := h
    simp only [Bool.and_eq_true] at h
    obtain ⟨g1, g2, g3, g4, g5⟩ := h
    rw [Nat.beq_eq.mp g5, ← Nat.beq_eq.mp g4]
    exact fd183 (by rw [h0 (by rw [Nat.beq_eq.mp g1]; decide), Nat.beq_eq.mp g1]) (h1 (zblt g2)) (h2 (zblt g3))
  | new i =>
    have h : (Nat.beq b0 187 && (Nat.blt b1 256 && (Nat.blt b2 256 && (Nat.beq (b1 * 256 + b2) i && Nat.beq len 3)))) = true := h
    simp only [Bool.and_eq_true] at h
    obtain ⟨g1, g2, g3, g4, g5⟩ := h
    rw [Nat.beq_eq.mp g5, ← Nat.beq_eq.mp g4]
    exact fd187 (by rw [h0 (by rw [Nat.beq_eq.mp g1]; decide), Nat.beq_eq.mp g1]) (h1 (zblt g2)) (h2 (zblt g3))
  | anewarray i =>
    have h : (Nat.beq b0 189 && (Nat.blt b1 256 && (Nat.blt b2 256 && (Nat.beq (b1 * 256 + b2) i && Nat.beq len 3)))) = true := h
    simp only [Bool.and_eq_true] at h
    obtain ⟨g1, g2, g3, g4, g5⟩ := h
    rw [Nat.beq_eq.mp g5, ← Nat.beq_eq.mp g4]
    exact fd189 (by rw [h0 (by rw [Nat.beq_eq.mp g1]; decide), Nat.beq_eq.mp g1]) (h1 (zblt g2)) (h2 (zblt g3))
  | sipush v =>
    have h : (Nat.beq b0 17 && (Nat.blt b1 256 && (Nat.blt b2 256 && (decide (ClassFile.Reader.signed 16 (b1 * 256 + b2) = v) && Nat.beq len 3)))) = true := h
    simp only [Bool.and_eq_true] at h
    obtain ⟨g1, g2, g3, g4, g5⟩ := h
    rw [Nat.beq_eq.mp g5, ← of_decide_eq_true g4]
    exact fd17 (by rw [h0 (by rw [Nat.beq_eq.mp g1]; decide), Nat.beq_eq.mp g1]) (h1 (zblt g2)) (h2 (zblt g3))
  | goto v =>
    have h : (Nat.beq b0 167 && (Nat.blt b1 256 && (Nat.blt b2 256 && (decide (ClassFile.Reader.signed 16 (b1 * 256 + b2) = v) && Nat.beq len 3)))) = true := h
    simp only [Bool.and_eq_true] at h
    obtain ⟨g1, g2, g3, g4, g5⟩ := h
    rw [Nat.beq_eq.mp g5, ← of_decide_eq_true g4]
    exact fd167 (by rw [h0 (by rw [Nat.beq_eq.mp g1]; decide), Nat.beq_eq.mp g1]) (h1 (zblt g2)) (h2 (zblt g3))
  | iinc i v =>
    have h : (Nat.beq b0 132 && (Nat.blt b1 256 && (Nat.blt b2 256 && (Nat.beq b1 i && (decide (ClassFile.Reader.signed 8 b2 = v) && Nat.beq len 3))))) = true := h
    simp only [Bool.and_eq_true] at h
    obtain ⟨g1, g2, g3, g4, g5, g6⟩ := h
    rw [Nat.beq_eq.mp g6, ← of_decide_eq_true g5, ← Nat.beq_eq.mp g4]
    exact fd132 (by rw [h0 (by rw [Nat.beq_eq.mp g1]; decide), Nat.beq_eq.mp g1]) (h1 (zblt g2)) (h2 (zblt g3))
  | ifCond c v =>
    cases c with
    | eq =>
      have h : (Nat.beq b0 153 && (Nat.blt b1 256 && (Nat.blt b2 256 && (decide (ClassFile.Reader.signed 16 (b1 * 256 + b2) = v) && Nat.beq len 3)))) = true := h
      simp only [Bool.and_eq_true] at h
      obtain ⟨g1, g2, g3, g4, g5⟩ := h
      rw [Nat.beq_eq.mp g5, ← of_decide_eq_true g4]
      exact fd153 (by rw [h0 (by rw [Nat.beq_eq.mp g1]; decide), Nat.beq_eq.mp g1]) (h1 (zblt g2)) (h2 (zblt g3))
    | ne =>
      have h : (Nat.beq b0 154 && (Nat.blt b1 256 && (Nat.blt b2 256 && (decide (ClassFile.Reader.signed 16 (b1 * 256 + b2) = v) && Nat.beq len 3)))) = true := h
      simp only [Bool.and_eq_true] at h
      obtain ⟨g1, g2, g3, g4, g5⟩ := h
      rw [Nat.beq_eq.mp g5, ← of_decide_eq_true g4]
      exact fd154 (by rw [h0 (by rw [Nat.beq_eq.mp g1]; decide), Nat.beq_eq.mp g1]) (h1 (zblt g2)) (h2 (zblt g3))
    | lt =>
      have h : (Nat.beq b0 155 && (Nat.blt b1 256 && (Nat.blt b2 256 && (decide (ClassFile.Reader.signed 16 (b1 * 256 + b2) = v) && Nat.beq len 3)))) = true := h
      simp only [Bool.and_eq_true] at h
      obtain ⟨g1, g2, g3, g4, g5⟩ := h
      rw [Nat.beq_eq.mp g5, ← of_decide_eq_true g4]
      exact fd155 (by rw [h0 (by rw [Nat.beq_eq.mp g1]; decide), Nat.beq_eq.mp g1]) (h1 (zblt g2)) (h2 (zblt g3))
    | ge =>
      have h : (Nat.beq b0 156 && (Nat.blt b1 256 && (Nat.blt b2 256 && (decide (ClassFile.Reader.signed 16 (b1 * 256 + b2) = v) && Nat.beq len 3)))) = true := h
      simp only [Bool.and_eq_true] at h
      obtain ⟨g1, g2, g3, g4, g5⟩ := h
      rw [Nat.beq_eq.mp g5, ← of_decide_eq_true g4]
      exact fd156 (by rw [h0 (by rw [Nat.beq_eq.mp g1]; decide), Nat.beq_eq.mp g1]) (h1 (zblt g2)) (h2 (zblt g3))
    | gt =>
      have h : (Nat.beq b0 157 && (Nat.blt b1 256 && (Nat.blt b2 256 && (decide (ClassFile.Reader.signed 16 (b1 * 256 + b2) = v) && Nat.beq len 3)))) = true := h
      simp only [Bool.and_eq_true] at h
      obtain ⟨g1, g2, g3, g4, g5⟩ := h
      rw [Nat.beq_eq.mp g5, ← of_decide_eq_true g4]
      exact fd157 (by rw [h0 (by rw [Nat.beq_eq.mp g1]; decide), Nat.beq_eq.mp g1]) (h1 (zblt g2)) (h2 (zblt g3))
    | le =>
      have h : (Nat.beq b0 158 && (Nat.blt b1 256 && (Nat.blt b2 256 && (decide (ClassFile.Reader.signed 16 (b1 * 256 + b2) = v) && Nat.beq len 3)))) = true := h
      simp only [Bool.and_eq_true] at h
      obtain ⟨g1, g2, g3, g4, g5⟩ := h
      rw [Nat.beq_eq.mp g5, ← of_decide_eq_true g4]
      exact fd158 (by rw [h0 (by rw [Nat.beq_eq.mp g1]; decide), Nat.beq_eq.mp g1]) (h1 (zblt g2)) (h2 (zblt g3))
  | if_icmp c v =>
    cases c with
    | eq =>
      have h : (Nat.beq b0 159 && (Nat.blt b1 256 && (Nat.blt b2 256 && (decide (ClassFile.Reader.signed 16 (b1 * 256 + b2) = v) && Nat.beq len 3)))) = true := h
      simp only [Bool.and_eq_true] at h
      obtain ⟨g1, g2, g3, g4, g5⟩ := h
      rw [Nat.beq_eq.mp g5, ← of_decide_eq_true g4]
      exact fd159 (by rw [h0 (by rw [Nat.beq_eq.mp g1]; decide), Nat.beq_eq.mp g1]) (h1 (zblt g2)) (h2 (zblt g3))
    | ne =>
      have h : (Nat.beq b0 160 && (Nat.blt b1 256 && (Nat.blt b2 256 && (decide (ClassFile.Reader.signed 16 (b1 * 256 + b2) = v) && Nat.beq len 3)))) = true := h
      simp only [Bool.and_eq_true] at h
      obtain ⟨g1, g2, g3, g4, g5⟩ := h
      rw [Nat.beq_eq.mp g5, ← of_decide_eq_true g4]
      exact fd160 (by rw [h0 (by rw [Nat.beq_eq.mp g1]; decide), Nat.beq_eq.mp g1]) (h1 (zblt g2)) (h2 (zblt g3))
    | lt =>
      have h : (Nat.beq b0 161 && (Nat.blt b1 256 && (Nat.blt b2 256 && (decide (ClassFile.Reader.signed 16 (b1 * 256 + b2) = v) && Nat.beq len 3)))) = true := h
      simp only [Bool.and_eq_true] at h
      obtain ⟨g1, g2, g3, g4, g5⟩ := h
      rw [Nat.beq_eq.mp g5, ← of_decide_eq_true g4]
      exact fd161 (by rw [h0 (by rw [Nat.beq_eq.mp g1]; decide), Nat.beq_eq.mp g1]) (h1 (zblt g2)) (h2 (zblt g3))
    | ge =>
      have h : (Nat.beq b0 162 && (Nat.blt b1 256 && (Nat.blt b2 256 && (decide (ClassFile.Reader.signed 16 (b1 * 256 + b2) = v) && Nat.beq len 3)))) = true := h
      simp only [Bool.and_eq_true] at h
      obtain ⟨g1, g2, g3, g4, g5⟩ := h
      rw [Nat.beq_eq.mp g5, ← of_decide_eq_true g4]
      exact fd162 (by rw [h0 (by rw [Nat.beq_eq.mp g1]; decide), Nat.beq_eq.mp g1]) (h1 (zblt g2)) (h2 (zblt g3))
    | gt =>
      have h : (Nat.beq b0 163 && (Nat.blt b1 256 && (Nat.blt b2 256 && (decide (ClassFile.Reader.signed 16 (b1 * 256 + b2) = v) && Nat.beq len 3)))) = true := h
      simp only [Bool.and_eq_true] at h
      obtain ⟨g1, g2, g3, g4, g5⟩ := h
      rw [Nat.beq_eq.mp g5, ← of_decide_eq_true g4]
      exact fd163 (by rw [h0 (by rw [Nat.beq_eq.mp g1]; decide), Nat.beq_eq.mp g1]) (h1 (zblt g2)) (h2 (zblt g3))
    | le =>
      have h : (Nat.beq b0 164 && (Nat.blt b1 256 && (Nat.blt b2 256 && (decide (ClassFile.Reader.signed 16 (b1 * 256 + b2) = v) && Nat.beq len 3)))) = true := h
      simp only [Bool.and_eq_true] at h
      obtain ⟨g1, g2, g3, g4, g5⟩ := h
      rw [Nat.beq_eq.mp g5, ← of_decide_eq_true g4]
      exact fd164 (by rw [h0 (by rw [Nat.beq_eq.mp g1]; decide), Nat.beq_eq.mp g1]) (h1 (zblt g2)) (h2 (zblt g3))
  | _ => cases h
/-- a byte list from a place on -/
def sokF (zm : List ZMe) (me : ZMe) (q : ZI) : Bool := cond (fdk (fget me.2.2.1.data.toList q.1) (fget me.2.2.1.data.toList (q.1 + 1)) (fget me.2.2.1.data.toList (q.1 + 1 + 1)) q.2.1 q.2.2.1) true (decide (decode me.2.2.1 q.1 = .ok (q.2.1, q.2.2.1))) && (szlok q.2.1 q.2.2.1 && (slk0 me.1 q.2.1 q.2.2.2 && slkc zm me.1 q.2.1 q.2.2.2))
theorem sokF_ok {zm : List ZMe} {me : ZMe} {q : ZI} (h : sokF zm me q = true) : sok zm me q = true := by
  unfold sokF at h
  unfold sok
  rw [Bool.and_eq_true] at h ⊢
  refine ⟨?_, h.2⟩
  cases hr : fdk (fget me.2.2.1.data.toList q.1) (fget me.2.2.1.data.toList (q.1 + 1)) (fget me.2.2.1.data.toList (q.1 + 1 + 1)) q.2.1 q.2.2.1 with
  | false =>
    rw [hr, cond_false] at h
    exact h.1
  | true => exact decide_eq_true (fdk_ok (fun z => fget_u1 rfl z) (fun z => fget_u1 rfl z) (fun z => fget_u1 rfl z) hr)
/-! the rows of a method, walked along its bytes -/
noncomputable def fdrop (bs : List UInt8) (n : Nat) : List UInt8 := Nat.rec (motive := fun _ => List UInt8 → List UInt8) (fun l => l) (fun _ ih l => List.casesOn (motive := fun _ => List UInt8) l [] (fun _ t => ih t)) n bs
theorem fdrop_eq (n : Nat) : ∀ bs : List UInt8, fdrop bs n = bs.drop n := by
  induction n with
  | zero => intro bs; rfl
  | succ n ih =>
    intro bs
    cases bs with
    | nil => rfl
    | cons b t => exact ih t
def fhd (l : List UInt8) : Nat := match l with
  | [] => 999
  | b :: _ => b.toNat
def ftl (l : List UInt8) : List UInt8 := match l with
  | [] => []
  | _ :: t => t
noncomputable def fwk (zm : List ZMe) (me : ZMe) (l : List ZI) : List UInt8 → Nat → Bool := List.rec (motive := fun _ => List UInt8 → Nat → Bool) (fun _ _ => true) (fun q _ ih bs pos => cond (Nat.ble pos q.1) (List.casesOn (motive := fun _ => Bool) (fdrop bs (q.1 - pos)) false (fun b0 t => cond (cond (fdk b0.toNat (fhd t) (fhd (ftl t)) q.2.1 q.2.2.1) true (decide (decode me.2.2.1 q.1 = .ok (q.2.1, q.2.2.1)))) (cond (szlok q.2.1 q.2.2.1 && (slk0 me.1 q.2.1 q.2.2.2 && slkc zm me.1 q.2.1 q.2.2.2)) (ih (b0 :: t) q.1) false) false)) false) l
theorem fat {bs : List UInt8} {p : Nat} {b : UInt8} {t : List UInt8} (h : bs.drop p = b :: t) : bs[p]? = some b := by
  have := List.getElem?_drop (xs := bs) (i := p) (j := 0)
  rw [h, Nat.add_zero] at this
  exact this.symm
theorem ftlb {bs : List UInt8} {p : Nat} {b : UInt8} {t : List UInt8} (h : bs.drop p = b :: t) : bs.drop (p + 1) = t := by
  rw [← List.drop_drop, h]
  rfl
theorem fhd_u1 {code : ByteArray} {p : Nat} {l : List UInt8} (h : code.data.toList.drop p = l) (hv : fhd l < 256) : u1r code p = some (fhd l) := by
  cases l with
  | nil =>
    have : (999 : Nat) < 256 := hv
    omega
  | cons b t =>
    refine fget_u1 ?_ hv
    unfold fget
    rw [fat h]
    rfl
theorem fwk_ok {zm : List ZMe} {me : ZMe} : ∀ {l : List ZI} {bs : List UInt8} {pos : Nat}, me.2.2.1.data.toList.drop pos = bs → fwk zm me l bs pos = true → ∀ q ∈ l, sok zm me q = true := by
  intro l
  induction l with
  | nil => intro bs pos _ _ q h; cases h
  | cons q r ih =>
    intro bs pos hbs h
    have h : cond (Nat.ble pos q.1) (List.casesOn (motive := fun _ => Bool) (fdrop bs (q.1 - pos)) false (fun b0 t => cond (cond (fdk b0.toNat (fhd t) (fhd (ftl t)) q.2.1 q.2.2.1) true (decide (decode me.2.2.1 q.1 = .ok (q.2.1, q.2.2.1)))) (cond (szlok q.2.1 q.2.2.1 && (slk0 me.1 q.2.1 q.2.2.2 && slkc zm me.1 q.2.1 q.2.2.2)) (fwk zm me r (b0 :: t) q.1) false) false)) false = true := h
    obtain ⟨hle, h⟩ := bcond h
    have hle := Nat.le_of_ble_eq_true hle
    have hd : me.2.2.1.data.toList.drop q.1 = fdrop bs (q.1 - pos) := by
      rw [fdrop_eq, ← hbs, List.drop_drop]
      congr 1
      omega
    cases hf : fdrop bs (q.1 - pos) with
    | nil => rw [hf] at h; cases h
    | cons b0 t =>
      rw [hf] at h hd
      obtain ⟨h1, h⟩ := bcond h
      obtain ⟨h2, h3⟩ := bcond h
      intro q' hq'
      rcases List.mem_cons.mp hq' with rfl | hq'
      · unfold sok
        rw [Bool.and_eq_true]
        refine ⟨?_, h2⟩
        cases hk : fdk b0.toNat (fhd t) (fhd (ftl t)) q'.2.1 q'.2.2.1 with
        | false =>
          rw [hk, cond_false] at h1
          exact h1
        | true =>
          have e1 := ftlb hd
          have e2 : me.2.2.1.data.toList.drop (q'.1 + 1 + 1) = ftl t := by
            cases t with
            | nil =>
              rw [← List.drop_drop, e1]
              rfl
            | cons b1 t1 => exact ftlb e1
          exact decide_eq_true (fdk_ok (fun z => fhd_u1 (l := b0 :: t) hd z) (fun z => fhd_u1 e1 z) (fun z => fhd_u1 e2 z) hk)
      · exact ih hd h3 q' hq'
