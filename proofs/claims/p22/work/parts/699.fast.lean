/-! decode rows by a function of our own -/
def u1r (code : ByteArray) (p : Nat) : Option Nat := if h : p < code.size then some code[p].toNat else none
theorem u1_run {code : ByteArray} {p n : Nat} (h : u1r code p = some n) : (ClassFile.Reader.u1 : ClassFile.Decoder Nat).runAt code p = .ok (n, p + 1) := by
  unfold u1r at h
  by_cases hp : p < code.size
  · rw [dif_pos hp] at h
    cases h
    show (if h : p < code.size then _ else _ : ClassFile.Decoder Nat).runAt code p = _
    rw [dif_pos hp]
    rfl
  · rw [dif_neg hp] at h
    cases h
theorem dec_bind {α β : Type} {r : ClassFile.Decoder α} {f : α → ClassFile.Decoder β} {code : ByteArray} {p q : Nat} {a : α} (h : r.runAt code p = .ok (a, q)) : (r >>= f).runAt code p = (f a).runAt code q := by
  show ((r.run code).run p >>= fun x => ((f x.1).run code).run x.2) = _
  rw [show (r.run code).run p = .ok (a, q) from h]
  rfl
theorem u2_run {code : ByteArray} {p b1 b2 : Nat} (h1 : u1r code p = some b1) (h2 : u1r code (p + 1) = some b2) : (ClassFile.Reader.u2 : ClassFile.Decoder Nat).runAt code p = .ok (b1 * 256 + b2, p + 2) := by
  unfold ClassFile.Reader.u2
  rw [dec_bind (u1_run h1), dec_bind (u1_run h2)]
  rfl
theorem s1_run {code : ByteArray} {p b1 : Nat} (h1 : u1r code p = some b1) : (ClassFile.Reader.s1 : ClassFile.Decoder Int).runAt code p = .ok (ClassFile.Reader.signed 8 b1, p + 1) := by
  show (ClassFile.Reader.u1 >>= fun x => pure (ClassFile.Reader.signed 8 x) : ClassFile.Decoder Int).runAt code p = _
  rw [dec_bind (u1_run h1)]
  rfl
theorem s2_run {code : ByteArray} {p b1 b2 : Nat} (h1 : u1r code p = some b1) (h2 : u1r code (p + 1) = some b2) : (ClassFile.Reader.s2 : ClassFile.Decoder Int).runAt code p = .ok (ClassFile.Reader.signed 16 (b1 * 256 + b2), p + 2) := by
  show (ClassFile.Reader.u2 >>= fun x => pure (ClassFile.Reader.signed 16 x) : ClassFile.Decoder Int).runAt code p = _
  rw [dec_bind (u2_run h1 h2)]
  rfl
theorem dec_of {code : ByteArray} {pc n : Nat} {i : Instr} (h : (ClassFile.Decoder.instr pc).runAt code pc = .ok (i, pc + n)) : decode code pc = .ok (i, n) := by
  unfold ClassFile.decode
  rw [h]
  show Except.ok (i, pc + n - pc) = _
  rw [Nat.add_sub_cancel_left]
theorem fd42 {code : ByteArray} {pc : Nat} (h : u1r code pc = some 42) : decode code pc = .ok (.aload_n 0, 1) := dec_of (dec_bind (u1_run h))
theorem fd3 {code : ByteArray} {pc : Nat} (h : u1r code pc = some 3) : decode code pc = .ok (.iconst 0, 1) := dec_of (dec_bind (u1_run h))
theorem fd4 {code : ByteArray} {pc : Nat} (h : u1r code pc = some 4) : decode code pc = .ok (.iconst 1, 1) := dec_of (dec_bind (u1_run h))
theorem fd27 {code : ByteArray} {pc : Nat} (h : u1r code pc = some 27) : decode code pc = .ok (.iload_n 1, 1) := dec_of (dec_bind (u1_run h))
theorem fd180 {code : ByteArray} {pc b1 b2 : Nat} (h : u1r code pc = some 180) (h1 : u1r code (pc + 1) = some b1) (h2 : u1r code (pc + 1 + 1) = some b2) : decode code pc = .ok (.getfield (b1 * 256 + b2), 3) := dec_of ((dec_bind (u1_run h)).trans (dec_bind (u2_run h1 h2)))
theorem fd28 {code : ByteArray} {pc : Nat} (h : u1r code pc = some 28) : decode code pc = .ok (.iload_n 2, 1) := dec_of (dec_bind (u1_run h))
theorem fd21 {code : ByteArray} {pc b1 : Nat} (h : u1r code pc = some 21) (h1 : u1r code (pc + 1) = some b1) : decode code pc = .ok (.iload b1, 2) := dec_of ((dec_bind (u1_run h)).trans (dec_bind (u1_run h1)))
theorem fd26 {code : ByteArray} {pc : Nat} (h : u1r code pc = some 26) : decode code pc = .ok (.iload_n 0, 1) := dec_of (dec_bind (u1_run h))
theorem fd29 {code : ByteArray} {pc : Nat} (h : u1r code pc = some 29) : decode code pc = .ok (.iload_n 3, 1) := dec_of (dec_bind (u1_run h))
theorem fd172 {code : ByteArray} {pc : Nat} (h : u1r code pc = some 172) : decode code pc = .ok (.ireturn, 1) := dec_of (dec_bind (u1_run h))
theorem fd46 {code : ByteArray} {pc : Nat} (h : u1r code pc = some 46) : decode code pc = .ok (.iaload, 1) := dec_of (dec_bind (u1_run h))
theorem fd16 {code : ByteArray} {pc b1 : Nat} (h : u1r code pc = some 16) (h1 : u1r code (pc + 1) = some b1) : decode code pc = .ok (.bipush (ClassFile.Reader.signed 8 b1), 2) := dec_of ((dec_bind (u1_run h)).trans (dec_bind (s1_run h1)))
theorem fd182 {code : ByteArray} {pc b1 b2 : Nat} (h : u1r code pc = some 182) (h1 : u1r code (pc + 1) = some b1) (h2 : u1r code (pc + 1 + 1) = some b2) : decode code pc = .ok (.invokevirtual (b1 * 256 + b2), 3) := dec_of ((dec_bind (u1_run h)).trans (dec_bind (u2_run h1 h2)))
theorem fd167 {code : ByteArray} {pc b1 b2 : Nat} (h : u1r code pc = some 167) (h1 : u1r code (pc + 1) = some b1) (h2 : u1r code (pc + 1 + 1) = some b2) : decode code pc = .ok (.goto (ClassFile.Reader.signed 16 (b1 * 256 + b2)), 3) := dec_of ((dec_bind (u1_run h)).trans (dec_bind (s2_run h1 h2)))
theorem fd96 {code : ByteArray} {pc : Nat} (h : u1r code pc = some 96) : decode code pc = .ok (.iadd, 1) := dec_of (dec_bind (u1_run h))
theorem fd43 {code : ByteArray} {pc : Nat} (h : u1r code pc = some 43) : decode code pc = .ok (.aload_n 1, 1) := dec_of (dec_bind (u1_run h))
theorem fd44 {code : ByteArray} {pc : Nat} (h : u1r code pc = some 44) : decode code pc = .ok (.aload_n 2, 1) := dec_of (dec_bind (u1_run h))
theorem fd45 {code : ByteArray} {pc : Nat} (h : u1r code pc = some 45) : decode code pc = .ok (.aload_n 3, 1) := dec_of (dec_bind (u1_run h))
theorem fd5 {code : ByteArray} {pc : Nat} (h : u1r code pc = some 5) : decode code pc = .ok (.iconst 2, 1) := dec_of (dec_bind (u1_run h))
theorem fd153 {code : ByteArray} {pc b1 b2 : Nat} (h : u1r code pc = some 153) (h1 : u1r code (pc + 1) = some b1) (h2 : u1r code (pc + 1 + 1) = some b2) : decode code pc = .ok (.ifCond .eq (ClassFile.Reader.signed 16 (b1 * 256 + b2)), 3) := dec_of ((dec_bind (u1_run h)).trans (dec_bind (s2_run h1 h2)))
theorem fd154 {code : ByteArray} {pc b1 b2 : Nat} (h : u1r code pc = some 154) (h1 : u1r code (pc + 1) = some b1) (h2 : u1r code (pc + 1 + 1) = some b2) : decode code pc = .ok (.ifCond .ne (ClassFile.Reader.signed 16 (b1 * 256 + b2)), 3) := dec_of ((dec_bind (u1_run h)).trans (dec_bind (s2_run h1 h2)))
theorem fd162 {code : ByteArray} {pc b1 b2 : Nat} (h : u1r code pc = some 162) (h1 : u1r code (pc + 1) = some b1) (h2 : u1r code (pc + 1 + 1) = some b2) : decode code pc = .ok (.if_icmp .ge (ClassFile.Reader.signed 16 (b1 * 256 + b2)), 3) := dec_of ((dec_bind (u1_run h)).trans (dec_bind (s2_run h1 h2)))
theorem fd160 {code : ByteArray} {pc b1 b2 : Nat} (h : u1r code pc = some 160) (h1 : u1r code (pc + 1) = some b1) (h2 : u1r code (pc + 1 + 1) = some b2) : decode code pc = .ok (.if_icmp .ne (ClassFile.Reader.signed 16 (b1 * 256 + b2)), 3) := dec_of ((dec_bind (u1_run h)).trans (dec_bind (s2_run h1 h2)))
theorem fd161 {code : ByteArray} {pc b1 b2 : Nat} (h : u1r code pc = some 161) (h1 : u1r code (pc + 1) = some b1) (h2 : u1r code (pc + 1 + 1) = some b2) : decode code pc = .ok (.if_icmp .lt (ClassFile.Reader.signed 16 (b1 * 256 + b2)), 3) := dec_of ((dec_bind (u1_run h)).trans (dec_bind (s2_run h1 h2)))
theorem fd2 {code : ByteArray} {pc : Nat} (h : u1r code pc = some 2) : decode code pc = .ok (.iconst (-1), 1) := dec_of (dec_bind (u1_run h))
theorem fd59 {code : ByteArray} {pc : Nat} (h : u1r code pc = some 59) : decode code pc = .ok (.istore_n 0, 1) := dec_of (dec_bind (u1_run h))
theorem fd60 {code : ByteArray} {pc : Nat} (h : u1r code pc = some 60) : decode code pc = .ok (.istore_n 1, 1) := dec_of (dec_bind (u1_run h))
theorem fd61 {code : ByteArray} {pc : Nat} (h : u1r code pc = some 61) : decode code pc = .ok (.istore_n 2, 1) := dec_of (dec_bind (u1_run h))
theorem fd62 {code : ByteArray} {pc : Nat} (h : u1r code pc = some 62) : decode code pc = .ok (.istore_n 3, 1) := dec_of (dec_bind (u1_run h))
theorem fd54 {code : ByteArray} {pc b1 : Nat} (h : u1r code pc = some 54) (h1 : u1r code (pc + 1) = some b1) : decode code pc = .ok (.istore b1, 2) := dec_of ((dec_bind (u1_run h)).trans (dec_bind (u1_run h1)))
theorem fd184 {code : ByteArray} {pc b1 b2 : Nat} (h : u1r code pc = some 184) (h1 : u1r code (pc + 1) = some b1) (h2 : u1r code (pc + 1 + 1) = some b2) : decode code pc = .ok (.invokestatic (b1 * 256 + b2), 3) := dec_of ((dec_bind (u1_run h)).trans (dec_bind (u2_run h1 h2)))
theorem fd181 {code : ByteArray} {pc b1 b2 : Nat} (h : u1r code pc = some 181) (h1 : u1r code (pc + 1) = some b1) (h2 : u1r code (pc + 1 + 1) = some b2) : decode code pc = .ok (.putfield (b1 * 256 + b2), 3) := dec_of ((dec_bind (u1_run h)).trans (dec_bind (u2_run h1 h2)))
theorem fd6 {code : ByteArray} {pc : Nat} (h : u1r code pc = some 6) : decode code pc = .ok (.iconst 3, 1) := dec_of (dec_bind (u1_run h))
theorem fd7 {code : ByteArray} {pc : Nat} (h : u1r code pc = some 7) : decode code pc = .ok (.iconst 4, 1) := dec_of (dec_bind (u1_run h))
theorem fd8 {code : ByteArray} {pc : Nat} (h : u1r code pc = some 8) : decode code pc = .ok (.iconst 5, 1) := dec_of (dec_bind (u1_run h))
theorem fd9 {code : ByteArray} {pc : Nat} (h : u1r code pc = some 9) : decode code pc = .ok (.lconst 0, 1) := dec_of (dec_bind (u1_run h))
theorem fd10 {code : ByteArray} {pc : Nat} (h : u1r code pc = some 10) : decode code pc = .ok (.lconst 1, 1) := dec_of (dec_bind (u1_run h))
theorem fd17 {code : ByteArray} {pc b1 b2 : Nat} (h : u1r code pc = some 17) (h1 : u1r code (pc + 1) = some b1) (h2 : u1r code (pc + 1 + 1) = some b2) : decode code pc = .ok (.sipush (ClassFile.Reader.signed 16 (b1 * 256 + b2)), 3) := dec_of ((dec_bind (u1_run h)).trans (dec_bind (s2_run h1 h2)))
theorem fd18 {code : ByteArray} {pc b1 : Nat} (h : u1r code pc = some 18) (h1 : u1r code (pc + 1) = some b1) : decode code pc = .ok (.ldc b1, 2) := dec_of ((dec_bind (u1_run h)).trans (dec_bind (u1_run h1)))
theorem fd19 {code : ByteArray} {pc b1 b2 : Nat} (h : u1r code pc = some 19) (h1 : u1r code (pc + 1) = some b1) (h2 : u1r code (pc + 1 + 1) = some b2) : decode code pc = .ok (.ldc_w (b1 * 256 + b2), 3) := dec_of ((dec_bind (u1_run h)).trans (dec_bind (u2_run h1 h2)))
theorem fd20 {code : ByteArray} {pc b1 b2 : Nat} (h : u1r code pc = some 20) (h1 : u1r code (pc + 1) = some b1) (h2 : u1r code (pc + 1 + 1) = some b2) : decode code pc = .ok (.ldc2_w (b1 * 256 + b2), 3) := dec_of ((dec_bind (u1_run h)).trans (dec_bind (u2_run h1 h2)))
theorem fd22 {code : ByteArray} {pc b1 : Nat} (h : u1r code pc = some 22) (h1 : u1r code (pc + 1) = some b1) : decode code pc = .ok (.lload b1, 2) := dec_of ((dec_bind (u1_run h)).trans (dec_bind (u1_run h1)))
theorem fd25 {code : ByteArray} {pc b1 : Nat} (h : u1r code pc = some 25) (h1 : u1r code (pc + 1) = some b1) : decode code pc = .ok (.aload b1, 2) := dec_of ((dec_bind (u1_run h)).trans (dec_bind (u1_run h1)))
theorem fd30 {code : ByteArray} {pc : Nat} (h : u1r code pc = some 30) : decode code pc = .ok (.lload_n 0, 1) := dec_of (dec_bind (u1_run h))
theorem fd31 {code : ByteArray} {pc : Nat} (h : u1r code pc = some 31) : decode code pc = .ok (.lload_n 1, 1) := dec_of (dec_bind (u1_run h))
theorem fd32 {code : ByteArray} {pc : Nat} (h : u1r code pc = some 32) : decode code pc = .ok (.lload_n 2, 1) := dec_of (dec_bind (u1_run h))
theorem fd33 {code : ByteArray} {pc : Nat} (h : u1r code pc = some 33) : decode code pc = .ok (.lload_n 3, 1) := dec_of (dec_bind (u1_run h))
theorem fd47 {code : ByteArray} {pc : Nat} (h : u1r code pc = some 47) : decode code pc = .ok (.laload, 1) := dec_of (dec_bind (u1_run h))
theorem fd50 {code : ByteArray} {pc : Nat} (h : u1r code pc = some 50) : decode code pc = .ok (.aaload, 1) := dec_of (dec_bind (u1_run h))
theorem fd51 {code : ByteArray} {pc : Nat} (h : u1r code pc = some 51) : decode code pc = .ok (.baload, 1) := dec_of (dec_bind (u1_run h))
theorem fd52 {code : ByteArray} {pc : Nat} (h : u1r code pc = some 52) : decode code pc = .ok (.caload, 1) := dec_of (dec_bind (u1_run h))
theorem fd55 {code : ByteArray} {pc b1 : Nat} (h : u1r code pc = some 55) (h1 : u1r code (pc + 1) = some b1) : decode code pc = .ok (.lstore b1, 2) := dec_of ((dec_bind (u1_run h)).trans (dec_bind (u1_run h1)))
theorem fd58 {code : ByteArray} {pc b1 : Nat} (h : u1r code pc = some 58) (h1 : u1r code (pc + 1) = some b1) : decode code pc = .ok (.astore b1, 2) := dec_of ((dec_bind (u1_run h)).trans (dec_bind (u1_run h1)))
theorem fd63 {code : ByteArray} {pc : Nat} (h : u1r code pc = some 63) : decode code pc = .ok (.lstore_n 0, 1) := dec_of (dec_bind (u1_run h))
theorem fd64 {code : ByteArray} {pc : Nat} (h : u1r code pc = some 64) : decode code pc = .ok (.lstore_n 1, 1) := dec_of (dec_bind (u1_run h))
theorem fd65 {code : ByteArray} {pc : Nat} (h : u1r code pc = some 65) : decode code pc = .ok (.lstore_n 2, 1) := dec_of (dec_bind (u1_run h))
theorem fd66 {code : ByteArray} {pc : Nat} (h : u1r code pc = some 66) : decode code pc = .ok (.lstore_n 3, 1) := dec_of (dec_bind (u1_run h))
theorem fd75 {code : ByteArray} {pc : Nat} (h : u1r code pc = some 75) : decode code pc = .ok (.astore_n 0, 1) := dec_of (dec_bind (u1_run h))
theorem fd76 {code : ByteArray} {pc : Nat} (h : u1r code pc = some 76) : decode code pc = .ok (.astore_n 1, 1) := dec_of (dec_bind (u1_run h))
theorem fd77 {code : ByteArray} {pc : Nat} (h : u1r code pc = some 77) : decode code pc = .ok (.astore_n 2, 1) := dec_of (dec_bind (u1_run h))
theorem fd78 {code : ByteArray} {pc : Nat} (h : u1r code pc = some 78) : decode code pc = .ok (.astore_n 3, 1) := dec_of (dec_bind (u1_run h))
theorem fd79 {code : ByteArray} {pc : Nat} (h : u1r code pc = some 79) : decode code pc = .ok (.iastore, 1) := dec_of (dec_bind (u1_run h))
theorem fd80 {code : ByteArray} {pc : Nat} (h : u1r code pc = some 80) : decode code pc = .ok (.lastore, 1) := dec_of (dec_bind (u1_run h))
theorem fd83 {code : ByteArray} {pc : Nat} (h : u1r code pc = some 83) : decode code pc = .ok (.aastore, 1) := dec_of (dec_bind (u1_run h))
theorem fd84 {code : ByteArray} {pc : Nat} (h : u1r code pc = some 84) : decode code pc = .ok (.bastore, 1) := dec_of (dec_bind (u1_run h))
theorem fd85 {code : ByteArray} {pc : Nat} (h : u1r code pc = some 85) : decode code pc = .ok (.castore, 1) := dec_of (dec_bind (u1_run h))
theorem fd87 {code : ByteArray} {pc : Nat} (h : u1r code pc = some 87) : decode code pc = .ok (.pop, 1) := dec_of (dec_bind (u1_run h))
theorem fd89 {code : ByteArray} {pc : Nat} (h : u1r code pc = some 89) : decode code pc = .ok (.dup, 1) := dec_of (dec_bind (u1_run h))
theorem fd92 {code : ByteArray} {pc : Nat} (h : u1r code pc = some 92) : decode code pc = .ok (.dup2, 1) := dec_of (dec_bind (u1_run h))
theorem fd97 {code : ByteArray} {pc : Nat} (h : u1r code pc = some 97) : decode code pc = .ok (.ladd, 1) := dec_of (dec_bind (u1_run h))
theorem fd100 {code : ByteArray} {pc : Nat} (h : u1r code pc = some 100) : decode code pc = .ok (.isub, 1) := dec_of (dec_bind (u1_run h))
theorem fd101 {code : ByteArray} {pc : Nat} (h : u1r code pc = some 101) : decode code pc = .ok (.lsub, 1) := dec_of (dec_bind (u1_run h))
theorem fd104 {code : ByteArray} {pc : Nat} (h : u1r code pc = some 104) : decode code pc = .ok (.imul, 1) := dec_of (dec_bind (u1_run h))
theorem fd105 {code : ByteArray} {pc : Nat} (h : u1r code pc = some 105) : decode code pc = .ok (.lmul, 1) := dec_of (dec_bind (u1_run h))
theorem fd108 {code : ByteArray} {pc : Nat} (h : u1r code pc = some 108) : decode code pc = .ok (.idiv, 1) := dec_of (dec_bind (u1_run h))
theorem fd112 {code : ByteArray} {pc : Nat} (h : u1r code pc = some 112) : decode code pc = .ok (.irem, 1) := dec_of (dec_bind (u1_run h))
theorem fd120 {code : ByteArray} {pc : Nat} (h : u1r code pc = some 120) : decode code pc = .ok (.ishl, 1) := dec_of (dec_bind (u1_run h))
theorem fd121 {code : ByteArray} {pc : Nat} (h : u1r code pc = some 121) : decode code pc = .ok (.lshl, 1) := dec_of (dec_bind (u1_run h))
theorem fd122 {code : ByteArray} {pc : Nat} (h : u1r code pc = some 122) : decode code pc = .ok (.ishr, 1) := dec_of (dec_bind (u1_run h))
theorem fd123 {code : ByteArray} {pc : Nat} (h : u1r code pc = some 123) : decode code pc = .ok (.lshr, 1) := dec_of (dec_bind (u1_run h))
theorem fd124 {code : ByteArray} {pc : Nat} (h : u1r code pc = some 124) : decode code pc = .ok (.iushr, 1) := dec_of (dec_bind (u1_run h))
theorem fd125 {code : ByteArray} {pc : Nat} (h : u1r code pc = some 125) : decode code pc = .ok (.lushr, 1) := dec_of (dec_bind (u1_run h))
theorem fd126 {code : ByteArray} {pc : Nat} (h : u1r code pc = some 126) : decode code pc = .ok (.iand, 1) := dec_of (dec_bind (u1_run h))
theorem fd127 {code : ByteArray} {pc : Nat} (h : u1r code pc = some 127) : decode code pc = .ok (.land, 1) := dec_of (dec_bind (u1_run h))
theorem fd128 {code : ByteArray} {pc : Nat} (h : u1r code pc = some 128) : decode code pc = .ok (.ior, 1) := dec_of (dec_bind (u1_run h))
theorem fd129 {code : ByteArray} {pc : Nat} (h : u1r code pc = some 129) : decode code pc = .ok (.lor, 1) := dec_of (dec_bind (u1_run h))
theorem fd133 {code : ByteArray} {pc : Nat} (h : u1r code pc = some 133) : decode code pc = .ok (.i2l, 1) := dec_of (dec_bind (u1_run h))
theorem fd136 {code : ByteArray} {pc : Nat} (h : u1r code pc = some 136) : decode code pc = .ok (.l2i, 1) := dec_of (dec_bind (u1_run h))
theorem fd146 {code : ByteArray} {pc : Nat} (h : u1r code pc = some 146) : decode code pc = .ok (.i2c, 1) := dec_of (dec_bind (u1_run h))
theorem fd148 {code : ByteArray} {pc : Nat} (h : u1r code pc = some 148) : decode code pc = .ok (.lcmp, 1) := dec_of (dec_bind (u1_run h))
theorem fd155 {code : ByteArray} {pc b1 b2 : Nat} (h : u1r code pc = some 155) (h1 : u1r code (pc + 1) = some b1) (h2 : u1r code (pc + 1 + 1) = some b2) : decode code pc = .ok (.ifCond .lt (ClassFile.Reader.signed 16 (b1 * 256 + b2)), 3) := dec_of ((dec_bind (u1_run h)).trans (dec_bind (s2_run h1 h2)))
theorem fd156 {code : ByteArray} {pc b1 b2 : Nat} (h : u1r code pc = some 156) (h1 : u1r code (pc + 1) = some b1) (h2 : u1r code (pc + 1 + 1) = some b2) : decode code pc = .ok (.ifCond .ge (ClassFile.Reader.signed 16 (b1 * 256 + b2)), 3) := dec_of ((dec_bind (u1_run h)).trans (dec_bind (s2_run h1 h2)))
theorem fd157 {code : ByteArray} {pc b1 b2 : Nat} (h : u1r code pc = some 157) (h1 : u1r code (pc + 1) = some b1) (h2 : u1r code (pc + 1 + 1) = some b2) : decode code pc = .ok (.ifCond .gt (ClassFile.Reader.signed 16 (b1 * 256 + b2)), 3) := dec_of ((dec_bind (u1_run h)).trans (dec_bind (s2_run h1 h2)))
theorem fd158 {code : ByteArray} {pc b1 b2 : Nat} (h : u1r code pc = some 158) (h1 : u1r code (pc + 1) = some b1) (h2 : u1r code (pc + 1 + 1) = some b2) : decode code pc = .ok (.ifCond .le (ClassFile.Reader.signed 16 (b1 * 256 + b2)), 3) := dec_of ((dec_bind (u1_run h)).trans (dec_bind (s2_run h1 h2)))
theorem fd159 {code : ByteArray} {pc b1 b2 : Nat} (h : u1r code pc = some 159) (h1 : u1r code (pc + 1) = some b1) (h2 : u1r code (pc + 1 + 1) = some b2) : decode code pc = .ok (.if_icmp .eq (ClassFile.Reader.signed 16 (b1 * 256 + b2)), 3) := dec_of ((dec_bind (u1_run h)).trans (dec_bind (s2_run h1 h2)))
theorem fd163 {code : ByteArray} {pc b1 b2 : Nat} (h : u1r code pc = some 163) (h1 : u1r code (pc + 1) = some b1) (h2 : u1r code (pc + 1 + 1) = some b2) : decode code pc = .ok (.if_icmp .gt (ClassFile.Reader.signed 16 (b1 * 256 + b2)), 3) := dec_of ((dec_bind (u1_run h)).trans (dec_bind (s2_run h1 h2)))
theorem fd164 {code : ByteArray} {pc b1 b2 : Nat} (h : u1r code pc = some 164) (h1 : u1r code (pc + 1) = some b1) (h2 : u1r code (pc + 1 + 1) = some b2) : decode code pc = .ok (.if_icmp .le (ClassFile.Reader.signed 16 (b1 * 256 + b2)), 3) := dec_of ((dec_bind (u1_run h)).trans (dec_bind (s2_run h1 h2)))
theorem fd177 {code : ByteArray} {pc : Nat} (h : u1r code pc = some 177) : decode code pc = .ok (.return_, 1) := dec_of (dec_bind (u1_run h))
theorem fd183 {code : ByteArray} {pc b1 b2 : Nat} (h : u1r code pc = some 183) (h1 : u1r code (pc + 1) = some b1) (h2 : u1r code (pc + 1 + 1) = some b2) : decode code pc = .ok (.invokespecial (b1 * 256 + b2), 3) := dec_of ((dec_bind (u1_run h)).trans (dec_bind (u2_run h1 h2)))
theorem fd187 {code : ByteArray} {pc b1 b2 : Nat} (h : u1r code pc = some 187) (h1 : u1r code (pc + 1) = some b1) (h2 : u1r code (pc + 1 + 1) = some b2) : decode code pc = .ok (.new (b1 * 256 + b2), 3) := dec_of ((dec_bind (u1_run h)).trans (dec_bind (u2_run h1 h2)))
theorem fd189 {code : ByteArray} {pc b1 b2 : Nat} (h : u1r code pc = some 189) (h1 : u1r code (pc + 1) = some b1) (h2 : u1r code (pc + 1 + 1) = some b2) : decode code pc = .ok (.anewarray (b1 * 256 + b2), 3) := dec_of ((dec_bind (u1_run h)).trans (dec_bind (u2_run h1 h2)))
theorem fd190 {code : ByteArray} {pc : Nat} (h : u1r code pc = some 190) : decode code pc = .ok (.arraylength, 1) := dec_of (dec_bind (u1_run h))
theorem fd132 {code : ByteArray} {pc b1 b2 : Nat} (h : u1r code pc = some 132) (h1 : u1r code (pc + 1) = some b1) (h2 : u1r code (pc + 1 + 1) = some b2) : decode code pc = .ok (.iinc b1 (ClassFile.Reader.signed 8 b2), 3) := dec_of ((dec_bind (u1_run h)).trans ((dec_bind (u1_run h1)).trans (dec_bind (s1_run h2))))
def fdo8 (op b1 b2 : Nat) : Option (Instr × Nat) := cond (Nat.beq op 164) (cond (Nat.blt b1 256 && Nat.blt b2 256) (some (.if_icmp .le (ClassFile.Reader.signed 16 (b1 * 256 + b2)), 3)) none) (cond (Nat.beq op 177) (some (.return_, 1)) (cond (Nat.beq op 183) (cond (Nat.blt b1 256 && Nat.blt b2 256) (some (.invokespecial (b1 * 256 + b2), 3)) none) (cond (Nat.beq op 187) (cond (Nat.blt b1 256 && Nat.blt b2 256) (some (.new (b1 * 256 + b2), 3)) none) (cond (Nat.beq op 189) (cond (Nat.blt b1 256 && Nat.blt b2 256) (some (.anewarray (b1 * 256 + b2), 3)) none) (cond (Nat.beq op 190) (some (.arraylength, 1)) (cond (Nat.beq op 132) (cond (Nat.blt b1 256 && Nat.blt b2 256) (some (.iinc b1 (ClassFile.Reader.signed 8 b2), 3)) none) (none)))))))
def fdo7 (op b1 b2 : Nat) : Option (Instr × Nat) := cond (Nat.beq op 128) (some (.ior, 1)) (cond (Nat.beq op 129) (some (.lor, 1)) (cond (Nat.beq op 133) (some (.i2l, 1)) (cond (Nat.beq op 136) (some (.l2i, 1)) (cond (Nat.beq op 146) (some (.i2c, 1)) (cond (Nat.beq op 148) (some (.lcmp, 1)) (cond (Nat.beq op 155) (cond (Nat.blt b1 256 && Nat.blt b2 256) (some (.ifCond .lt (ClassFile.Reader.signed 16 (b1 * 256 + b2)), 3)) none) (cond (Nat.beq op 156) (cond (Nat.blt b1 256 && Nat.blt b2 256) (some (.ifCond .ge (ClassFile.Reader.signed 16 (b1 * 256 + b2)), 3)) none) (cond (Nat.beq op 157) (cond (Nat.blt b1 256 && Nat.blt b2 256) (some (.ifCond .gt (ClassFile.Reader.signed 16 (b1 * 256 + b2)), 3)) none) (cond (Nat.beq op 158) (cond (Nat.blt b1 256 && Nat.blt b2 256) (some (.ifCond .le (ClassFile.Reader.signed 16 (b1 * 256 + b2)), 3)) none) (cond (Nat.beq op 159) (cond (Nat.blt b1 256 && Nat.blt b2 256) (some (.if_icmp .eq (ClassFile.Reader.signed 16 (b1 * 256 + b2)), 3)) none) (cond (Nat.beq op 163) (cond (Nat.blt b1 256 && Nat.blt b2 256) (some (.if_icmp .gt (ClassFile.Reader.signed 16 (b1 * 256 + b2)), 3)) none) (fdo8 op b1 b2))))))))))))
def fdo6 (op b1 b2 : Nat) : Option (Instr × Nat) := cond (Nat.beq op 104) (some (.imul, 1)) (cond (Nat.beq op 105) (some (.lmul, 1)) (cond (Nat.beq op 108) (some (.idiv, 1)) (cond (Nat.beq op 112) (some (.irem, 1)) (cond (Nat.beq op 120) (some (.ishl, 1)) (cond (Nat.beq op 121) (some (.lshl, 1)) (cond (Nat.beq op 122) (some (.ishr, 1)) (cond (Nat.beq op 123) (some (.lshr, 1)) (cond (Nat.beq op 124) (some (.iushr, 1)) (cond (Nat.beq op 125) (some (.lushr, 1)) (cond (Nat.beq op 126) (some (.iand, 1)) (cond (Nat.beq op 127) (some (.land, 1)) (fdo7 op b1 b2))))))))))))
def fdo5 (op b1 b2 : Nat) : Option (Instr × Nat) := cond (Nat.beq op 78) (some (.astore_n 3, 1)) (cond (Nat.beq op 79) (some (.iastore, 1)) (cond (Nat.beq op 80) (some (.lastore, 1)) (cond (Nat.beq op 83) (some (.aastore, 1)) (cond (Nat.beq op 84) (some (.bastore, 1)) (cond (Nat.beq op 85) (some (.castore, 1)) (cond (Nat.beq op 87) (some (.pop, 1)) (cond (Nat.beq op 89) (some (.dup, 1)) (cond (Nat.beq op 92) (some (.dup2, 1)) (cond (Nat.beq op 97) (some (.ladd, 1)) (cond (Nat.beq op 100) (some (.isub, 1)) (cond (Nat.beq op 101) (some (.lsub, 1)) (fdo6 op b1 b2))))))))))))
def fdo4 (op b1 b2 : Nat) : Option (Instr × Nat) := cond (Nat.beq op 50) (some (.aaload, 1)) (cond (Nat.beq op 51) (some (.baload, 1)) (cond (Nat.beq op 52) (some (.caload, 1)) (cond (Nat.beq op 55) (cond (Nat.blt b1 256) (some (.lstore b1, 2)) none) (cond (Nat.beq op 58) (cond (Nat.blt b1 256) (some (.astore b1, 2)) none) (cond (Nat.beq op 63) (some (.lstore_n 0, 1)) (cond (Nat.beq op 64) (some (.lstore_n 1, 1)) (cond (Nat.beq op 65) (some (.lstore_n 2, 1)) (cond (Nat.beq op 66) (some (.lstore_n 3, 1)) (cond (Nat.beq op 75) (some (.astore_n 0, 1)) (cond (Nat.beq op 76) (some (.astore_n 1, 1)) (cond (Nat.beq op 77) (some (.astore_n 2, 1)) (fdo5 op b1 b2))))))))))))
def fdo3 (op b1 b2 : Nat) : Option (Instr × Nat) := cond (Nat.beq op 10) (some (.lconst 1, 1)) (cond (Nat.beq op 17) (cond (Nat.blt b1 256 && Nat.blt b2 256) (some (.sipush (ClassFile.Reader.signed 16 (b1 * 256 + b2)), 3)) none) (cond (Nat.beq op 18) (cond (Nat.blt b1 256) (some (.ldc b1, 2)) none) (cond (Nat.beq op 19) (cond (Nat.blt b1 256 && Nat.blt b2 256) (some (.ldc_w (b1 * 256 + b2), 3)) none) (cond (Nat.beq op 20) (cond (Nat.blt b1 256 && Nat.blt b2 256) (some (.ldc2_w (b1 * 256 + b2), 3)) none) (cond (Nat.beq op 22) (cond (Nat.blt b1 256) (some (.lload b1, 2)) none) (cond (Nat.beq op 25) (cond (Nat.blt b1 256) (some (.aload b1, 2)) none) (cond (Nat.beq op 30) (some (.lload_n 0, 1)) (cond (Nat.beq op 31) (some (.lload_n 1, 1)) (cond (Nat.beq op 32) (some (.lload_n 2, 1)) (cond (Nat.beq op 33) (some (.lload_n 3, 1)) (cond (Nat.beq op 47) (some (.laload, 1)) (fdo4 op b1 b2))))))))))))
def fdo2 (op b1 b2 : Nat) : Option (Instr × Nat) := cond (Nat.beq op 2) (some (.iconst (-1), 1)) (cond (Nat.beq op 59) (some (.istore_n 0, 1)) (cond (Nat.beq op 60) (some (.istore_n 1, 1)) (cond (Nat.beq op 61) (some (.istore_n 2, 1)) (cond (Nat.beq op 62) (some (.istore_n 3, 1)) (cond (Nat.beq op 54) (cond (Nat.blt b1 256) (some (.istore b1, 2)) none) (cond (Nat.beq op 184) (cond (Nat.blt b1 256 && Nat.blt b2 256) (some (.invokestatic (b1 * 256 + b2), 3)) none) (cond (Nat.beq op 181) (cond (Nat.blt b1 256 && Nat.blt b2 256) (some (.putfield (b1 * 256 + b2), 3)) none) (cond (Nat.beq op 6) (some (.iconst 3, 1)) (cond (Nat.beq op 7) (some (.iconst 4, 1)) (cond (Nat.beq op 8) (some (.iconst 5, 1)) (cond (Nat.beq op 9) (some (.lconst 0, 1)) (fdo3 op b1 b2))))))))))))
def fdo1 (op b1 b2 : Nat) : Option (Instr × Nat) := cond (Nat.beq op 182) (cond (Nat.blt b1 256 && Nat.blt b2 256) (some (.invokevirtual (b1 * 256 + b2), 3)) none) (cond (Nat.beq op 167) (cond (Nat.blt b1 256 && Nat.blt b2 256) (some (.goto (ClassFile.Reader.signed 16 (b1 * 256 + b2)), 3)) none) (cond (Nat.beq op 96) (some (.iadd, 1)) (cond (Nat.beq op 43) (some (.aload_n 1, 1)) (cond (Nat.beq op 44) (some (.aload_n 2, 1)) (cond (Nat.beq op 45) (some (.aload_n 3, 1)) (cond (Nat.beq op 5) (some (.iconst 2, 1)) (cond (Nat.beq op 153) (cond (Nat.blt b1 256 && Nat.blt b2 256) (some (.ifCond .eq (ClassFile.Reader.signed 16 (b1 * 256 + b2)), 3)) none) (cond (Nat.beq op 154) (cond (Nat.blt b1 256 && Nat.blt b2 256) (some (.ifCond .ne (ClassFile.Reader.signed 16 (b1 * 256 + b2)), 3)) none) (cond (Nat.beq op 162) (cond (Nat.blt b1 256 && Nat.blt b2 256) (some (.if_icmp .ge (ClassFile.Reader.signed 16 (b1 * 256 + b2)), 3)) none) (cond (Nat.beq op 160) (cond (Nat.blt b1 256 && Nat.blt b2 256) (some (.if_icmp .ne (ClassFile.Reader.signed 16 (b1 * 256 + b2)), 3)) none) (cond (Nat.beq op 161) (cond (Nat.blt b1 256 && Nat.blt b2 256) (some (.if_icmp .lt (ClassFile.Reader.signed 16 (b1 * 256 + b2)), 3)) none) (fdo2 op b1 b2))))))))))))
def fdo0 (op b1 b2 : Nat) : Option (Instr × Nat) := cond (Nat.beq op 42) (some (.aload_n 0, 1)) (cond (Nat.beq op 3) (some (.iconst 0, 1)) (cond (Nat.beq op 4) (some (.iconst 1, 1)) (cond (Nat.beq op 27) (some (.iload_n 1, 1)) (cond (Nat.beq op 180) (cond (Nat.blt b1 256 && Nat.blt b2 256) (some (.getfield (b1 * 256 + b2), 3)) none) (cond (Nat.beq op 28) (some (.iload_n 2, 1)) (cond (Nat.beq op 21) (cond (Nat.blt b1 256) (some (.iload b1, 2)) none) (cond (Nat.beq op 26) (some (.iload_n 0, 1)) (cond (Nat.beq op 29) (some (.iload_n 3, 1)) (cond (Nat.beq op 172) (some (.ireturn, 1)) (cond (Nat.beq op 46) (some (.iaload, 1)) (cond (Nat.beq op 16) (cond (Nat.blt b1 256) (some (.bipush (ClassFile.Reader.signed 8 b1), 2)) none) (fdo1 op b1 b2))))))))))))
def fget (bs : List UInt8) (p : Nat) : Nat := match bs[p]? with
  | some b => b.toNat
  | none => 999
theorem fget_u1 {code : ByteArray} {p v : Nat} (h : fget code.data.toList p = v) (hv : v < 256) : u1r code p = some v := by
  unfold fget at h
  unfold u1r
  cases hb : code.data.toList[p]? with
  | none =>
    rw [hb] at h
    simp only at h
    omega
  | some b =>
    rw [hb] at h
    simp only at h
    have hb2 : code.data[p]? = some b := by rw [← Array.getElem?_toList]; exact hb
    obtain ⟨hlt, he⟩ := Array.getElem?_eq_some_iff.mp hb2
    have hlt2 : p < code.size := hlt
    rw [dif_pos hlt2]
    have he2 : code[p] = b := he
    rw [he2, h]
theorem fnb {a b : Nat} (h : ¬ a = b) : Nat.beq a b = false := by
  cases hc : Nat.beq a b with
  | true => exact absurd (Nat.beq_eq.mp hc) h
  | false => rfl
theorem bcond2 {b : Bool} {x : Option (Instr × Nat)} {r : Instr × Nat} (h : cond b x none = some r) : b = true ∧ x = some r := by
  cases b with
  | true => exact ⟨rfl, h⟩
  | false => cases h
theorem fdo8_ok {code : ByteArray} {pc op b1 b2 : Nat} {r : Instr × Nat} (h0 : u1r code pc = some op) (h1 : b1 < 256 → u1r code (pc + 1) = some b1) (h2 : b2 < 256 → u1r code (pc + 1 + 1) = some b2) (h : fdo8 op b1 b2 = some r) : decode code pc = .ok r := by
  unfold fdo8 at h
  by_cases k164 : op = 164
  · subst k164
    rw [show Nat.beq 164 164 = true from rfl, cond_true] at h
    obtain ⟨g1, h⟩ := bcond2 h
    rw [Bool.and_eq_true] at g1
    cases h
    exact fd164 h0 (h1 (zblt g1.1)) (h2 (zblt g1.2))
  rw [show Nat.beq op 164 = false from fnb k164, cond_false] at h
  by_cases k177 : op = 177
  · subst k177
    rw [show Nat.beq 177 177 = true from rfl, cond_true] at h
    cases h
    exact fd177 h0
  rw [show Nat.beq op 177 = false from fnb k177, cond_false] at h
  by_cases k183 : op = 183
  · subst k183
    rw [show Nat.beq 183 183 = true from rfl, cond_true] at h
    obtain ⟨g1, h⟩ := bcond2 h
    rw [Bool.and_eq_true] at g1
    cases h
    exact fd183 h0 (h1 (zblt g1.1)) (h2 (zblt g1.2))
  rw [show Nat.beq op 183 = false from fnb k183, cond_false] at h
  by_cases k187 : op = 187
  · subst k187
    rw [show Nat.beq 187 187 = true from rfl, cond_true] at h
    obtain ⟨g1, h⟩ := bcond2 h
    rw [Bool.and_eq_true] at g1
    cases h
    exact fd187 h0 (h1 (zblt g1.1)) (h2 (zblt g1.2))
  rw [show Nat.beq op 187 = false from fnb k187, cond_false] at h
  by_cases k189 : op = 189
  · subst k189
    rw [show Nat.beq 189 189 = true from rfl, cond_true] at h
    obtain ⟨g1, h⟩ := bcond2 h
    rw [Bool.and_eq_true] at g1
    cases h
    exact fd189 h0 (h1 (zblt g1.1)) (h2 (zblt g1.2))
  rw [show Nat.beq op 189 = false from fnb k189, cond_false] at h
  by_cases k190 : op = 190
  · subst k190
    rw [show Nat.beq 190 190 = true from rfl, cond_true] at h
    cases h
    exact fd190 h0
  rw [show Nat.beq op 190 = false from fnb k190, cond_false] at h
  by_cases k132 : op = 132
  · subst k132
    rw [show Nat.beq 132 132 = true from rfl, cond_true] at h
    obtain ⟨g1, h⟩ := bcond2 h
    rw [Bool.and_eq_true] at g1
    cases h
    exact fd132 h0 (h1 (zblt g1.1)) (h2 (zblt g1.2))
  rw [show Nat.beq op 132 = false from fnb k132, cond_false] at h
  cases h
theorem fdo7_ok {code : ByteArray} {pc op b1 b2 : Nat} {r : Instr × Nat} (h0 : u1r code pc = some op) (h1 : b1 < 256 → u1r code (pc + 1) = some b1) (h2 : b2 < 256 → u1r code (pc + 1 + 1) = some b2) (h : fdo7 op b1 b2 = some r) : decode code pc = .ok r := by
  unfold fdo7 at h
  by_cases k128 : op = 128
  · subst k128
    rw [show Nat.beq 128 128 = true from rfl, cond_true] at h
    cases h
    exact fd128 h0
  rw [show Nat.beq op 128 = false from fnb k128, cond_false] at h
  by_cases k129 : op = 129
  · subst k129
    rw [show Nat.beq 129 129 = true from rfl, cond_true] at h
    cases h
    exact fd129 h0
  rw [show Nat.beq op 129 = false from fnb k129, cond_false] at h
  by_cases k133 : op = 133
  · subst k133
    rw [show Nat.beq 133 133 = true from rfl, cond_true] at h
    cases h
    exact fd133 h0
  rw [show Nat.beq op 133 = false from fnb k133, cond_false] at h
  by_cases k136 : op = 136
  · subst k136
    rw [show Nat.beq 136 136 = true from rfl, cond_true] at h
    cases h
    exact fd136 h0
  rw [show Nat.beq op 136 = false from fnb k136, cond_false] at h
  by_cases k146 : op = 146
  · subst k146
    rw [show Nat.beq 146 146 = true from rfl, cond_true] at h
    cases h
    exact fd146 h0
  rw [show Nat.beq op 146 = false from fnb k146, cond_false] at h
  by_cases k148 : op = 148
  · subst k148
    rw [show Nat.beq 148 148 = true from rfl, cond_true] at h
    cases h
    exact fd148 h0
  rw [show Nat.beq op 148 = false from fnb k148, cond_false] at h
  by_cases k155 : op = 155
  · subst k155
    rw [show Nat.beq 155 155 = true from rfl, cond_true] at h
    obtain ⟨g1, h⟩ := bcond2 h
    rw [Bool.and_eq_true] at g1
    cases h
    exact fd155 h0 (h1 (zblt g1.1)) (h2 (zblt g1.2))
  rw [show Nat.beq op 155 = false from fnb k155, cond_false] at h
  by_cases k156 : op = 156
  · subst k156
    rw [show Nat.beq 156 156 = true from rfl, cond_true] at h
    obtain ⟨g1, h⟩ := bcond2 h
    rw [Bool.and_eq_true] at g1
    cases h
    exact fd156 h0 (h1 (zblt g1.1)) (h2 (zblt g1.2))
  rw [show Nat.beq op 156 = false from fnb k156, cond_false] at h
  by_cases k157 : op = 157
  · subst k157
    rw [show Nat.beq 157 157 = true from rfl, cond_true] at h
    obtain ⟨g1, h⟩ := bcond2 h
    rw [Bool.and_eq_true] at g1
    cases h
    exact fd157 h0 (h1 (zblt g1.1)) (h2 (zblt g1.2))
  rw [show Nat.beq op 157 = false from fnb k157, cond_false] at h
  by_cases k158 : op = 158
  · subst k158
    rw [show Nat.beq 158 158 = true from rfl, cond_true] at h
    obtain ⟨g1, h⟩ := bcond2 h
    rw [Bool.and_eq_true] at g1
    cases h
    exact fd158 h0 (h1 (zblt g1.1)) (h2 (zblt g1.2))
  rw [show Nat.beq op 158 = false from fnb k158, cond_false] at h
  by_cases k159 : op = 159
  · subst k159
    rw [show Nat.beq 159 159 = true from rfl, cond_true] at h
    obtain ⟨g1, h⟩ := bcond2 h
    rw [Bool.and_eq_true] at g1
    cases h
    exact fd159 h0 (h1 (zblt g1.1)) (h2 (zblt g1.2))
  rw [show Nat.beq op 159 = false from fnb k159, cond_false] at h
  by_cases k163 : op = 163
  · subst k163
    rw [show Nat.beq 163 163 = true from rfl, cond_true] at h
    obtain ⟨g1, h⟩ := bcond2 h
    rw [Bool.and_eq_true] at g1
    cases h
    exact fd163 h0 (h1 (zblt g1.1)) (h2 (zblt g1.2))
  rw [show Nat.beq op 163 = false from fnb k163, cond_false] at h
  exact fdo8_ok h0 h1 h2 h
theorem fdo6_ok {code : ByteArray} {pc op b1 b2 : Nat} {r : Instr × Nat} (h0 : u1r code pc = some op) (h1 : b1 < 256 → u1r code (pc + 1) = some b1) (h2 : b2 < 256 → u1r code (pc + 1 + 1) = some b2) (h : fdo6 op b1 b2 = some r) : decode code pc = .ok r := by
  unfold fdo6 at h
  by_cases k104 : op = 104
  · subst k104
    rw [show Nat.beq 104 104 = true from rfl, cond_true] at h
    cases h
    exact fd104 h0
  rw [show Nat.beq op 104 = false from fnb k104, cond_false] at h
  by_cases k105 : op = 105
  · subst k105
    rw [show Nat.beq 105 105 = true from rfl, cond_true] at h
    cases h
    exact fd105 h0
  rw [show Nat.beq op 105 = false from fnb k105, cond_false] at h
  by_cases k108 : op = 108
  · subst k108
    rw [show Nat.beq 108 108 = true from rfl, cond_true] at h
    cases h
    exact fd108 h0
  rw [show Nat.beq op 108 = false from fnb k108, cond_false] at h
  by_cases k112 : op = 112
  · subst k112
    rw [show Nat.beq 112 112 = true from rfl, cond_true] at h
    cases h
    exact fd112 h0
  rw [show Nat.beq op 112 = false from fnb k112, cond_false] at h
  by_cases k120 : op = 120
  · subst k120
    rw [show Nat.beq 120 120 = true from rfl, cond_true] at h
    cases h
    exact fd120 h0
  rw [show Nat.beq op 120 = false from fnb k120, cond_false] at h
  by_cases k121 : op = 121
  · subst k121
    rw [show Nat.beq 121 121 = true from rfl, cond_true] at h
    cases h
    exact fd121 h0
  rw [show Nat.beq op 121 = false from fnb k121, cond_false] at h
  by_cases k122 : op = 122
  · subst k122
    rw [show Nat.beq 122 122 = true from rfl, cond_true] at h
    cases h
    exact fd122 h0
  rw [show Nat.beq op 122 = false from fnb k122, cond_false] at h
  by_cases k123 : op = 123
  · subst k123
    rw [show Nat.beq 123 123 = true from rfl, cond_true] at h
    cases h
    exact fd123 h0
  rw [show Nat.beq op 123 = false from fnb k123, cond_false] at h
  by_cases k124 : op = 124
  · subst k124
    rw [show Nat.beq 124 124 = true from rfl, cond_true] at h
    cases h
    exact fd124 h0
  rw [show Nat.beq op 124 = false from fnb k124, cond_false] at h
  by_cases k125 : op = 125
  · subst k125
    rw [show Nat.beq 125 125 = true from rfl, cond_true] at h
    cases h
    exact fd125 h0
  rw [show Nat.beq op 125 = false from fnb k125, cond_false] at h
  by_cases k126 : op = 126
  · subst k126
    rw [show Nat.beq 126 126 = true from rfl, cond_true] at h
    cases h
    exact fd126 h0
  rw [show Nat.beq op 126 = false from fnb k126, cond_false] at h
  by_cases k127 : op = 127
  · subst k127
    rw [show Nat.beq 127 127 = true from rfl, cond_true] at h
    cases h
    exact fd127 h0
  rw [show Nat.beq op 127 = false from fnb k127, cond_false] at h
  exact fdo7_ok h0 h1 h2 h
theorem fdo5_ok {code : ByteArray} {pc op b1 b2 : Nat} {r : Instr × Nat} (h0 : u1r code pc = some op) (h1 : b1 < 256 → u1r code (pc + 1) = some b1) (h2 : b2 < 256 → u1r code (pc + 1 + 1) = some b2) (h : fdo5 op b1 b2 = some r) : decode code pc = .ok r := by
  unfold fdo5 at h
  by_cases k78 : op = 78
  · subst k78
    rw [show Nat.beq 78 78 = true from rfl, cond_true] at h
    cases h
    exact fd78 h0
  rw [show Nat.beq op 78 = false from fnb k78, cond_false] at h
  by_cases k79 : op = 79
  · subst k79
    rw [show Nat.beq 79 79 = true from rfl, cond_true] at h
    cases h
    exact fd79 h0
  rw [show Nat.beq op 79 = false from fnb k79, cond_false] at h
  by_cases k80 : op = 80
  · subst k80
    rw [show Nat.beq 80 80 = true from rfl, cond_true] at h
    cases h
    exact fd80 h0
  rw [show Nat.beq op 80 = false from fnb k80, cond_false] at h
  by_cases k83 : op = 83
  · subst k83
    rw [show Nat.beq 83 83 = true from rfl, cond_true] at h
    cases h
    exact fd83 h0
  rw [show Nat.beq op 83 = false from fnb k83, cond_false] at h
  by_cases k84 : op = 84
  · subst k84
    rw [show Nat.beq 84 84 = true from rfl, cond_true] at h
    cases h
    exact fd84 h0
  rw [show Nat.beq op 84 = false from fnb k84, cond_false] at h
  by_cases k85 : op = 85
  · subst k85
    rw [show Nat.beq 85 85 = true from rfl, cond_true] at h
    cases h
    exact fd85 h0
  rw [show Nat.beq op 85 = false from fnb k85, cond_false] at h
  by_cases k87 : op = 87
  · subst k87
    rw [show Nat.beq 87 87 = true from rfl, cond_true] at h
    cases h
    exact fd87 h0
  rw [show Nat.beq op 87 = false from fnb k87, cond_false] at h
  by_cases k89 : op = 89
  · subst k89
    rw [show Nat.beq 89 89 = true from rfl, cond_true] at h
    cases h
    exact fd89 h0
  rw [show Nat.beq op 89 = false from fnb k89, cond_false] at h
  by_cases k92 : op = 92
  · subst k92
    rw [show Nat.beq 92 92 = true from rfl, cond_true] at h
    cases h
    exact fd92 h0
  rw [show Nat.beq op 92 = false from fnb k92, cond_false] at h
  by_cases k97 : op = 97
  · subst k97
    rw [show Nat.beq 97 97 = true from rfl, cond_true] at h
    cases h
    exact fd97 h0
  rw [show Nat.beq op 97 = false from fnb k97, cond_false] at h
  by_cases k100 : op = 100
  · subst k100
    rw [show Nat.beq 100 100 = true from rfl, cond_true] at h
    cases h
    exact fd100 h0
  rw [show Nat.beq op 100 = false from fnb k100, cond_false] at h
  by_cases k101 : op = 101
  · subst k101
    rw [show Nat.beq 101 101 = true from rfl, cond_true] at h
    cases h
    exact fd101 h0
  rw [show Nat.beq op 101 = false from fnb k101, cond_false] at h
  exact fdo6_ok h0 h1 h2 h
theorem fdo4_ok {code : ByteArray} {pc op b1 b2 : Nat} {r : Instr × Nat} (h0 : u1r code pc = some op) (h1 : b1 < 256 → u1r code (pc + 1) = some b1) (h2 : b2 < 256 → u1r code (pc + 1 + 1) = some b2) (h : fdo4 op b1 b2 = some r) : decode code pc = .ok r := by
  unfold fdo4 at h
  by_cases k50 : op = 50
  · subst k50
    rw [show Nat.beq 50 50 = true from rfl, cond_true] at h
    cases h
    exact fd50 h0
  rw [show Nat.beq op 50 = false from fnb k50, cond_false] at h
  by_cases k51 : op = 51
  · subst k51
    rw [show Nat.beq 51 51 = true from rfl, cond_true] at h
    cases h
    exact fd51 h0
  rw [show Nat.beq op 51 = false from fnb k51, cond_false] at h
  by_cases k52 : op = 52
  · subst k52
    rw [show Nat.beq 52 52 = true from rfl, cond_true] at h
    cases h
    exact fd52 h0
  rw [show Nat.beq op 52 = false from fnb k52, cond_false] at h
  by_cases k55 : op = 55
  · subst k55
    rw [show Nat.beq 55 55 = true from rfl, cond_true] at h
    obtain ⟨g1, h⟩ := bcond2 h
    cases h
    exact fd55 h0 (h1 (zblt g1))
  rw [show Nat.beq op 55 = false from fnb k55, cond_false] at h
  by_cases k58 : op = 58
  · subst k58
    rw [show Nat.beq 58 58 = true from rfl, cond_true] at h
    obtain ⟨g1, h⟩ := bcond2 h
    cases h
    exact fd58 h0 (h1 (zblt g1))
  rw [show Nat.beq op 58 = false from fnb k58, cond_false] at h
  by_cases k63 : op = 63
  · subst k63
    rw [show Nat.beq 63 63 = true from rfl, cond_true] at h
    cases h
    exact fd63 h0
  rw [show Nat.beq op 63 = false from fnb k63, cond_false] at h
  by_cases k64 : op = 64
  · subst k64
    rw [show Nat.beq 64 64 = true from rfl, cond_true] at h
    cases h
    exact fd64 h0
  rw [show Nat.beq op 64 = false from fnb k64, cond_false] at h
  by_cases k65 : op = 65
  · subst k65
    rw [show Nat.beq 65 65 = true from rfl, cond_true] at h
    cases h
    exact fd65 h0
  rw [show Nat.beq op 65 = false from fnb k65, cond_false] at h
  by_cases k66 : op = 66
  · subst k66
    rw [show Nat.beq 66 66 = true from rfl, cond_true] at h
    cases h
    exact fd66 h0
  rw [show Nat.beq op 66 = false from fnb k66, cond_false] at h
  by_cases k75 : op = 75
  · subst k75
    rw [show Nat.beq 75 75 = true from rfl, cond_true] at h
    cases h
    exact fd75 h0
  rw [show Nat.beq op 75 = false from fnb k75, cond_false] at h
  by_cases k76 : op = 76
  · subst k76
    rw [show Nat.beq 76 76 = true from rfl, cond_true] at h
    cases h
    exact fd76 h0
  rw [show Nat.beq op 76 = false from fnb k76, cond_false] at h
  by_cases k77 : op = 77
  · subst k77
    rw [show Nat.beq 77 77 = true from rfl, cond_true] at h
    cases h
    exact fd77 h0
  rw [show Nat.beq op 77 = false from fnb k77, cond_false] at h
  exact fdo5_ok h0 h1 h2 h
theorem fdo3_ok {code : ByteArray} {pc op b1 b2 : Nat} {r : Instr × Nat} (h0 : u1r code pc = some op) (h1 : b1 < 256 → u1r code (pc + 1) = some b1) (h2 : b2 < 256 → u1r code (pc + 1 + 1) = some b2) (h : fdo3 op b1 b2 = some r) : decode code pc = .ok r := by
  unfold fdo3 at h
  by_cases k10 : op = 10
  · subst k10
    rw [show Nat.beq 10 10 = true from rfl, cond_true] at h
    cases h
    exact fd10 h0
  rw [show Nat.beq op 10 = false from fnb k10, cond_false] at h
  by_cases k17 : op = 17
  · subst k17
    rw [show Nat.beq 17 17 = true from rfl, cond_true] at h
    obtain ⟨g1, h⟩ := bcond2 h
    rw [Bool.and_eq_true] at g1
    cases h
    exact fd17 h0 (h1 (zblt g1.1)) (h2 (zblt g1.2))
  rw [show Nat.beq op 17 = false from fnb k17, cond_false] at h
  by_cases k18 : op = 18
  · subst k18
    rw [show Nat.beq 18 18 = true from rfl, cond_true] at h
    obtain ⟨g1, h⟩ := bcond2 h
    cases h
    exact fd18 h0 (h1 (zblt g1))
  rw [show Nat.beq op 18 = false from fnb k18, cond_false] at h
  by_cases k19 : op = 19
  · subst k19
    rw [show Nat.beq 19 19 = true from rfl, cond_true] at h
    obtain ⟨g1, h⟩ := bcond2 h
    rw [Bool.and_eq_true] at g1
    cases h
    exact fd19 h0 (h1 (zblt g1.1)) (h2 (zblt g1.2))
  rw [show Nat.beq op 19 = false from fnb k19, cond_false] at h
  by_cases k20 : op = 20
  · subst k20
    rw [show Nat.beq 20 20 = true from rfl, cond_true] at h
    obtain ⟨g1, h⟩ := bcond2 h
    rw [Bool.and_eq_true] at g1
    cases h
    exact fd20 h0 (h1 (zblt g1.1)) (h2 (zblt g1.2))
  rw [show Nat.beq op 20 = false from fnb k20, cond_false] at h
  by_cases k22 : op = 22
  · subst k22
    rw [show Nat.beq 22 22 = true from rfl, cond_true] at h
    obtain ⟨g1, h⟩ := bcond2 h
    cases h
    exact fd22 h0 (h1 (zblt g1))
  rw [show Nat.beq op 22 = false from fnb k22, cond_false] at h
  by_cases k25 : op = 25
  · subst k25
    rw [show Nat.beq 25 25 = true from rfl, cond_true] at h
    obtain ⟨g1, h⟩ := bcond2 h
    cases h
    exact fd25 h0 (h1 (zblt g1))
  rw [show Nat.beq op 25 = false from fnb k25, cond_false] at h
  by_cases k30 : op = 30
  · subst k30
    rw [show Nat.beq 30 30 = true from rfl, cond_true] at h
    cases h
    exact fd30 h0
  rw [show Nat.beq op 30 = false from fnb k30, cond_false] at h
  by_cases k31 : op = 31
  · subst k31
    rw [show Nat.beq 31 31 = true from rfl, cond_true] at h
    cases h
    exact fd31 h0
  rw [show Nat.beq op 31 = false from fnb k31, cond_false] at h
  by_cases k32 : op = 32
  · subst k32
    rw [show Nat.beq 32 32 = true from rfl, cond_true] at h
    cases h
    exact fd32 h0
  rw [show Nat.beq op 32 = false from fnb k32, cond_false] at h
  by_cases k33 : op = 33
  · subst k33
    rw [show Nat.beq 33 33 = true from rfl, cond_true] at h
    cases h
    exact fd33 h0
  rw [show Nat.beq op 33 = false from fnb k33, cond_false] at h
  by_cases k47 : op = 47
  · subst k47
    rw [show Nat.beq 47 47 = true from rfl, cond_true] at h
    cases h
    exact fd47 h0
  rw [show Nat.beq op 47 = false from fnb k47, cond_false] at h
  exact fdo4_ok h0 h1 h2 h
theorem fdo2_ok {code : ByteArray} {pc op b1 b2 : Nat} {r : Instr × Nat} (h0 : u1r code pc = some op) (h1 : b1 < 256 → u1r code (pc + 1) = some b1) (h2 : b2 < 256 → u1r code (pc + 1 + 1) = some b2) (h : fdo2 op b1 b2 = some r) : decode code pc = .ok r := by
  unfold fdo2 at h
  by_cases k2 : op = 2
  · subst k2
    rw [show Nat.beq 2 2 = true from rfl, cond_true] at h
    cases h
    exact fd2 h0
  rw [show Nat.beq op 2 = false from fnb k2, cond_false] at h
  by_cases k59 : op = 59
  · subst k59
    rw [show Nat.beq 59 59 = true from rfl, cond_true] at h
    cases h
    exact fd59 h0
  rw [show Nat.beq op 59 = false from fnb k59, cond_false] at h
  by_cases k60 : op = 60
  · subst k60
    rw [show Nat.beq 60 60 = true from rfl, cond_true] at h
    cases h
    exact fd60 h0
  rw [show Nat.beq op 60 = false from fnb k60, cond_false] at h
  by_cases k61 : op = 61
  · subst k61
    rw [show Nat.beq 61 61 = true from rfl, cond_true] at h
    cases h
    exact fd61 h0
  rw [show Nat.beq op 61 = false from fnb k61, cond_false] at h
  by_cases k62 : op = 62
  · subst k62
    rw [show Nat.beq 62 62 = true from rfl, cond_true] at h
    cases h
    exact fd62 h0
  rw [show Nat.beq op 62 = false from fnb k62, cond_false] at h
  by_cases k54 : op = 54
  · subst k54
    rw [show Nat.beq 54 54 = true from rfl, cond_true] at h
    obtain ⟨g1, h⟩ := bcond2 h
    cases h
    exact fd54 h0 (h1 (zblt g1))
  rw [show Nat.beq op 54 = false from fnb k54, cond_false] at h
  by_cases k184 : op = 184
  · subst k184
    rw [show Nat.beq 184 184 = true from rfl, cond_true] at h
    obtain ⟨g1, h⟩ := bcond2 h
    rw [Bool.and_eq_true] at g1
    cases h
    exact fd184 h0 (h1 (zblt g1.1)) (h2 (zblt g1.2))
  rw [show Nat.beq op 184 = false from fnb k184, cond_false] at h
  by_cases k181 : op = 181
  · subst k181
    rw [show Nat.beq 181 181 = true from rfl, cond_true] at h
    obtain ⟨g1, h⟩ := bcond2 h
    rw [Bool.and_eq_true] at g1
    cases h
    exact fd181 h0 (h1 (zblt g1.1)) (h2 (zblt g1.2))
  rw [show Nat.beq op 181 = false from fnb k181, cond_false] at h
  by_cases k6 : op = 6
  · subst k6
    rw [show Nat.beq 6 6 = true from rfl, cond_true] at h
    cases h
    exact fd6 h0
  rw [show Nat.beq op 6 = false from fnb k6, cond_false] at h
  by_cases k7 : op = 7
  · subst k7
    rw [show Nat.beq 7 7 = true from rfl, cond_true] at h
    cases h
    exact fd7 h0
  rw [show Nat.beq op 7 = false from fnb k7, cond_false] at h
  by_cases k8 : op = 8
  · subst k8
    rw [show Nat.beq 8 8 = true from rfl, cond_true] at h
    cases h
    exact fd8 h0
  rw [show Nat.beq op 8 = false from fnb k8, cond_false] at h
  by_cases k9 : op = 9
  · subst k9
    rw [show Nat.beq 9 9 = true from rfl, cond_true] at h
    cases h
    exact fd9 h0
  rw [show Nat.beq op 9 = false from fnb k9, cond_false] at h
  exact fdo3_ok h0 h1 h2 h
theorem fdo1_ok {code : ByteArray} {pc op b1 b2 : Nat} {r : Instr × Nat} (h0 : u1r code pc = some op) (h1 : b1 < 256 → u1r code (pc + 1) = some b1) (h2 : b2 < 256 → u1r code (pc + 1 + 1) = some b2) (h : fdo1 op b1 b2 = some r) : decode code pc = .ok r := by
  unfold fdo1 at h
  by_cases k182 : op = 182
  · subst k182
    rw [show Nat.beq 182 182 = true from rfl, cond_true] at h
    obtain ⟨g1, h⟩ := bcond2 h
    rw [Bool.and_eq_true] at g1
    cases h
    exact fd182 h0 (h1 (zblt g1.1)) (h2 (zblt g1.2))
  rw [show Nat.beq op 182 = false from fnb k182, cond_false] at h
  by_cases k167 : op = 167
  · subst k167
    rw [show Nat.beq 167 167 = true from rfl, cond_true] at h
    obtain ⟨g1, h⟩ := bcond2 h
    rw [Bool.and_eq_true] at g1
    cases h
    exact fd167 h0 (h1 (zblt g1.1)) (h2 (zblt g1.2))
  rw [show Nat.beq op 167 = false from fnb k167, cond_false] at h
  by_cases k96 : op = 96
  · subst k96
    rw [show Nat.beq 96 96 = true from rfl, cond_true] at h
    cases h
    exact fd96 h0
  rw [show Nat.beq op 96 = false from fnb k96, cond_false] at h
  by_cases k43 : op = 43
  · subst k43
    rw [show Nat.beq 43 43 = true from rfl, cond_true] at h
    cases h
    exact fd43 h0
  rw [show Nat.beq op 43 = false from fnb k43, cond_false] at h
  by_cases k44 : op = 44
  · subst k44
    rw [show Nat.beq 44 44 = true from rfl, cond_true] at h
    cases h
    exact fd44 h0
  rw [show Nat.beq op 44 = false from fnb k44, cond_false] at h
  by_cases k45 : op = 45
  · subst k45
    rw [show Nat.beq 45 45 = true from rfl, cond_true] at h
    cases h
    exact fd45 h0
  rw [show Nat.beq op 45 = false from fnb k45, cond_false] at h
  by_cases k5 : op = 5
  · subst k5
    rw [show Nat.beq 5 5 = true from rfl, cond_true] at h
    cases h
    exact fd5 h0
  rw [show Nat.beq op 5 = false from fnb k5, cond_false] at h
  by_cases k153 : op = 153
  · subst k153
    rw [show Nat.beq 153 153 = true from rfl, cond_true] at h
    obtain ⟨g1, h⟩ := bcond2 h
    rw [Bool.and_eq_true] at g1
    cases h
    exact fd153 h0 (h1 (zblt g1.1)) (h2 (zblt g1.2))
  rw [show Nat.beq op 153 = false from fnb k153, cond_false] at h
  by_cases k154 : op = 154
  · subst k154
    rw [show Nat.beq 154 154 = true from rfl, cond_true] at h
    obtain ⟨g1, h⟩ := bcond2 h
    rw [Bool.and_eq_true] at g1
    cases h
    exact fd154 h0 (h1 (zblt g1.1)) (h2 (zblt g1.2))
  rw [show Nat.beq op 154 = false from fnb k154, cond_false] at h
  by_cases k162 : op = 162
  · subst k162
    rw [show Nat.beq 162 162 = true from rfl, cond_true] at h
    obtain ⟨g1, h⟩ := bcond2 h
    rw [Bool.and_eq_true] at g1
    cases h
    exact fd162 h0 (h1 (zblt g1.1)) (h2 (zblt g1.2))
  rw [show Nat.beq op 162 = false from fnb k162, cond_false] at h
  by_cases k160 : op = 160
  · subst k160
    rw [show Nat.beq 160 160 = true from rfl, cond_true] at h
    obtain ⟨g1, h⟩ := bcond2 h
    rw [Bool.and_eq_true] at g1
    cases h
    exact fd160 h0 (h1 (zblt g1.1)) (h2 (zblt g1.2))
  rw [show Nat.beq op 160 = false from fnb k160, cond_false] at h
  by_cases k161 : op = 161
  · subst k161
    rw [show Nat.beq 161 161 = true from rfl, cond_true] at h
    obtain ⟨g1, h⟩ := bcond2 h
    rw [Bool.and_eq_true] at g1
    cases h
    exact fd161 h0 (h1 (zblt g1.1)) (h2 (zblt g1.2))
  rw [show Nat.beq op 161 = false from fnb k161, cond_false] at h
  exact fdo2_ok h0 h1 h2 h
theorem fdo0_ok {code : ByteArray} {pc op b1 b2 : Nat} {r : Instr × Nat} (h0 : u1r code pc = some op) (h1 : b1 < 256 → u1r code (pc + 1) = some b1) (h2 : b2 < 256 → u1r code (pc + 1 + 1) = some b2) (h : fdo0 op b1 b2 = some r) : decode code pc = .ok r := by
  unfold fdo0 at h
  by_cases k42 : op = 42
  · subst k42
    rw [show Nat.beq 42 42 = true from rfl, cond_true] at h
    cases h
    exact fd42 h0
  rw [show Nat.beq op 42 = false from fnb k42, cond_false] at h
  by_cases k3 : op = 3
  · subst k3
    rw [show Nat.beq 3 3 = true from rfl, cond_true] at h
    cases h
    exact fd3 h0
  rw [show Nat.beq op 3 = false from fnb k3, cond_false] at h
  by_cases k4 : op = 4
  · subst k4
    rw [show Nat.beq 4 4 = true from rfl, cond_true] at h
    cases h
    exact fd4 h0
  rw [show Nat.beq op 4 = false from fnb k4, cond_false] at h
  by_cases k27 : op = 27
  · subst k27
    rw [show Nat.beq 27 27 = true from rfl, cond_true] at h
    cases h
    exact fd27 h0
  rw [show Nat.beq op 27 = false from fnb k27, cond_false] at h
  by_cases k180 : op = 180
  · subst k180
    rw [show Nat.beq 180 180 = true from rfl, cond_true] at h
    obtain ⟨g1, h⟩ := bcond2 h
    rw [Bool.and_eq_true] at g1
    cases h
    exact fd180 h0 (h1 (zblt g1.1)) (h2 (zblt g1.2))
  rw [show Nat.beq op 180 = false from fnb k180, cond_false] at h
  by_cases k28 : op = 28
  · subst k28
    rw [show Nat.beq 28 28 = true from rfl, cond_true] at h
    cases h
    exact fd28 h0
  rw [show Nat.beq op 28 = false from fnb k28, cond_false] at h
  by_cases k21 : op = 21
  · subst k21
    rw [show Nat.beq 21 21 = true from rfl, cond_true] at h
    obtain ⟨g1, h⟩ := bcond2 h
    cases h
    exact fd21 h0 (h1 (zblt g1))
  rw [show Nat.beq op 21 = false from fnb k21, cond_false] at h
  by_cases k26 : op = 26
  · subst k26
    rw [show Nat.beq 26 26 = true from rfl, cond_true] at h
    cases h
    exact fd26 h0
  rw [show Nat.beq op 26 = false from fnb k26, cond_false] at h
  by_cases k29 : op = 29
  · subst k29
    rw [show Nat.beq 29 29 = true from rfl, cond_true] at h
    cases h
    exact fd29 h0
  rw [show Nat.beq op 29 = false from fnb k29, cond_false] at h
  by_cases k172 : op = 172
  · subst k172
    rw [show Nat.beq 172 172 = true from rfl, cond_true] at h
    cases h
    exact fd172 h0
  rw [show Nat.beq op 172 = false from fnb k172, cond_false] at h
  by_cases k46 : op = 46
  · subst k46
    rw [show Nat.beq 46 46 = true from rfl, cond_true] at h
    cases h
    exact fd46 h0
  rw [show Nat.beq op 46 = false from fnb k46, cond_false] at h
  by_cases k16 : op = 16
  · subst k16
    rw [show Nat.beq 16 16 = true from rfl, cond_true] at h
    obtain ⟨g1, h⟩ := bcond2 h
    cases h
    exact fd16 h0 (h1 (zblt g1))
  rw [show Nat.beq op 16 = false from fnb k16, cond_false] at h
  exact fdo1_ok h0 h1 h2 h
/-- the row q of the method me, fast -/
def sokF (zm : List ZMe) (me : ZMe) (q : ZI) : Bool := (match fdo0 (fget me.2.2.1.data.toList q.1) (fget me.2.2.1.data.toList (q.1 + 1)) (fget me.2.2.1.data.toList (q.1 + 1 + 1)) with
  | some r => decide (r = (q.2.1, q.2.2.1))
  | none => decide (decode me.2.2.1 q.1 = .ok (q.2.1, q.2.2.1))) && (szlok q.2.1 q.2.2.1 && (slk0 me.1 q.2.1 q.2.2.2 && slkc zm me.1 q.2.1 q.2.2.2))
theorem fdo0_lt {op b1 b2 : Nat} {r : Instr × Nat} (h : fdo0 op b1 b2 = some r) : op < 256 := by
  by_cases hc : op < 256
  · exact hc
  · exfalso
    have hn : ∀ k, k < 256 → Nat.beq op k = false := fun k hk => fnb (by omega)
    simp [fdo0, fdo1, fdo2, fdo3, fdo4, fdo5, fdo6, fdo7, fdo8, hn] at h
theorem sokF_ok {zm : List ZMe} {me : ZMe} {q : ZI} (h : sokF zm me q = true) : sok zm me q = true := by
  unfold sokF at h
  unfold sok
  rw [Bool.and_eq_true] at h ⊢
  refine ⟨?_, h.2⟩
  cases hr : fdo0 (fget me.2.2.1.data.toList q.1) (fget me.2.2.1.data.toList (q.1 + 1)) (fget me.2.2.1.data.toList (q.1 + 1 + 1)) with
  | none =>
    rw [hr] at h
    exact h.1
  | some r =>
    rw [hr] at h
    have e := of_decide_eq_true h.1
    subst e
    exact decide_eq_true (fdo0_ok (fget_u1 rfl (fdo0_lt hr)) (fun z => fget_u1 rfl z) (fun z => fget_u1 rfl z) hr)
