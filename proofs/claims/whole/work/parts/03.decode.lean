/-! what 'decode' says of each instruction that the code holds, opcode by opcode -/
def zby (b : ByteArray) (p x : Nat) : Prop := ∃ h : p < b.size, b[p].toNat = x
theorem zbd {α β : Type} {x : Decoder α} {f : α → Decoder β} {b : ByteArray} {p q : Nat} {a : α} {r : Except DecodeError (β × Nat)} (h : x b p = .ok (a, q)) (k : f a b q = r) : (x >>= f) b p = r := by
  show Except.bind (x b p) (fun z => f z.1 b z.2) = r
  rw [h]
  exact k
theorem zmp {α β : Type} {x : Decoder α} {f : α → β} {b : ByteArray} {p q : Nat} {a : α} (h : x b p = .ok (a, q)) : (f <$> x) b p = .ok (f a, q) := by
  show Except.bind (x b p) (fun z => .ok (f z.1, z.2)) = _
  rw [h]
  rfl
theorem zu1 {b : ByteArray} {p x : Nat} (h : zby b p x) : (Reader.u1 : Decoder Nat) b p = .ok (x, p + 1) := by
  obtain ⟨h1, h2⟩ := h
  subst h2
  unfold Reader.u1
  refine zbd (a := b) (q := p) rfl (zbd (a := p) (q := p) rfl ?_)
  show (dite (p < b.size) _ _ : Decoder Nat) b p = _
  rw [dif_pos h1]
  rfl
theorem zu2 {b : ByteArray} {p x y : Nat} (h : zby b p x) (h1 : zby b (p + 1) y) : (Reader.u2 : Decoder Nat) b p = .ok (x * 256 + y, p + 2) := zbd (zu1 h) (zbd (zu1 h1) rfl)
theorem zs1 {b : ByteArray} {p x : Nat} (h : zby b p x) : (Reader.s1 : Decoder Int) b p = .ok (Reader.signed 8 x, p + 1) := zmp (zu1 h)
theorem zs2 {b : ByteArray} {p x y : Nat} (h : zby b p x) (h1 : zby b (p + 1) y) : (Reader.s2 : Decoder Int) b p = .ok (Reader.signed 16 (x * 256 + y), p + 2) := zmp (zu2 h h1)
theorem zdcd {b : ByteArray} {pc n : Nat} {i : Instr} (h : Decoder.instr pc b pc = .ok (i, pc + n)) : decode b pc = .ok (i, n) := by
  unfold decode
  show Except.bind (Decoder.instr pc b pc) (fun z => .ok (z.1, z.2 - pc)) = _
  rw [h]
  show Except.ok (i, pc + n - pc) = _
  rw [Nat.add_sub_cancel_left]
def zo0 (l : List Nat) (c : Nat) : Bool := match l with
  | x :: _ => Nat.beq x c
  | _ => false
def zo1 (l : List Nat) (c n : Nat) : Bool := match l with
  | x :: y :: _ => Nat.beq x c && Nat.beq y n
  | _ => false
def zo2 (l : List Nat) (c n : Nat) : Bool := match l with
  | x :: y :: z :: _ => Nat.beq x c && Nat.beq (y * 256 + z) n
  | _ => false
def zp1 (l : List Nat) (c : Nat) (n : Int) : Bool := match l with
  | x :: y :: _ => Nat.beq x c && decide (Reader.signed 8 y = n)
  | _ => false
def zp2 (l : List Nat) (c : Nat) (n : Int) : Bool := match l with
  | x :: y :: z :: _ => Nat.beq x c && decide (Reader.signed 16 (y * 256 + z) = n)
  | _ => false
def zp3 (l : List Nat) (c k : Nat) (n : Int) : Bool := match l with
  | x :: y :: z :: _ => Nat.beq x c && Nat.beq y k && decide (Reader.signed 8 z = n)
  | _ => false
def zbs (l : List Nat) (b : ByteArray) (pc : Nat) : Prop := ∀ j x, l[j]? = some x → zby b (pc + j) x
theorem zo0_ok {l : List Nat} {b : ByteArray} {pc c : Nat} (h : zo0 l c = true) (hb : zbs l b pc) : zby b pc c := by
  match l, h with
  | x :: _, h => exact Nat.eq_of_beq_eq_true h ▸ hb 0 x rfl
theorem zo1_ok {l : List Nat} {b : ByteArray} {pc c n : Nat} (h : zo1 l c n = true) (hb : zbs l b pc) : zby b pc c ∧ zby b (pc + 1) n := by
  match l, h with
  | x :: y :: _, h =>
    obtain ⟨h1, h2⟩ := Bool.and_eq_true _ _ ▸ (h : (Nat.beq x c && Nat.beq y n) = true)
    exact ⟨Nat.eq_of_beq_eq_true h1 ▸ hb 0 x rfl, Nat.eq_of_beq_eq_true h2 ▸ hb 1 y rfl⟩
theorem zo2_ok {l : List Nat} {b : ByteArray} {pc c n : Nat} (h : zo2 l c n = true) (hb : zbs l b pc) : zby b pc c ∧ ∃ y z, zby b (pc + 1) y ∧ zby b (pc + 2) z ∧ y * 256 + z = n := by
  match l, h with
  | x :: y :: z :: _, h =>
    obtain ⟨h1, h2⟩ := Bool.and_eq_true _ _ ▸ (h : (Nat.beq x c && Nat.beq (y * 256 + z) n) = true)
    exact ⟨Nat.eq_of_beq_eq_true h1 ▸ hb 0 x rfl, y, z, hb 1 y rfl, hb 2 z rfl, Nat.eq_of_beq_eq_true h2⟩
theorem zp1_ok {l : List Nat} {b : ByteArray} {pc c : Nat} {n : Int} (h : zp1 l c n = true) (hb : zbs l b pc) : zby b pc c ∧ ∃ y, zby b (pc + 1) y ∧ Reader.signed 8 y = n := by
  match l, h with
  | x :: y :: _, h =>
    obtain ⟨h1, h2⟩ := Bool.and_eq_true _ _ ▸ (h : (Nat.beq x c && decide (Reader.signed 8 y = n)) = true)
    exact ⟨Nat.eq_of_beq_eq_true h1 ▸ hb 0 x rfl, y, hb 1 y rfl, of_decide_eq_true h2⟩
theorem zp2_ok {l : List Nat} {b : ByteArray} {pc c : Nat} {n : Int} (h : zp2 l c n = true) (hb : zbs l b pc) : zby b pc c ∧ ∃ y z, zby b (pc + 1) y ∧ zby b (pc + 2) z ∧ Reader.signed 16 (y * 256 + z) = n := by
  match l, h with
  | x :: y :: z :: _, h =>
    obtain ⟨h1, h2⟩ := Bool.and_eq_true _ _ ▸ (h : (Nat.beq x c && decide (Reader.signed 16 (y * 256 + z) = n)) = true)
    exact ⟨Nat.eq_of_beq_eq_true h1 ▸ hb 0 x rfl, y, z, hb 1 y rfl, hb 2 z rfl, of_decide_eq_true h2⟩
theorem zp3_ok {l : List Nat} {b : ByteArray} {pc c k : Nat} {n : Int} (h : zp3 l c k n = true) (hb : zbs l b pc) : zby b pc c ∧ zby b (pc + 1) k ∧ ∃ z, zby b (pc + 2) z ∧ Reader.signed 8 z = n := by
  match l, h with
  | x :: y :: z :: _, h =>
    obtain ⟨h12, h3⟩ := Bool.and_eq_true _ _ ▸ (h : (Nat.beq x c && Nat.beq y k && decide (Reader.signed 8 z = n)) = true)
    obtain ⟨h1, h2⟩ := Bool.and_eq_true _ _ ▸ h12
    exact ⟨Nat.eq_of_beq_eq_true h1 ▸ hb 0 x rfl, Nat.eq_of_beq_eq_true h2 ▸ hb 1 y rfl, z, hb 2 z rfl, of_decide_eq_true h3⟩
def zck1 (i : Instr) (l : List Nat) : Bool := match i with
  | .iaload => zo0 l 46
  | .laload => zo0 l 47
  | .aaload => zo0 l 50
  | .baload => zo0 l 51
  | .iastore => zo0 l 79
  | .lastore => zo0 l 80
  | .bastore => zo0 l 84
  | .pop => zo0 l 87
  | .dup => zo0 l 89
  | .dup2 => zo0 l 92
  | .iadd => zo0 l 96
  | .isub => zo0 l 100
  | .imul => zo0 l 104
  | .idiv => zo0 l 108
  | .irem => zo0 l 112
  | .ineg => zo0 l 116
  | .ishl => zo0 l 120
  | .ishr => zo0 l 122
  | .iushr => zo0 l 124
  | .iand => zo0 l 126
  | .land => zo0 l 127
  | .ior => zo0 l 128
  | .lor => zo0 l 129
  | .ixor => zo0 l 130
  | .i2l => zo0 l 133
  | .l2i => zo0 l 136
  | .i2b => zo0 l 145
  | .i2c => zo0 l 146
  | .i2s => zo0 l 147
  | .lcmp => zo0 l 148
  | .ireturn => zo0 l 172
  | .lreturn => zo0 l 173
  | .areturn => zo0 l 176
  | .return_ => zo0 l 177
  | .arraylength => zo0 l 190
  | .athrow => zo0 l 191
  | .lshl => zo0 l 121
  | .ldc n => zo1 l 18 n
  | .iload n => zo1 l 21 n
  | .aload n => zo1 l 25 n
  | .istore n => zo1 l 54 n
  | .astore n => zo1 l 58 n
  | .ldc_w n => zo2 l 19 n
  | .ldc2_w n => zo2 l 20 n
  | .getstatic n => zo2 l 178 n
  | .getfield n => zo2 l 180 n
  | .putfield n => zo2 l 181 n
  | .invokevirtual n => zo2 l 182 n
  | .invokespecial n => zo2 l 183 n
  | .invokestatic n => zo2 l 184 n
  | .new n => zo2 l 187 n
  | .goto n => zp2 l 167 n
  | .ifnull n => zp2 l 198 n
  | .ifnonnull n => zp2 l 199 n
  | .sipush n => zp2 l 17 n
  | .aload_n 0 => zo0 l 42
  | .aload_n 1 => zo0 l 43
  | .aload_n 2 => zo0 l 44
  | .aload_n 3 => zo0 l 45
  | .iload_n 0 => zo0 l 26
  | .iload_n 1 => zo0 l 27
  | .iload_n 2 => zo0 l 28
  | .iload_n 3 => zo0 l 29
  | .lload_n 0 => zo0 l 30
  | .lload_n 1 => zo0 l 31
  | .lload_n 2 => zo0 l 32
  | .lload_n 3 => zo0 l 33
  | .istore_n 0 => zo0 l 59
  | .istore_n 1 => zo0 l 60
  | .istore_n 2 => zo0 l 61
  | .istore_n 3 => zo0 l 62
  | .astore_n 0 => zo0 l 75
  | .astore_n 1 => zo0 l 76
  | .astore_n 2 => zo0 l 77
  | .astore_n 3 => zo0 l 78
  | .lconst 0 => zo0 l 9
  | .lconst 1 => zo0 l 10
  | .bipush n => zp1 l 16 n
  | .iinc k n => zp3 l 132 k n
  | .ifCond .eq o => zp2 l 153 o
  | .ifCond .ne o => zp2 l 154 o
  | .ifCond .lt o => zp2 l 155 o
  | .ifCond .ge o => zp2 l 156 o
  | .ifCond .gt o => zp2 l 157 o
  | .ifCond .le o => zp2 l 158 o
  | .if_icmp .eq o => zp2 l 159 o
  | .if_icmp .ne o => zp2 l 160 o
  | .if_icmp .lt o => zp2 l 161 o
  | .if_icmp .ge o => zp2 l 162 o
  | .if_icmp .gt o => zp2 l 163 o
  | .if_icmp .le o => zp2 l 164 o
  | .iconst n => (decide (n = -1) && zo0 l 2) || ((decide (n = 0) && zo0 l 3) || ((decide (n = 1) && zo0 l 4) || ((decide (n = 2) && zo0 l 5) || ((decide (n = 3) && zo0 l 6) || ((decide (n = 4) && zo0 l 7) || (decide (n = 5) && zo0 l 8))))))
  | _ => false
def zil : Instr → Nat
  | .aload _ | .iload _ | .istore _ | .astore _ | .bipush _ | .ldc _ => 2
  | .iinc _ _ | .sipush _ | .getfield _ | .putfield _ | .getstatic _ | .ldc_w _ | .ldc2_w _ | .goto _ | .if_icmp _ _ | .ifCond _ _ | .ifnull _ | .ifnonnull _ | .invokevirtual _ | .invokestatic _ | .invokespecial _ | .new _ => 3
  | _ => 1
def zsw : Instr → Bool
  | .tableswitch _ _ _ _ | .lookupswitch _ _ => true
  | _ => false
set_option maxRecDepth 100000 in
set_option maxHeartbeats 4000000 in
theorem zck1_ok {i : Instr} {l : List Nat} {b : ByteArray} {pc : Nat} (h : zck1 i l = true) (hb : zbs l b pc) : decode b pc = .ok (i, zil i) := by
  cases i
  case iaload => exact zdcd (zbd (zu1 (zo0_ok h hb)) rfl)
  case laload => exact zdcd (zbd (zu1 (zo0_ok h hb)) rfl)
  case aaload => exact zdcd (zbd (zu1 (zo0_ok h hb)) rfl)
  case baload => exact zdcd (zbd (zu1 (zo0_ok h hb)) rfl)
  case iastore => exact zdcd (zbd (zu1 (zo0_ok h hb)) rfl)
  case lastore => exact zdcd (zbd (zu1 (zo0_ok h hb)) rfl)
  case bastore => exact zdcd (zbd (zu1 (zo0_ok h hb)) rfl)
  case pop => exact zdcd (zbd (zu1 (zo0_ok h hb)) rfl)
  case dup => exact zdcd (zbd (zu1 (zo0_ok h hb)) rfl)
  case dup2 => exact zdcd (zbd (zu1 (zo0_ok h hb)) rfl)
  case iadd => exact zdcd (zbd (zu1 (zo0_ok h hb)) rfl)
  case isub => exact zdcd (zbd (zu1 (zo0_ok h hb)) rfl)
  case imul => exact zdcd (zbd (zu1 (zo0_ok h hb)) rfl)
  case idiv => exact zdcd (zbd (zu1 (zo0_ok h hb)) rfl)
  case irem => exact zdcd (zbd (zu1 (zo0_ok h hb)) rfl)
  case ineg => exact zdcd (zbd (zu1 (zo0_ok h hb)) rfl)
  case ishl => exact zdcd (zbd (zu1 (zo0_ok h hb)) rfl)
  case ishr => exact zdcd (zbd (zu1 (zo0_ok h hb)) rfl)
  case iushr => exact zdcd (zbd (zu1 (zo0_ok h hb)) rfl)
  case iand => exact zdcd (zbd (zu1 (zo0_ok h hb)) rfl)
  case land => exact zdcd (zbd (zu1 (zo0_ok h hb)) rfl)
  case ior => exact zdcd (zbd (zu1 (zo0_ok h hb)) rfl)
  case lor => exact zdcd (zbd (zu1 (zo0_ok h hb)) rfl)
  case ixor => exact zdcd (zbd (zu1 (zo0_ok h hb)) rfl)
  case i2l => exact zdcd (zbd (zu1 (zo0_ok h hb)) rfl)
  case l2i => exact zdcd (zbd (zu1 (zo0_ok h hb)) rfl)
  case i2b => exact zdcd (zbd (zu1 (zo0_ok h hb)) rfl)
  case i2c => exact zdcd (zbd (zu1 (zo0_ok h hb)) rfl)
  case i2s => exact zdcd (zbd (zu1 (zo0_ok h hb)) rfl)
  case lcmp => exact zdcd (zbd (zu1 (zo0_ok h hb)) rfl)
  case ireturn => exact zdcd (zbd (zu1 (zo0_ok h hb)) rfl)
  case lreturn => exact zdcd (zbd (zu1 (zo0_ok h hb)) rfl)
  case areturn => exact zdcd (zbd (zu1 (zo0_ok h hb)) rfl)
  case return_ => exact zdcd (zbd (zu1 (zo0_ok h hb)) rfl)
  case arraylength => exact zdcd (zbd (zu1 (zo0_ok h hb)) rfl)
  case athrow => exact zdcd (zbd (zu1 (zo0_ok h hb)) rfl)
  case lshl => exact zdcd (zbd (zu1 (zo0_ok h hb)) rfl)
  case ldc n => exact zdcd (zbd (zu1 (zo1_ok h hb).1) (zbd (zu1 (zo1_ok h hb).2) rfl))
  case iload n => exact zdcd (zbd (zu1 (zo1_ok h hb).1) (zbd (zu1 (zo1_ok h hb).2) rfl))
  case aload n => exact zdcd (zbd (zu1 (zo1_ok h hb).1) (zbd (zu1 (zo1_ok h hb).2) rfl))
  case istore n => exact zdcd (zbd (zu1 (zo1_ok h hb).1) (zbd (zu1 (zo1_ok h hb).2) rfl))
  case astore n => exact zdcd (zbd (zu1 (zo1_ok h hb).1) (zbd (zu1 (zo1_ok h hb).2) rfl))
  case ldc_w n =>
    obtain ⟨h0, y, z, h1, h2, rfl⟩ := zo2_ok h hb
    exact zdcd (zbd (zu1 h0) (zbd (zu2 h1 h2) rfl))
  case ldc2_w n =>
    obtain ⟨h0, y, z, h1, h2, rfl⟩ := zo2_ok h hb
    exact zdcd (zbd (zu1 h0) (zbd (zu2 h1 h2) rfl))
  case getstatic n =>
    obtain ⟨h0, y, z, h1, h2, rfl⟩ := zo2_ok h hb
    exact zdcd (zbd (zu1 h0) (zbd (zu2 h1 h2) rfl))
  case getfield n =>
    obtain ⟨h0, y, z, h1, h2, rfl⟩ := zo2_ok h hb
    exact zdcd (zbd (zu1 h0) (zbd (zu2 h1 h2) rfl))
  case putfield n =>
    obtain ⟨h0, y, z, h1, h2, rfl⟩ := zo2_ok h hb
    exact zdcd (zbd (zu1 h0) (zbd (zu2 h1 h2) rfl))
  case invokevirtual n =>
    obtain ⟨h0, y, z, h1, h2, rfl⟩ := zo2_ok h hb
    exact zdcd (zbd (zu1 h0) (zbd (zu2 h1 h2) rfl))
  case invokespecial n =>
    obtain ⟨h0, y, z, h1, h2, rfl⟩ := zo2_ok h hb
    exact zdcd (zbd (zu1 h0) (zbd (zu2 h1 h2) rfl))
  case invokestatic n =>
    obtain ⟨h0, y, z, h1, h2, rfl⟩ := zo2_ok h hb
    exact zdcd (zbd (zu1 h0) (zbd (zu2 h1 h2) rfl))
  case new n =>
    obtain ⟨h0, y, z, h1, h2, rfl⟩ := zo2_ok h hb
    exact zdcd (zbd (zu1 h0) (zbd (zu2 h1 h2) rfl))
  case goto n =>
    obtain ⟨h0, y, z, h1, h2, rfl⟩ := zp2_ok h hb
    exact zdcd (zbd (zu1 h0) (zbd (zs2 h1 h2) rfl))
  case ifnull n =>
    obtain ⟨h0, y, z, h1, h2, rfl⟩ := zp2_ok h hb
    exact zdcd (zbd (zu1 h0) (zbd (zs2 h1 h2) rfl))
  case ifnonnull n =>
    obtain ⟨h0, y, z, h1, h2, rfl⟩ := zp2_ok h hb
    exact zdcd (zbd (zu1 h0) (zbd (zs2 h1 h2) rfl))
  case sipush n =>
    obtain ⟨h0, y, z, h1, h2, rfl⟩ := zp2_ok h hb
    exact zdcd (zbd (zu1 h0) (zbd (zs2 h1 h2) rfl))
  case aload_n n =>
    match n, h with
    | 0, h => exact zdcd (zbd (zu1 (zo0_ok (c := 42) h hb)) rfl)
    | 1, h => exact zdcd (zbd (zu1 (zo0_ok (c := 43) h hb)) rfl)
    | 2, h => exact zdcd (zbd (zu1 (zo0_ok (c := 44) h hb)) rfl)
    | 3, h => exact zdcd (zbd (zu1 (zo0_ok (c := 45) h hb)) rfl)
  case iload_n n =>
    match n, h with
    | 0, h => exact zdcd (zbd (zu1 (zo0_ok (c := 26) h hb)) rfl)
    | 1, h => exact zdcd (zbd (zu1 (zo0_ok (c := 27) h hb)) rfl)
    | 2, h => exact zdcd (zbd (zu1 (zo0_ok (c := 28) h hb)) rfl)
    | 3, h => exact zdcd (zbd (zu1 (zo0_ok (c := 29) h hb)) rfl)
  case lload_n n =>
    match n, h with
    | 0, h => exact zdcd (zbd (zu1 (zo0_ok (c := 30) h hb)) rfl)
    | 1, h => exact zdcd (zbd (zu1 (zo0_ok (c := 31) h hb)) rfl)
    | 2, h => exact zdcd (zbd (zu1 (zo0_ok (c := 32) h hb)) rfl)
    | 3, h => exact zdcd (zbd (zu1 (zo0_ok (c := 33) h hb)) rfl)
  case istore_n n =>
    match n, h with
    | 0, h => exact zdcd (zbd (zu1 (zo0_ok (c := 59) h hb)) rfl)
    | 1, h => exact zdcd (zbd (zu1 (zo0_ok (c := 60) h hb)) rfl)
    | 2, h => exact zdcd (zbd (zu1 (zo0_ok (c := 61) h hb)) rfl)
    | 3, h => exact zdcd (zbd (zu1 (zo0_ok (c := 62) h hb)) rfl)
  case astore_n n =>
    match n, h with
    | 0, h => exact zdcd (zbd (zu1 (zo0_ok (c := 75) h hb)) rfl)
    | 1, h => exact zdcd (zbd (zu1 (zo0_ok (c := 76) h hb)) rfl)
    | 2, h => exact zdcd (zbd (zu1 (zo0_ok (c := 77) h hb)) rfl)
    | 3, h => exact zdcd (zbd (zu1 (zo0_ok (c := 78) h hb)) rfl)
  case lconst n =>
    match n, h with
    | 0, h => exact zdcd (zbd (zu1 (zo0_ok (c := 9) h hb)) rfl)
    | 1, h => exact zdcd (zbd (zu1 (zo0_ok (c := 10) h hb)) rfl)
  case bipush n =>
    obtain ⟨h0, y, h1, rfl⟩ := zp1_ok h hb
    exact zdcd (zbd (zu1 h0) (zbd (zs1 h1) rfl))
  case iinc k n =>
    obtain ⟨h0, h1, z, h2, rfl⟩ := zp3_ok h hb
    exact zdcd (zbd (zu1 h0) (zbd (zu1 h1) (zbd (zs1 h2) rfl)))
  case ifCond c o =>
    cases c
    case eq =>
      obtain ⟨h0, y, z, h1, h2, rfl⟩ := zp2_ok (c := 153) h hb
      exact zdcd (zbd (zu1 h0) (zbd (zs2 h1 h2) rfl))
    case ne =>
      obtain ⟨h0, y, z, h1, h2, rfl⟩ := zp2_ok (c := 154) h hb
      exact zdcd (zbd (zu1 h0) (zbd (zs2 h1 h2) rfl))
    case lt =>
      obtain ⟨h0, y, z, h1, h2, rfl⟩ := zp2_ok (c := 155) h hb
      exact zdcd (zbd (zu1 h0) (zbd (zs2 h1 h2) rfl))
    case ge =>
      obtain ⟨h0, y, z, h1, h2, rfl⟩ := zp2_ok (c := 156) h hb
      exact zdcd (zbd (zu1 h0) (zbd (zs2 h1 h2) rfl))
    case gt =>
      obtain ⟨h0, y, z, h1, h2, rfl⟩ := zp2_ok (c := 157) h hb
      exact zdcd (zbd (zu1 h0) (zbd (zs2 h1 h2) rfl))
    case le =>
      obtain ⟨h0, y, z, h1, h2, rfl⟩ := zp2_ok (c := 158) h hb
      exact zdcd (zbd (zu1 h0) (zbd (zs2 h1 h2) rfl))
  case if_icmp c o =>
    cases c
    case eq =>
      obtain ⟨h0, y, z, h1, h2, rfl⟩ := zp2_ok (c := 159) h hb
      exact zdcd (zbd (zu1 h0) (zbd (zs2 h1 h2) rfl))
    case ne =>
      obtain ⟨h0, y, z, h1, h2, rfl⟩ := zp2_ok (c := 160) h hb
      exact zdcd (zbd (zu1 h0) (zbd (zs2 h1 h2) rfl))
    case lt =>
      obtain ⟨h0, y, z, h1, h2, rfl⟩ := zp2_ok (c := 161) h hb
      exact zdcd (zbd (zu1 h0) (zbd (zs2 h1 h2) rfl))
    case ge =>
      obtain ⟨h0, y, z, h1, h2, rfl⟩ := zp2_ok (c := 162) h hb
      exact zdcd (zbd (zu1 h0) (zbd (zs2 h1 h2) rfl))
    case gt =>
      obtain ⟨h0, y, z, h1, h2, rfl⟩ := zp2_ok (c := 163) h hb
      exact zdcd (zbd (zu1 h0) (zbd (zs2 h1 h2) rfl))
    case le =>
      obtain ⟨h0, y, z, h1, h2, rfl⟩ := zp2_ok (c := 164) h hb
      exact zdcd (zbd (zu1 h0) (zbd (zs2 h1 h2) rfl))
  case iconst n =>
    have h9 : ((decide (n = -1) && zo0 l 2) || ((decide (n = 0) && zo0 l 3) || ((decide (n = 1) && zo0 l 4) || ((decide (n = 2) && zo0 l 5) || ((decide (n = 3) && zo0 l 6) || ((decide (n = 4) && zo0 l 7) || (decide (n = 5) && zo0 l 8))))))) = true := h
    simp only [Bool.or_eq_true, Bool.and_eq_true, decide_eq_true_eq] at h9
    rcases h9 with ⟨rfl, h8⟩ | ⟨rfl, h8⟩ | ⟨rfl, h8⟩ | ⟨rfl, h8⟩ | ⟨rfl, h8⟩ | ⟨rfl, h8⟩ | ⟨rfl, h8⟩ <;> exact zdcd (zbd (zu1 (zo0_ok h8 hb)) rfl)
  all_goals exact absurd h (by simp [zck1])
def zbl (b : ByteArray) : List Nat := b.data.toList.map UInt8.toNat
theorem zbl_by {b : ByteArray} {p x : Nat} (h : (zbl b)[p]? = some x) : zby b p x := by
  unfold zbl at h
  rw [List.getElem?_map, Array.getElem?_toList] at h
  obtain ⟨y, h1, h2⟩ := Option.map_eq_some_iff.mp h
  obtain ⟨h3, h4⟩ := Array.getElem?_eq_some_iff.mp h1
  exact ⟨h3, by rw [← h2, ← h4]; rfl⟩
/-- the code's rows stand where the bytes say so; the switches are looked at apart -/
def zwk : List (Nat × Instr) → List Nat → Nat → Bool
  | [], _, _ => true
  | (k, i) :: r, l, pc => Nat.beq k pc && ((zsw i || zck1 i l) && (match r with
    | [] => true
    | (k2, _) :: _ => Nat.ble k k2 && zwk r (l.drop (k2 - k)) k2))
theorem zwk_ok {b : ByteArray} : ∀ {cd : List (Nat × Instr)} {l : List Nat} {pc : Nat}, zwk cd l pc = true → l = (zbl b).drop pc → ∀ e ∈ cd, zsw e.2 = false → decode b e.1 = .ok (e.2, zil e.2)
  | [], _, _, _, _, e, he, _ => by cases he
  | (k, i) :: r, l, pc, h, hl, e, he, hs => by
    unfold zwk at h
    rw [Bool.and_eq_true, Bool.and_eq_true] at h
    obtain ⟨h1, h2, h3⟩ := h
    have hk : k = pc := Nat.eq_of_beq_eq_true h1
    subst hk
    rcases List.mem_cons.mp he with rfl | he
    · rw [Bool.or_eq_true] at h2
      rcases h2 with h2 | h2
      · rw [h2] at hs; cases hs
      · exact zck1_ok h2 (fun j x hx => zbl_by (by rw [hl, List.getElem?_drop] at hx; exact hx))
    · cases r with
      | nil => cases he
      | cons f r' =>
        obtain ⟨k2, i2⟩ := f
        dsimp only at h3
        rw [Bool.and_eq_true] at h3
        have hle : k ≤ k2 := Nat.le_of_ble_eq_true h3.1
        exact zwk_ok h3.2 (by rw [hl, List.drop_drop]; congr 1; omega) e he hs
set_option maxRecDepth 100000 in
theorem zw_Acts_forget : zwk zc_Acts_forget (zbl prog_2_method_2_code) 0 = true := by decide +kernel
set_option maxRecDepth 100000 in
theorem zw_Acts_perform : zwk zc_Acts_perform (zbl prog_2_method_3_code) 0 = true := by decide +kernel
set_option maxRecDepth 100000 in
theorem zw_Acts_run : zwk zc_Acts_run (zbl prog_2_method_4_code) 0 = true := by decide +kernel
theorem zsw_Acts_run_35 : decode prog_2_method_4_code 35 = .ok (.lookupswitch 297 #[(10, 97), (11, 104), (12, 122), (20, 137), (30, 154), (40, 170), (50, 197), (51, 212), (60, 228), (70, 247), (71, 277)], 97) := by decide +kernel
set_option maxRecDepth 100000 in
theorem zw_Acts_bodyOf : zwk zc_Acts_bodyOf (zbl prog_2_method_5_code) 0 = true := by decide +kernel
set_option maxRecDepth 100000 in
theorem zw_Acts_begin : zwk zc_Acts_begin (zbl prog_2_method_6_code) 0 = true := by decide +kernel
set_option maxRecDepth 100000 in
theorem zw_Garden_clear : zwk zc_Garden_clear (zbl prog_3_method_2_code) 0 = true := by decide +kernel
set_option maxRecDepth 100000 in
theorem zw_Garden_begin : zwk zc_Garden_begin (zbl prog_3_method_3_code) 0 = true := by decide +kernel
set_option maxRecDepth 100000 in
theorem zw_Garden_put : zwk zc_Garden_put (zbl prog_3_method_4_code) 0 = true := by decide +kernel
set_option maxRecDepth 100000 in
theorem zw_Garden_test : zwk zc_Garden_test (zbl prog_3_method_5_code) 0 = true := by decide +kernel
set_option maxRecDepth 100000 in
theorem zw_Garden_slowness : zwk zc_Garden_slowness (zbl prog_3_method_6_code) 0 = true := by decide +kernel
set_option maxRecDepth 100000 in
theorem zw_Garden_stands : zwk zc_Garden_stands (zbl prog_3_method_7_code) 0 = true := by decide +kernel
set_option maxRecDepth 100000 in
theorem zw_Hearing_measure : zwk zc_Hearing_measure (zbl prog_4_method_2_code) 0 = true := by decide +kernel
set_option maxRecDepth 100000 in
theorem zw_Hearing_spread : zwk zc_Hearing_spread (zbl prog_4_method_3_code) 0 = true := by decide +kernel
set_option maxRecDepth 100000 in
theorem zw_Hearing_soonest : zwk zc_Hearing_soonest (zbl prog_4_method_4_code) 0 = true := by decide +kernel
set_option maxRecDepth 100000 in
theorem zw_Hearing_passOn : zwk zc_Hearing_passOn (zbl prog_4_method_5_code) 0 = true := by decide +kernel
set_option maxRecDepth 100000 in
theorem zw_Hearing_speak : zwk zc_Hearing_speak (zbl prog_4_method_6_code) 0 = true := by decide +kernel
set_option maxRecDepth 100000 in
theorem zw_Hearing_wordAt : zwk zc_Hearing_wordAt (zbl prog_4_method_7_code) 0 = true := by decide +kernel
set_option maxRecDepth 100000 in
theorem zw_Hedge_become : zwk zc_Hedge_become (zbl prog_5_method_2_code) 0 = true := by decide +kernel
set_option maxRecDepth 100000 in
theorem zw_Hedge_add : zwk zc_Hedge_add (zbl prog_5_method_3_code) 0 = true := by decide +kernel
set_option maxRecDepth 100000 in
theorem zw_Hedge_has : zwk zc_Hedge_has (zbl prog_5_method_4_code) 0 = true := by decide +kernel
set_option maxRecDepth 100000 in
theorem zw_Hedge_isDead : zwk zc_Hedge_isDead (zbl prog_5_method_5_code) 0 = true := by decide +kernel
set_option maxRecDepth 100000 in
theorem zw_Hedge_frost : zwk zc_Hedge_frost (zbl prog_5_method_6_code) 0 = true := by decide +kernel
set_option maxRecDepth 100000 in
theorem zw_Hedge_lose : zwk zc_Hedge_lose (zbl prog_5_method_7_code) 0 = true := by decide +kernel
set_option maxRecDepth 100000 in
theorem zw_Hedge_paceOf : zwk zc_Hedge_paceOf (zbl prog_5_method_8_code) 0 = true := by decide +kernel
set_option maxRecDepth 100000 in
theorem zw_Hedge_takesOf : zwk zc_Hedge_takesOf (zbl prog_5_method_9_code) 0 = true := by decide +kernel
theorem zsw_Hedge_takesOf_12 : decode prog_5_method_9_code 12 = .ok (.tableswitch 91 2 6 #[36, 91, 40, 48, 73], 36) := by decide +kernel
set_option maxRecDepth 100000 in
theorem zw_Hedge_passedOn : zwk zc_Hedge_passedOn (zbl prog_5_method_10_code) 0 = true := by decide +kernel
theorem zsw_Hedge_passedOn_13 : decode prog_5_method_10_code 13 = .ok (.tableswitch 75 1 6 #[39, 75, 57, 47, 75, 63], 39) := by decide +kernel
set_option maxRecDepth 100000 in
theorem zw_Hedge_clipped : zwk zc_Hedge_clipped (zbl prog_5_method_11_code) 0 = true := by decide +kernel
set_option maxRecDepth 100000 in
theorem zw_Hedge_judged : zwk zc_Hedge_judged (zbl prog_5_method_12_code) 0 = true := by decide +kernel
set_option maxRecDepth 100000 in
theorem zw_Qu_say : zwk zc_Qu_say (zbl prog_6_method_2_code) 0 = true := by decide +kernel
set_option maxRecDepth 100000 in
theorem zw_Qu_hearingOf : zwk zc_Qu_hearingOf (zbl prog_6_method_3_code) 0 = true := by decide +kernel
theorem zsw_Qu_hearingOf_8 : decode prog_6_method_3_code 8 = .ok (.lookupswitch 47 #[(0, 28), (1, 38)], 28) := by decide +kernel
set_option maxRecDepth 100000 in
theorem zw_Qu_hearersWithin : zwk zc_Qu_hearersWithin (zbl prog_6_method_4_code) 0 = true := by decide +kernel
set_option maxRecDepth 100000 in
theorem zw_Qu_hearersOfJust : zwk zc_Qu_hearersOfJust (zbl prog_6_method_5_code) 0 = true := by decide +kernel
set_option maxRecDepth 100000 in
theorem zw_Qu_latest : zwk zc_Qu_latest (zbl prog_6_method_6_code) 0 = true := by decide +kernel
set_option maxRecDepth 100000 in
theorem zw_Qu_reaches : zwk zc_Qu_reaches (zbl prog_6_method_7_code) 0 = true := by decide +kernel
set_option maxRecDepth 100000 in
theorem zw_Qu_fewestBetween : zwk zc_Qu_fewestBetween (zbl prog_6_method_8_code) 0 = true := by decide +kernel
set_option maxRecDepth 100000 in
theorem zw_Qu_eachNeededBetween : zwk zc_Qu_eachNeededBetween (zbl prog_6_method_9_code) 0 = true := by decide +kernel
set_option maxRecDepth 100000 in
theorem zw_Qu_comingBack : zwk zc_Qu_comingBack (zbl prog_6_method_10_code) 0 = true := by decide +kernel
set_option maxRecDepth 100000 in
theorem zw_Qu_hearersOfTheFirst : zwk zc_Qu_hearersOfTheFirst (zbl prog_6_method_11_code) 0 = true := by decide +kernel
set_option maxRecDepth 100000 in
theorem zw_Qu_soonestTouch : zwk zc_Qu_soonestTouch (zbl prog_6_method_12_code) 0 = true := by decide +kernel
set_option maxRecDepth 100000 in
theorem zw_Qu_hoursWithTouch : zwk zc_Qu_hoursWithTouch (zbl prog_6_method_13_code) 0 = true := by decide +kernel
set_option maxRecDepth 100000 in
theorem zw_Qu_bestListener : zwk zc_Qu_bestListener (zbl prog_6_method_14_code) 0 = true := by decide +kernel
set_option maxRecDepth 100000 in
theorem zw_Qu_unlikeHearings : zwk zc_Qu_unlikeHearings (zbl prog_6_method_15_code) 0 = true := by decide +kernel
set_option maxRecDepth 100000 in
theorem zw_Qu_waysToHaveSaid : zwk zc_Qu_waysToHaveSaid (zbl prog_6_method_16_code) 0 = true := by decide +kernel
set_option maxRecDepth 100000 in
theorem zw_Qu_isSeenInTime : zwk zc_Qu_isSeenInTime (zbl prog_6_method_17_code) 0 = true := by decide +kernel
set_option maxRecDepth 100000 in
theorem zw_Qu_isSeenAsWords : zwk zc_Qu_isSeenAsWords (zbl prog_6_method_18_code) 0 = true := by decide +kernel
set_option maxRecDepth 100000 in
theorem zw_Qu_oddsBetween : zwk zc_Qu_oddsBetween (zbl prog_6_method_19_code) 0 = true := by decide +kernel
set_option maxRecDepth 100000 in
theorem zw_Qu_meanHours : zwk zc_Qu_meanHours (zbl prog_6_method_20_code) 0 = true := by decide +kernel
set_option maxRecDepth 100000 in
theorem zw_Qu_lowest : zwk zc_Qu_lowest (zbl prog_6_method_21_code) 0 = true := by decide +kernel
set_option maxRecDepth 100000 in
theorem zw_Qu_hoursAfterThePlan : zwk zc_Qu_hoursAfterThePlan (zbl prog_6_method_22_code) 0 = true := by decide +kernel
set_option maxRecDepth 100000 in
theorem zw_Qu_firstWrongInTheBook : zwk zc_Qu_firstWrongInTheBook (zbl prog_6_method_23_code) 0 = true := by decide +kernel
set_option maxRecDepth 100000 in
theorem zw_Reader_add : zwk zc_Reader_add (zbl prog_7_method_2_code) 0 = true := by decide +kernel
set_option maxRecDepth 100000 in
theorem zw_Reader_readInto : zwk zc_Reader_readInto (zbl prog_7_method_3_code) 0 = true := by decide +kernel
set_option maxRecDepth 100000 in
theorem zw_Reader_isClause : zwk zc_Reader_isClause (zbl prog_7_method_4_code) 0 = true := by decide +kernel
set_option maxRecDepth 100000 in
theorem zw_Reader_spelled : zwk zc_Reader_spelled (zbl prog_7_method_5_code) 0 = true := by decide +kernel
theorem zsw_Reader_spelled_1 : decode prog_7_method_5_code 1 = .ok (.tableswitch 36 0 2 #[27, 30, 33], 27) := by decide +kernel
set_option maxRecDepth 100000 in
theorem zw_Reader_isEither : zwk zc_Reader_isEither (zbl prog_7_method_6_code) 0 = true := by decide +kernel
set_option maxRecDepth 100000 in
theorem zw_Reader_isBoth : zwk zc_Reader_isBoth (zbl prog_7_method_7_code) 0 = true := by decide +kernel
set_option maxRecDepth 100000 in
theorem zw_Reader_isPart : zwk zc_Reader_isPart (zbl prog_7_method_8_code) 0 = true := by decide +kernel
set_option maxRecDepth 100000 in
theorem zw_Reader_isTest : zwk zc_Reader_isTest (zbl prog_7_method_9_code) 0 = true := by decide +kernel
set_option maxRecDepth 100000 in
theorem zw_Reader_number : zwk zc_Reader_number (zbl prog_7_method_10_code) 0 = true := by decide +kernel
set_option maxRecDepth 100000 in
theorem zw_Reader_skipsAll : zwk zc_Reader_skipsAll (zbl prog_7_method_11_code) 0 = true := by decide +kernel
set_option maxRecDepth 100000 in
theorem zw_Reader_skips : zwk zc_Reader_skips (zbl prog_7_method_12_code) 0 = true := by decide +kernel
set_option maxRecDepth 100000 in
theorem zw_Reader_here : zwk zc_Reader_here (zbl prog_7_method_13_code) 0 = true := by decide +kernel
set_option maxRecDepth 100000 in
theorem zw_Rows_become : zwk zc_Rows_become (zbl prog_8_method_2_code) 0 = true := by decide +kernel
set_option maxRecDepth 100000 in
theorem zw_Rows_add : zwk zc_Rows_add (zbl prog_8_method_3_code) 0 = true := by decide +kernel
set_option maxRecDepth 100000 in
theorem zw_Rows_empty : zwk zc_Rows_empty (zbl prog_8_method_4_code) 0 = true := by decide +kernel
set_option maxRecDepth 100000 in
theorem zw_Rows_cell : zwk zc_Rows_cell (zbl prog_8_method_5_code) 0 = true := by decide +kernel
set_option maxRecDepth 100000 in
theorem zw_Tape_become : zwk zc_Tape_become (zbl prog_9_method_2_code) 0 = true := by decide +kernel
set_option maxRecDepth 100000 in
theorem zw_Tape_fitted : zwk zc_Tape_fitted (zbl prog_9_method_3_code) 0 = true := by decide +kernel
theorem zsw_Tape_fitted_4 : decode prog_9_method_3_code 4 = .ok (.tableswitch 62 0 4 #[36, 41, 46, 62, 50], 36) := by decide +kernel
set_option maxRecDepth 100000 in
theorem zw_Tape_spans : zwk zc_Tape_spans (zbl prog_9_method_4_code) 0 = true := by decide +kernel
set_option maxRecDepth 100000 in
theorem zw_Box_plant : zwk zc_Box_plant (zbl prog_1_method_2_code) 0 = true := by decide +kernel
set_option maxRecDepth 100000 in
theorem zw_Box_of : zwk zc_Box_of (zbl prog_1_method_3_code) 0 = true := by decide +kernel
theorem zsw_Box_of_14 : decode prog_1_method_3_code 14 = .ok (.tableswitch 103 0 5 #[38, 48, 58, 68, 85, 94], 38) := by decide +kernel
set_option maxRecDepth 100000 in
theorem zw_Box_says : zwk zc_Box_says (zbl prog_1_method_4_code) 0 = true := by decide +kernel
set_option maxRecDepth 100000 in
theorem zw_Box_touch : zwk zc_Box_touch (zbl prog_1_method_5_code) 0 = true := by decide +kernel
set_option maxRecDepth 100000 in
theorem zw_Box_kill : zwk zc_Box_kill (zbl prog_1_method_6_code) 0 = true := by decide +kernel
set_option maxRecDepth 100000 in
theorem zw_Box_row : zwk zc_Box_row (zbl prog_1_method_7_code) 0 = true := by decide +kernel
set_option maxRecDepth 100000 in
theorem zw_Box_feed : zwk zc_Box_feed (zbl prog_1_method_8_code) 0 = true := by decide +kernel
set_option maxRecDepth 100000 in
theorem zw_Box_garden : zwk zc_Box_garden (zbl prog_1_method_9_code) 0 = true := by decide +kernel
set_option maxRecDepth 100000 in
theorem zw_Box_told : zwk zc_Box_told (zbl prog_1_method_10_code) 0 = true := by decide +kernel
theorem zsw_Box_told_1 : decode prog_1_method_10_code 1 = .ok (.tableswitch 63 0 3 #[31, 39, 47, 55], 31) := by decide +kernel
set_option maxRecDepth 100000 in
theorem zw_Box_pass : zwk zc_Box_pass (zbl prog_1_method_11_code) 0 = true := by decide +kernel
set_option maxRecDepth 100000 in
theorem zw_Box_heard : zwk zc_Box_heard (zbl prog_1_method_12_code) 0 = true := by decide +kernel
set_option maxRecDepth 100000 in
theorem zw_Box_by : zwk zc_Box_by (zbl prog_1_method_13_code) 0 = true := by decide +kernel
set_option maxRecDepth 100000 in
theorem zw_Box_right : zwk zc_Box_right (zbl prog_1_method_14_code) 0 = true := by decide +kernel
set_option maxRecDepth 100000 in
theorem zw_Box_last : zwk zc_Box_last (zbl prog_1_method_15_code) 0 = true := by decide +kernel
set_option maxRecDepth 100000 in
theorem zw_Box_cut : zwk zc_Box_cut (zbl prog_1_method_16_code) 0 = true := by decide +kernel
set_option maxRecDepth 100000 in
theorem zw_Box_needed : zwk zc_Box_needed (zbl prog_1_method_17_code) 0 = true := by decide +kernel
set_option maxRecDepth 100000 in
theorem zw_Box_round : zwk zc_Box_round (zbl prog_1_method_18_code) 0 = true := by decide +kernel
set_option maxRecDepth 100000 in
theorem zw_Box_meet : zwk zc_Box_meet (zbl prog_1_method_19_code) 0 = true := by decide +kernel
set_option maxRecDepth 100000 in
theorem zw_Box_join : zwk zc_Box_join (zbl prog_1_method_20_code) 0 = true := by decide +kernel
set_option maxRecDepth 100000 in
theorem zw_Box_listen : zwk zc_Box_listen (zbl prog_1_method_21_code) 0 = true := by decide +kernel
set_option maxRecDepth 100000 in
theorem zw_Box_see : zwk zc_Box_see (zbl prog_1_method_22_code) 0 = true := by decide +kernel
set_option maxRecDepth 100000 in
theorem zw_Box_who : zwk zc_Box_who (zbl prog_1_method_23_code) 0 = true := by decide +kernel
set_option maxRecDepth 100000 in
theorem zw_Box_odds : zwk zc_Box_odds (zbl prog_1_method_24_code) 0 = true := by decide +kernel
set_option maxRecDepth 100000 in
theorem zw_Box_mean : zwk zc_Box_mean (zbl prog_1_method_25_code) 0 = true := by decide +kernel
set_option maxRecDepth 100000 in
theorem zw_Box_plan : zwk zc_Box_plan (zbl prog_1_method_26_code) 0 = true := by decide +kernel
set_option maxRecDepth 100000 in
theorem zw_Box_planned : zwk zc_Box_planned (zbl prog_1_method_27_code) 0 = true := by decide +kernel
set_option maxRecDepth 100000 in
theorem zw_Box_book : zwk zc_Box_book (zbl prog_1_method_28_code) 0 = true := by decide +kernel
set_option maxRecDepth 100000 in
theorem zw_Box_looked : zwk zc_Box_looked (zbl prog_1_method_29_code) 0 = true := by decide +kernel
set_option maxRecDepth 100000 in
theorem zw_Box_judge : zwk zc_Box_judge (zbl prog_1_method_30_code) 0 = true := by decide +kernel
set_option maxRecDepth 100000 in
theorem zw_Box_image : zwk zc_Box_image (zbl prog_1_method_31_code) 0 = true := by decide +kernel
set_option maxRecDepth 100000 in
theorem zw_Box_undo : zwk zc_Box_undo (zbl prog_1_method_32_code) 0 = true := by decide +kernel
set_option maxRecDepth 100000 in
theorem zw_Box_act : zwk zc_Box_act (zbl prog_1_method_33_code) 0 = true := by decide +kernel
set_option maxRecDepth 100000 in
theorem zw_Box_trace : zwk zc_Box_trace (zbl prog_1_method_34_code) 0 = true := by decide +kernel
set_option maxRecDepth 100000 in
theorem zw_Box_taken : zwk zc_Box_taken (zbl prog_1_method_35_code) 0 = true := by decide +kernel
set_option maxRecDepth 100000 in
theorem zw_Box_count : zwk zc_Box_count (zbl prog_1_method_36_code) 0 = true := by decide +kernel
theorem zsw_Box_count_1 : decode prog_1_method_36_code 1 = .ok (.tableswitch 105 0 6 #[43, 51, 56, 67, 78, 89, 97], 43) := by decide +kernel
set_option maxRecDepth 100000 in
theorem zw_Box_tape : zwk zc_Box_tape (zbl prog_1_method_37_code) 0 = true := by decide +kernel
set_option maxRecDepth 100000 in
theorem zw_Box_item : zwk zc_Box_item (zbl prog_1_method_38_code) 0 = true := by decide +kernel
set_option maxRecDepth 100000 in
theorem zw_Box_read : zwk zc_Box_read (zbl prog_1_method_39_code) 0 = true := by decide +kernel
set_option maxRecDepth 100000 in
theorem zw_Box_shift : zwk zc_Box_shift (zbl prog_1_method_40_code) 0 = true := by decide +kernel
set_option maxRecDepth 100000 in
theorem zw_Box_isWord : zwk zc_Box_isWord (zbl prog_1_method_41_code) 0 = true := by decide +kernel
set_option maxRecDepth 100000 in
theorem zw_Box_isTape : zwk zc_Box_isTape (zbl prog_1_method_42_code) 0 = true := by decide +kernel
set_option maxRecDepth 100000 in
theorem zw_Box_isUnder : zwk zc_Box_isUnder (zbl prog_1_method_43_code) 0 = true := by decide +kernel
set_option maxRecDepth 100000 in
theorem zw_Box_bit : zwk zc_Box_bit (zbl prog_1_method_44_code) 0 = true := by decide +kernel
set_option maxRecDepth 100000 in
theorem zw_Box_holds : zwk zc_Box_holds (zbl prog_1_method_45_code) 0 = true := by decide +kernel
set_option maxRecDepth 100000 in
theorem zw_Box_with : zwk zc_Box_with (zbl prog_1_method_46_code) 0 = true := by decide +kernel
set_option maxRecDepth 100000 in
theorem zw_Mod_in : zwk zc_Mod_in (zbl prog_11_method_2_code) 0 = true := by decide +kernel
set_option maxRecDepth 100000 in
theorem zw_Mod_has : zwk zc_Mod_has (zbl prog_11_method_3_code) 0 = true := by decide +kernel
set_option maxRecDepth 100000 in
theorem zw_Mod_ones : zwk zc_Mod_ones (zbl prog_11_method_4_code) 0 = true := by decide +kernel
set_option maxRecDepth 100000 in
theorem zw_Mod_isPlant : zwk zc_Mod_isPlant (zbl prog_11_method_5_code) 0 = true := by decide +kernel
set_option maxRecDepth 100000 in
theorem zw_Mod_isWord : zwk zc_Mod_isWord (zbl prog_11_method_6_code) 0 = true := by decide +kernel
set_option maxRecDepth 100000 in
theorem zw_Mod_plant : zwk zc_Mod_plant (zbl prog_11_method_7_code) 0 = true := by decide +kernel
set_option maxRecDepth 100000 in
theorem zw_Mod_touch : zwk zc_Mod_touch (zbl prog_11_method_8_code) 0 = true := by decide +kernel
set_option maxRecDepth 100000 in
theorem zw_Mod_kill : zwk zc_Mod_kill (zbl prog_11_method_9_code) 0 = true := by decide +kernel
set_option maxRecDepth 100000 in
theorem zw_Mod_row : zwk zc_Mod_row (zbl prog_11_method_10_code) 0 = true := by decide +kernel
set_option maxRecDepth 100000 in
theorem zw_Mod_feed : zwk zc_Mod_feed (zbl prog_11_method_11_code) 0 = true := by decide +kernel
set_option maxRecDepth 100000 in
theorem zw_Mod_next : zwk zc_Mod_next (zbl prog_11_method_12_code) 0 = true := by decide +kernel
set_option maxRecDepth 100000 in
theorem zw_Mod_takes : zwk zc_Mod_takes (zbl prog_11_method_13_code) 0 = true := by decide +kernel
set_option maxRecDepth 100000 in
theorem zw_Mod_takesWord : zwk zc_Mod_takesWord (zbl prog_11_method_14_code) 0 = true := by decide +kernel
set_option maxRecDepth 100000 in
theorem zw_Mod_isDigit : zwk zc_Mod_isDigit (zbl prog_11_method_15_code) 0 = true := by decide +kernel
set_option maxRecDepth 100000 in
theorem zw_Mod_takesNumber : zwk zc_Mod_takesNumber (zbl prog_11_method_16_code) 0 = true := by decide +kernel
set_option maxRecDepth 100000 in
theorem zw_Mod_emits : zwk zc_Mod_emits (zbl prog_11_method_17_code) 0 = true := by decide +kernel
set_option maxRecDepth 100000 in
theorem zw_Mod_whole : zwk zc_Mod_whole (zbl prog_11_method_18_code) 0 = true := by decide +kernel
set_option maxRecDepth 100000 in
theorem zw_Mod_settle : zwk zc_Mod_settle (zbl prog_11_method_19_code) 0 = true := by decide +kernel
set_option maxRecDepth 100000 in
theorem zw_Mod_place : zwk zc_Mod_place (zbl prog_11_method_20_code) 0 = true := by decide +kernel
theorem zsw_Mod_place_1 : decode prog_11_method_20_code 1 = .ok (.tableswitch 103 100 118 #[101, 103, 103, 103, 99, 103, 103, 93, 103, 103, 103, 103, 91, 103, 103, 103, 97, 103, 95], 91) := by decide +kernel
set_option maxRecDepth 100000 in
theorem zw_Mod_takesTest : zwk zc_Mod_takesTest (zbl prog_11_method_21_code) 0 = true := by decide +kernel
set_option maxRecDepth 100000 in
theorem zw_Mod_takesE : zwk zc_Mod_takesE (zbl prog_11_method_22_code) 0 = true := by decide +kernel
set_option maxRecDepth 100000 in
theorem zw_Mod_takesHead : zwk zc_Mod_takesHead (zbl prog_11_method_23_code) 0 = true := by decide +kernel
theorem zsw_Mod_takesHead_4 : decode prog_11_method_23_code 4 = .ok (.lookupswitch 79 #[(102, 64), (113, 50), (115, 36)], 36) := by decide +kernel
set_option maxRecDepth 100000 in
theorem zw_Mod_takesClause : zwk zc_Mod_takesClause (zbl prog_11_method_24_code) 0 = true := by decide +kernel
set_option maxRecDepth 100000 in
theorem zw_Mod_goesText : zwk zc_Mod_goesText (zbl prog_11_method_25_code) 0 = true := by decide +kernel
set_option maxRecDepth 100000 in
theorem zw_Mod_garden : zwk zc_Mod_garden (zbl prog_11_method_26_code) 0 = true := by decide +kernel
set_option maxRecDepth 100000 in
theorem zw_Mod_begin : zwk zc_Mod_begin (zbl prog_11_method_27_code) 0 = true := by decide +kernel
set_option maxRecDepth 100000 in
theorem zw_Mod_behind : zwk zc_Mod_behind (zbl prog_11_method_28_code) 0 = true := by decide +kernel
set_option maxRecDepth 100000 in
theorem zw_Mod_lastOf : zwk zc_Mod_lastOf (zbl prog_11_method_29_code) 0 = true := by decide +kernel
set_option maxRecDepth 100000 in
theorem zw_Mod_frost : zwk zc_Mod_frost (zbl prog_11_method_30_code) 0 = true := by decide +kernel
set_option maxRecDepth 100000 in
theorem zw_Mod_lose : zwk zc_Mod_lose (zbl prog_11_method_31_code) 0 = true := by decide +kernel
set_option maxRecDepth 100000 in
theorem zw_Mod_factOf : zwk zc_Mod_factOf (zbl prog_11_method_32_code) 0 = true := by decide +kernel
theorem zsw_Mod_factOf_1 : decode prog_11_method_32_code 1 = .ok (.tableswitch 70 0 4 #[35, 37, 44, 51, 62], 35) := by decide +kernel
set_option maxRecDepth 100000 in
theorem zw_Mod_holds : zwk zc_Mod_holds (zbl prog_11_method_33_code) 0 = true := by decide +kernel
set_option maxRecDepth 100000 in
theorem zw_Mod_atLeastOne : zwk zc_Mod_atLeastOne (zbl prog_11_method_34_code) 0 = true := by decide +kernel
set_option maxRecDepth 100000 in
theorem zw_Mod_pace : zwk zc_Mod_pace (zbl prog_11_method_35_code) 0 = true := by decide +kernel
set_option maxRecDepth 100000 in
theorem zw_Mod_takesLong : zwk zc_Mod_takesLong (zbl prog_11_method_36_code) 0 = true := by decide +kernel
theorem zsw_Mod_takesLong_12 : decode prog_11_method_36_code 12 = .ok (.tableswitch 93 2 6 #[36, 93, 40, 48, 75], 36) := by decide +kernel
set_option maxRecDepth 100000 in
theorem zw_Mod_saysOf : zwk zc_Mod_saysOf (zbl prog_11_method_37_code) 0 = true := by decide +kernel
theorem zsw_Mod_saysOf_6 : decode prog_11_method_37_code 6 = .ok (.tableswitch 95 1 6 #[38, 95, 51, 58, 95, 77], 38) := by decide +kernel
set_option maxRecDepth 100000 in
theorem zw_Mod_says : zwk zc_Mod_says (zbl prog_11_method_38_code) 0 = true := by decide +kernel
set_option maxRecDepth 100000 in
theorem zw_Mod_of : zwk zc_Mod_of (zbl prog_11_method_39_code) 0 = true := by decide +kernel
theorem zsw_Mod_of_11 : decode prog_11_method_39_code 11 = .ok (.tableswitch 88 0 5 #[37, 44, 51, 58, 76, 82], 37) := by decide +kernel
set_option maxRecDepth 100000 in
theorem zw_Mod_told : zwk zc_Mod_told (zbl prog_11_method_40_code) 0 = true := by decide +kernel
set_option maxRecDepth 100000 in
theorem zw_Mod_pass : zwk zc_Mod_pass (zbl prog_11_method_41_code) 0 = true := by decide +kernel
set_option maxRecDepth 100000 in
theorem zw_Mod_clears : zwk zc_Mod_clears (zbl prog_11_method_42_code) 0 = true := by decide +kernel
set_option maxRecDepth 100000 in
theorem zw_Mod_saidTo : zwk zc_Mod_saidTo (zbl prog_11_method_43_code) 0 = true := by decide +kernel
set_option maxRecDepth 100000 in
theorem zw_Mod_nextOne : zwk zc_Mod_nextOne (zbl prog_11_method_44_code) 0 = true := by decide +kernel
set_option maxRecDepth 100000 in
theorem zw_Mod_passes : zwk zc_Mod_passes (zbl prog_11_method_45_code) 0 = true := by decide +kernel
set_option maxRecDepth 100000 in
theorem zw_Mod_spreads : zwk zc_Mod_spreads (zbl prog_11_method_46_code) 0 = true := by decide +kernel
set_option maxRecDepth 100000 in
theorem zw_Mod_lay : zwk zc_Mod_lay (zbl prog_11_method_47_code) 0 = true := by decide +kernel
set_option maxRecDepth 100000 in
theorem zw_Mod_whenOf : zwk zc_Mod_whenOf (zbl prog_11_method_48_code) 0 = true := by decide +kernel
set_option maxRecDepth 100000 in
theorem zw_Mod_heard : zwk zc_Mod_heard (zbl prog_11_method_49_code) 0 = true := by decide +kernel
set_option maxRecDepth 100000 in
theorem zw_Mod_by : zwk zc_Mod_by (zbl prog_11_method_50_code) 0 = true := by decide +kernel
set_option maxRecDepth 100000 in
theorem zw_Mod_right : zwk zc_Mod_right (zbl prog_11_method_51_code) 0 = true := by decide +kernel
set_option maxRecDepth 100000 in
theorem zw_Mod_last : zwk zc_Mod_last (zbl prog_11_method_52_code) 0 = true := by decide +kernel
set_option maxRecDepth 100000 in
theorem zw_Mod_isCutBy : zwk zc_Mod_isCutBy (zbl prog_11_method_53_code) 0 = true := by decide +kernel
set_option maxRecDepth 100000 in
theorem zw_Mod_cut : zwk zc_Mod_cut (zbl prog_11_method_54_code) 0 = true := by decide +kernel
set_option maxRecDepth 100000 in
theorem zw_Mod_needed : zwk zc_Mod_needed (zbl prog_11_method_55_code) 0 = true := by decide +kernel
set_option maxRecDepth 100000 in
theorem zw_Mod_round : zwk zc_Mod_round (zbl prog_11_method_56_code) 0 = true := by decide +kernel
set_option maxRecDepth 100000 in
theorem zw_Mod_meet : zwk zc_Mod_meet (zbl prog_11_method_57_code) 0 = true := by decide +kernel
set_option maxRecDepth 100000 in
theorem zw_Mod_join : zwk zc_Mod_join (zbl prog_11_method_58_code) 0 = true := by decide +kernel
set_option maxRecDepth 100000 in
theorem zw_Mod_listen : zwk zc_Mod_listen (zbl prog_11_method_59_code) 0 = true := by decide +kernel
set_option maxRecDepth 100000 in
theorem zw_Mod_see : zwk zc_Mod_see (zbl prog_11_method_60_code) 0 = true := by decide +kernel
set_option maxRecDepth 100000 in
theorem zw_Mod_who : zwk zc_Mod_who (zbl prog_11_method_61_code) 0 = true := by decide +kernel
set_option maxRecDepth 100000 in
theorem zw_Mod_divisor : zwk zc_Mod_divisor (zbl prog_11_method_62_code) 0 = true := by decide +kernel
set_option maxRecDepth 100000 in
theorem zw_Mod_lowest : zwk zc_Mod_lowest (zbl prog_11_method_63_code) 0 = true := by decide +kernel
set_option maxRecDepth 100000 in
theorem zw_Mod_odds : zwk zc_Mod_odds (zbl prog_11_method_64_code) 0 = true := by decide +kernel
set_option maxRecDepth 100000 in
theorem zw_Mod_mean : zwk zc_Mod_mean (zbl prog_11_method_65_code) 0 = true := by decide +kernel
set_option maxRecDepth 100000 in
theorem zw_Mod_plan : zwk zc_Mod_plan (zbl prog_11_method_66_code) 0 = true := by decide +kernel
set_option maxRecDepth 100000 in
theorem zw_Mod_planned : zwk zc_Mod_planned (zbl prog_11_method_67_code) 0 = true := by decide +kernel
set_option maxRecDepth 100000 in
theorem zw_Mod_book : zwk zc_Mod_book (zbl prog_11_method_68_code) 0 = true := by decide +kernel
set_option maxRecDepth 100000 in
theorem zw_Mod_looked : zwk zc_Mod_looked (zbl prog_11_method_69_code) 0 = true := by decide +kernel
set_option maxRecDepth 100000 in
theorem zw_Mod_judge : zwk zc_Mod_judge (zbl prog_11_method_70_code) 0 = true := by decide +kernel
set_option maxRecDepth 100000 in
theorem zw_Mod_image : zwk zc_Mod_image (zbl prog_11_method_71_code) 0 = true := by decide +kernel
set_option maxRecDepth 100000 in
theorem zw_Mod_undo : zwk zc_Mod_undo (zbl prog_11_method_72_code) 0 = true := by decide +kernel
set_option maxRecDepth 100000 in
theorem zw_Mod_body : zwk zc_Mod_body (zbl prog_11_method_73_code) 0 = true := by decide +kernel
set_option maxRecDepth 100000 in
theorem zw_Mod_plantHears : zwk zc_Mod_plantHears (zbl prog_11_method_74_code) 0 = true := by decide +kernel
set_option maxRecDepth 100000 in
theorem zw_Mod_hearsAct : zwk zc_Mod_hearsAct (zbl prog_11_method_75_code) 0 = true := by decide +kernel
theorem zsw_Mod_hearsAct_6 : decode prog_11_method_75_code 6 = .ok (.tableswitch 83 2 6 #[34, 83, 49, 34, 63], 34) := by decide +kernel
set_option maxRecDepth 100000 in
theorem zw_Mod_plantSays : zwk zc_Mod_plantSays (zbl prog_11_method_76_code) 0 = true := by decide +kernel
set_option maxRecDepth 100000 in
theorem zw_Mod_privetSays : zwk zc_Mod_privetSays (zbl prog_11_method_77_code) 0 = true := by decide +kernel
set_option maxRecDepth 100000 in
theorem zw_Mod_saysAct : zwk zc_Mod_saysAct (zbl prog_11_method_78_code) 0 = true := by decide +kernel
theorem zsw_Mod_saysAct_6 : decode prog_11_method_78_code 6 = .ok (.lookupswitch 78 #[(1, 34), (4, 41), (6, 56)], 34) := by decide +kernel
set_option maxRecDepth 100000 in
theorem zw_Mod_plantTells : zwk zc_Mod_plantTells (zbl prog_11_method_79_code) 0 = true := by decide +kernel
set_option maxRecDepth 100000 in
theorem zw_Mod_tellsAct : zwk zc_Mod_tellsAct (zbl prog_11_method_80_code) 0 = true := by decide +kernel
theorem zsw_Mod_tellsAct_6 : decode prog_11_method_80_code 6 = .ok (.tableswitch 67 3 6 #[30, 67, 52, 30], 30) := by decide +kernel
set_option maxRecDepth 100000 in
theorem zw_Mod_act : zwk zc_Mod_act (zbl prog_11_method_81_code) 0 = true := by decide +kernel
set_option maxRecDepth 100000 in
theorem zw_Mod_trace : zwk zc_Mod_trace (zbl prog_11_method_82_code) 0 = true := by decide +kernel
set_option maxRecDepth 100000 in
theorem zw_Mod_taken : zwk zc_Mod_taken (zbl prog_11_method_83_code) 0 = true := by decide +kernel
set_option maxRecDepth 100000 in
theorem zw_Mod_count : zwk zc_Mod_count (zbl prog_11_method_84_code) 0 = true := by decide +kernel
theorem zsw_Mod_count_1 : decode prog_11_method_84_code 1 = .ok (.tableswitch 78 0 6 #[43, 48, 53, 58, 63, 68, 73], 43) := by decide +kernel
set_option maxRecDepth 100000 in
theorem zw_Mod_isTape : zwk zc_Mod_isTape (zbl prog_11_method_85_code) 0 = true := by decide +kernel
set_option maxRecDepth 100000 in
theorem zw_Mod_tape : zwk zc_Mod_tape (zbl prog_11_method_86_code) 0 = true := by decide +kernel
set_option maxRecDepth 100000 in
theorem zw_Mod_narrow : zwk zc_Mod_narrow (zbl prog_11_method_87_code) 0 = true := by decide +kernel
set_option maxRecDepth 100000 in
theorem zw_Mod_item : zwk zc_Mod_item (zbl prog_11_method_88_code) 0 = true := by decide +kernel
set_option maxRecDepth 100000 in
theorem zw_Mod_read : zwk zc_Mod_read (zbl prog_11_method_89_code) 0 = true := by decide +kernel
set_option maxRecDepth 100000 in
theorem zw_Mod_shift : zwk zc_Mod_shift (zbl prog_11_method_90_code) 0 = true := by decide +kernel
set_option maxRecDepth 100000 in
theorem zw_Int_bitCount : zwk zc_Int_bitCount (zbl prog_13_method_49_code) 0 = true := by decide +kernel
set_option maxRecDepth 100000 in
theorem zw_Str_length : zwk zc_Str_length (zbl prog_15_method_54_code) 0 = true := by decide +kernel
set_option maxRecDepth 100000 in
theorem zw_Str_charAt : zwk zc_Str_charAt (zbl prog_15_method_56_code) 0 = true := by decide +kernel
set_option maxRecDepth 100000 in
theorem zw_Str_indexOf : zwk zc_Str_indexOf (zbl prog_15_method_79_code) 0 = true := by decide +kernel
set_option maxRecDepth 100000 in
theorem zw_Str_indexOf2 : zwk zc_Str_indexOf2 (zbl prog_15_method_80_code) 0 = true := by decide +kernel
set_option maxRecDepth 100000 in
theorem zw_Str_coder : zwk zc_Str_coder (zbl prog_15_method_152_code) 0 = true := by decide +kernel
set_option maxRecDepth 100000 in
theorem zw_Str_isLatin1 : zwk zc_Str_isLatin1 (zbl prog_15_method_154_code) 0 = true := by decide +kernel
set_option maxRecDepth 100000 in
theorem zw_Str_checkIndex : zwk zc_Str_checkIndex (zbl prog_15_method_155_code) 0 = true := by decide +kernel
set_option maxRecDepth 100000 in
theorem zw_Lat_charAt : zwk zc_Lat_charAt (zbl prog_16_method_2_code) 0 = true := by decide +kernel
set_option maxRecDepth 100000 in
theorem zw_Lat_canEncode : zwk zc_Lat_canEncode (zbl prog_16_method_4_code) 0 = true := by decide +kernel
set_option maxRecDepth 100000 in
theorem zw_Lat_indexOf : zwk zc_Lat_indexOf (zbl prog_16_method_22_code) 0 = true := by decide +kernel
set_option maxRecDepth 100000 in
theorem zw_Lat_indexOfChar : zwk zc_Lat_indexOfChar (zbl prog_16_method_23_code) 0 = true := by decide +kernel
set_option maxRecDepth 100000 in
theorem zw_Pre_checkIndex : zwk zc_Pre_checkIndex (zbl prog_19_method_11_code) 0 = true := by decide +kernel
set_option maxRecDepth 100000 in
theorem zw_law : zwk zc_law (zbl code) 0 = true := by decide +kernel
theorem zsw_law_33 : decode code 33 = .ok (.tableswitch 1523 0 38 #[171, 204, 237, 270, 329, 378, 421, 444, 457, 480, 503, 556, 589, 622, 645, 688, 721, 764, 797, 840, 863, 906, 929, 973, 1007, 1040, 1073, 1116, 1129, 1162, 1175, 1188, 1231, 1254, 1287, 1310, 1353, 1426, 1460], 171) := by decide +kernel
