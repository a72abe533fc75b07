/-! a small machine over the places: what each instruction does, as a demand on what comes behind it -/
def zun : Value := .retAddr 0
def zget : List Value → Nat → Value
  | [], _ => .retAddr 0
  | v :: _, 0 => v
  | _ :: l, n + 1 => zget l n
def zset : List Value → Nat → Value → List Value
  | [], _, _ => []
  | _ :: l, 0, v => v :: l
  | a :: l, n + 1, v => a :: zset l n v
def zlong : Value → Bool
  | .long _ => true
  | .double _ => true
  | _ => false
def zsz : List Value → Nat
  | [] => 0
  | _ :: l => zsz l + 1
/-- a store into local i leaves no half of a long behind -/
def zok (ls : List Value) (i : Nat) : Bool := Nat.blt i (zsz ls) && (match i with
  | 0 => true
  | k + 1 => !(zlong (zget ls k)))
def zcat : List Value → Nat
  | [] => 0
  | v :: l => (bif zlong v then 2 else 1) + zcat l
def zflat : List Value → List Value
  | [] => []
  | v :: l => bif zlong v then v :: .retAddr 0 :: zflat l else v :: zflat l
def zpad (ls : List Value) : Nat → List Value
  | 0 => ls
  | n + 1 => match ls with
    | [] => .retAddr 0 :: zpad [] n
    | a :: l => a :: zpad l n
def zfind : List (Nat × Instr) → Nat → List (Nat × Instr)
  | [], _ => []
  | (k, i) :: l, pc => bif Nat.beq k pc then (k, i) :: l else zfind l pc
def zl4 : List (Nat × Nat × Nat × Nat) → Nat → Option (Nat × Nat × Nat)
  | [], _ => none
  | (k, x) :: l, i => bif Nat.beq k i then some x else zl4 l i
def zl5 : List (Nat × Nat × Nat × Nat × Nat) → Nat → Option (Nat × Nat × Nat × Nat)
  | [], _ => none
  | (k, x) :: l, i => bif Nat.beq k i then some x else zl5 l i
def zlv : List (Nat × Value) → Nat → Option Value
  | [], _ => none
  | (k, x) :: l, i => bif Nat.beq k i then some x else zlv l i
def ztg (pc : Nat) : Int → Nat
  | .ofNat n => pc + n
  | .negSucc n => pc - (n + 1)
def ztk : Nat → List Value → List Value
  | 0, _ => []
  | _ + 1, [] => []
  | n + 1, v :: l => v :: ztk n l
def zdr : Nat → List Value → List Value
  | 0, l => l
  | _ + 1, [] => []
  | n + 1, _ :: l => zdr n l
def zrv : List Value → List Value → List Value
  | [], a => a
  | v :: l, a => zrv l (v :: a)
abbrev zK : Type := Nat → List Value → List Value → zM → Prop
abbrev zQ : Type := Option Value → zM → Prop
abbrev zC : Type := Nat → List Value → zM → zQ → Prop
def zcmp : ClassFile.Cond → Int32 → Int32 → Prop
  | .eq, x, y => x = y
  | .ne, x, y => ¬ x = y
  | .lt, x, y => x < y
  | .ge, x, y => y ≤ x
  | .gt, x, y => y < x
  | .le, x, y => x ≤ y
def zcmpd : (c : ClassFile.Cond) → (x y : Int32) → Decidable (zcmp c x y)
  | .eq, x, y => inferInstanceAs (Decidable (x = y))
  | .ne, x, y => inferInstanceAs (Decidable (¬ x = y))
  | .lt, x, y => inferInstanceAs (Decidable (x < y))
  | .ge, x, y => inferInstanceAs (Decidable (y ≤ x))
  | .gt, x, y => inferInstanceAs (Decidable (y < x))
  | .le, x, y => inferInstanceAs (Decidable (x ≤ y))
def zrn : Option FieldType → Int32 → Prop → Prop
  | some .int, _, P => P
  | some .boolean, x, P => x &&& 1 = x ∧ P
  | some .char, x, P => x.toUInt32.toUInt16.toUInt32.toInt32 = x ∧ P
  | some .byte, x, P => x.toInt8.toInt32 = x ∧ P
  | _, _, _ => False
def zrnl : Option FieldType → Prop → Prop
  | some .long, P => P
  | _, _ => False
def zrna : Option FieldType → Prop → Prop
  | some (.object _), P => P
  | _, _ => False
def zrnv : Option FieldType → Prop → Prop
  | none, P => P
  | _, _ => False
def zi2 (st : List Value) (k : Int32 → Int32 → List Value → Prop) : Prop := match st with
  | .int y :: .int x :: r => k x y r
  | _ => False
def zi1 (st : List Value) (k : Int32 → List Value → Prop) : Prop := match st with
  | .int x :: r => k x r
  | _ => False
def zj1 (st : List Value) (k : Int64 → List Value → Prop) : Prop := match st with
  | .long x :: r => k x r
  | _ => False
def zj2 (st : List Value) (k : Int64 → Int64 → List Value → Prop) : Prop := match st with
  | .long y :: .long x :: r => k x y r
  | _ => False
def zji (st : List Value) (k : Int64 → Int32 → List Value → Prop) : Prop := match st with
  | .int y :: .long x :: r => k x y r
  | _ => False
def zldI (v : Value) (k : Value → Prop) : Prop := match v with
  | .int x => k (.int x)
  | _ => False
def zldL (v : Value) (k : Value → Prop) : Prop := match v with
  | .long x => k (.long x)
  | _ => False
def zldA (v : Value) (k : Value → Prop) : Prop := match v with
  | .ref x => k (.ref x)
  | .null => k .null
  | _ => False
def zgf (own : Nat) (idx pc : Nat) (ls st : List Value) (m : zM) (K : zK) : Prop := match zl4 (zft own) idx, st with
  | some (ci, k, ty), .ref p :: r => bif Nat.beq (zsh p) ci then (match ty with
    | 0 => K (pc + 3) ls (.int (gI m p k) :: r) m
    | 1 => K (pc + 3) ls (.ref (zrf p k) :: r) m
    | 2 => (∀ q, gG m p = some q → K (pc + 3) ls (.ref q :: r) m) ∧ (gG m p = none → K (pc + 3) ls (.null :: r) m)
    | 3 => K (pc + 3) ls (.int (gI m p k) :: r) m
    | 5 => K (pc + 3) ls (.int 0 :: r) m
    | 6 => K (pc + 3) ls (.int (gI m p k) :: r) m
    | _ => False) else False
  | _, _ => False
def zpf (own : Nat) (idx pc : Nat) (ls st : List Value) (m : zM) (K : zK) : Prop := match zl4 (zft own) idx, st with
  | some (ci, k, ty), .int x :: .ref p :: r => bif Nat.beq (zsh p) ci then (match ty with
    | 0 => K (pc + 3) ls r (sI m p k x)
    | 1 => False
    | 2 => False
    | 3 => (x = 0 ∨ x = 1) ∧ K (pc + 3) ls r (sI m p k x)
    | _ => False) else False
  | some (ci, _, ty), .ref q :: .ref p :: r => bif Nat.beq (zsh p) ci then (bif Nat.beq ty 2 && Nat.beq (zsh q) 1 then K (pc + 3) ls r (sG m p (some q)) else False) else False
  | some (ci, _, ty), .null :: .ref p :: r => bif Nat.beq (zsh p) ci then (bif Nat.beq ty 2 then K (pc + 3) ls r (sG m p none) else False) else False
  | _, _ => False
def zald (pc : Nat) (ls st : List Value) (m : zM) (K : zK) : Prop := match st with
  | .int i :: .ref p :: r => match zsh p with
    | 20 => vp_in i (zlen p) ∧ K (pc + 1) ls (.int (gI m p i.toNatClampNeg) :: r) m
    | 52 => vp_in i (zlen p) ∧ K (pc + 1) ls (.int (gI m p i.toNatClampNeg) :: r) m
    | 53 => vp_in i (gI m 1 0).toNatClampNeg ∧ K (pc + 1) ls (.int (gI m p i.toNatClampNeg) :: r) m
    | _ => False
  | _ => False
def zbld (pc : Nat) (ls st : List Value) (m : zM) (K : zK) : Prop := match st with
  | .int i :: .ref p :: r => match zsh p with
    | 21 => vp_in i (zlen p) ∧ K (pc + 1) ls (.int (gI m p i.toNatClampNeg) :: r) m
    | 51 => vp_in i (zlen p) ∧ K (pc + 1) ls (.int (gI m p i.toNatClampNeg) :: r) m
    | _ => False
  | _ => False
def zast (pc : Nat) (ls st : List Value) (m : zM) (K : zK) : Prop := match st with
  | .int x :: .int i :: .ref p :: r => bif Nat.beq (zsh p) 20 then vp_in i (zlen p) ∧ K (pc + 1) ls r (sI m p i.toNatClampNeg x) else False
  | _ => False
def zbst (pc : Nat) (ls st : List Value) (m : zM) (K : zK) : Prop := match st with
  | .int x :: .int i :: .ref p :: r => bif Nat.beq (zsh p) 21 then vp_in i (zlen p) ∧ K (pc + 1) ls r (sI m p i.toNatClampNeg (x &&& 1)) else False
  | _ => False
def zlld (pc : Nat) (ls st : List Value) (m : zM) (K : zK) : Prop := match st with
  | .int i :: .ref p :: r => bif Nat.beq (zsh p) 22 then vp_in i (zlen p) ∧ K (pc + 1) ls (.long (gL m p i.toNatClampNeg) :: r) m else False
  | _ => False
def zlst (pc : Nat) (ls st : List Value) (m : zM) (K : zK) : Prop := match st with
  | .long x :: .int i :: .ref p :: r => bif Nat.beq (zsh p) 22 then vp_in i (zlen p) ∧ K (pc + 1) ls r (sL m p i.toNatClampNeg x) else False
  | _ => False
def zqld (pc : Nat) (ls st : List Value) (m : zM) (K : zK) : Prop := match st with
  | .int i :: .ref p :: r => match zsh p with
    | 23 => vp_in i (zlen p) ∧ K (pc + 1) ls (.ref (zrf p i.toNatClampNeg) :: r) m
    | 24 => vp_in i (zlen p) ∧ K (pc + 1) ls (.ref (zrf p i.toNatClampNeg) :: r) m
    | _ => False
  | _ => False
def zaln (pc : Nat) (ls st : List Value) (m : zM) (K : zK) : Prop := match st with
  | .ref p :: r => match zsh p with
    | 20 => K (pc + 1) ls (.int (Int32.ofNat (zlen p)) :: r) m
    | 51 => K (pc + 1) ls (.int (Int32.ofNat (zlen p)) :: r) m
    | 53 => K (pc + 1) ls (.int (gI m 1 0) :: r) m
    | _ => False
  | _ => False
def zstI (i len : Nat) (pc : Nat) (ls st : List Value) (m : zM) (K : zK) : Prop := match st with
  | .int x :: r => bif zok ls i then K (pc + len) (zset ls i (.int x)) r m else False
  | _ => False
def zstA (i len : Nat) (pc : Nat) (ls st : List Value) (m : zM) (K : zK) : Prop := match st with
  | .ref x :: r => bif zok ls i then K (pc + len) (zset ls i (.ref x)) r m else False
  | .null :: r => bif zok ls i then K (pc + len) (zset ls i .null) r m else False
  | _ => False
def zpr : Int → List Int → List (Int × Int)
  | _, [] => []
  | a, o :: l => (a, o) :: zpr (a + 1) l
def zlk (pc : Nat) (x : Int32) (d : Int) (ls r : List Value) (m : zM) (K : zK) : List (Int × Int) → Prop
  | [] => K (ztg pc d) ls r m
  | (a, o) :: l => if x = Int32.ofInt a then K (ztg pc o) ls r m else zlk pc x d ls r m K l
def zrt (rk : Nat) (o : Option Value) (k : List Value → Prop) : Prop := match rk with
  | 0 => o = none ∧ k []
  | 1 => ∃ x, o = some (.int x) ∧ k [.int x]
  | 2 => ∃ x, o = some (.long x) ∧ k [.long x]
  | _ => ∃ x, o = some (.ref x) ∧ k [.ref x]
def zrc (mi : Nat) : List Value → Bool
  | .ref p :: _ => match zmt mi with
    | some (_, _, _, _, own, _, _) => Nat.beq (zsh p) (bif Nat.beq own 10 then 50 else own)
    | none => false
  | _ => false
def zinv (C : zC) (own : Nat) (virt : Bool) (idx pc : Nat) (ls st : List Value) (m : zM) (K : zK) : Prop := match zl5 (zct own) idx with
  | some (kind, mi, n, rk) => match kind, virt with
    | 0, true => bif zrc mi (zrv (ztk n st) []) && (Nat.ble (zcat (zdr n st)) 8 && Nat.ble n (zsz st)) then C mi (zrv (ztk n st) []) m (fun o m' => zrt rk o (fun vs => K (pc + 3) ls (vs ++ zdr n st) m')) else False
    | 1, false => bif Nat.ble (zcat (zdr n st)) 8 && Nat.ble n (zsz st) then C mi (zrv (ztk n st) []) m (fun o m' => zrt rk o (fun vs => K (pc + 3) ls (vs ++ zdr n st) m')) else False
    | 2, false => bif Nat.ble (zcat (zdr n st)) 8 && Nat.ble n (zsz st) then C mi (zrv (ztk n st) []) m (fun o m' => zrt rk o (fun vs => K (pc + 3) ls (vs ++ zdr n st) m')) else False
    | 3, false => match st with
      | .int n :: .int j :: .ref b :: .int i :: .ref a :: r => bif Nat.ble (zcat r) 8 then (bif Nat.beq (zsh a) 20 && Nat.beq (zsh b) 20 then (¬ i < 0 ∧ ¬ j < 0 ∧ ¬ n < 0 ∧ i.toNatClampNeg + n.toNatClampNeg ≤ zlen a ∧ j.toNatClampNeg + n.toNatClampNeg ≤ zlen b) ∧ K (pc + 3) ls r (cpI m a i.toNatClampNeg b j.toNatClampNeg n.toNatClampNeg)
        else bif Nat.beq (zsh a) 22 && Nat.beq (zsh b) 22 then (¬ i < 0 ∧ ¬ j < 0 ∧ ¬ n < 0 ∧ i.toNatClampNeg + n.toNatClampNeg ≤ zlen a ∧ j.toNatClampNeg + n.toNatClampNeg ≤ zlen b) ∧ K (pc + 3) ls r (cpL m a i.toNatClampNeg b j.toNatClampNeg n.toNatClampNeg)
        else False) else False
      | _ => False
    | 4, false => zi2 st fun x y r => bif Nat.ble (zcat r) 8 then K (pc + 3) ls (.int (if x < y then y else x) :: r) m else False
    | 5, false => zi2 st fun x y r => bif Nat.ble (zcat r) 8 then K (pc + 3) ls (.int (if y < x then y else x) :: r) m else False
    | _, _ => False
  | none => False
def zwp (C : zC) (own : Nat) (ret : Option FieldType) (i : Instr) (pc : Nat) (ls st : List Value) (m : zM) (Q : zQ) (K : zK) : Prop := match i with
  | .aload_n k => zldA (zget ls k) fun v => K (pc + 1) ls (v :: st) m
  | .iload_n k => zldI (zget ls k) fun v => K (pc + 1) ls (v :: st) m
  | .lload_n k => zldL (zget ls k) fun v => K (pc + 1) ls (v :: st) m
  | .aload k => zldA (zget ls k) fun v => K (pc + 2) ls (v :: st) m
  | .iload k => zldI (zget ls k) fun v => K (pc + 2) ls (v :: st) m
  | .istore_n k => zstI k 1 pc ls st m K
  | .astore_n k => zstA k 1 pc ls st m K
  | .istore k => zstI k 2 pc ls st m K
  | .astore k => zstA k 2 pc ls st m K
  | .iinc k n => match zget ls k with
    | .int x => bif zok ls k then K (pc + 3) (zset ls k (.int (x + Int32.ofInt n))) st m else False
    | _ => False
  | .iconst n => K (pc + 1) ls (.int (Int32.ofInt n) :: st) m
  | .bipush n => K (pc + 2) ls (.int (Int8.ofInt n).toInt32 :: st) m
  | .sipush n => K (pc + 3) ls (.int (Int16.ofInt n).toInt32 :: st) m
  | .lconst n => K (pc + 1) ls (.long (Int64.ofNat (n : Nat)) :: st) m
  | .getfield idx => zgf own idx pc ls st m K
  | .putfield idx => zpf own idx pc ls st m K
  | .getstatic idx => match zlv (zgt own) idx with
    | some v => K (pc + 3) ls (v :: st) m
    | none => False
  | .ldc idx => match zlv (zlt own) idx with
    | some (.ref q) => K (pc + 2) ls (.ref q :: st) m
    | _ => False
  | .ldc_w idx => match zlv (zlt own) idx with
    | some (.int q) => K (pc + 3) ls (.int q :: st) m
    | _ => False
  | .ldc2_w idx => match zlv (zlt own) idx with
    | some (.long q) => K (pc + 3) ls (.long q :: st) m
    | _ => False
  | .iaload => zald pc ls st m K
  | .baload => zbld pc ls st m K
  | .iastore => zast pc ls st m K
  | .bastore => zbst pc ls st m K
  | .laload => zlld pc ls st m K
  | .lastore => zlst pc ls st m K
  | .aaload => zqld pc ls st m K
  | .arraylength => zaln pc ls st m K
  | .iadd => zi2 st fun x y r => K (pc + 1) ls (.int (x + y) :: r) m
  | .isub => zi2 st fun x y r => K (pc + 1) ls (.int (x - y) :: r) m
  | .imul => zi2 st fun x y r => K (pc + 1) ls (.int (x * y) :: r) m
  | .iand => zi2 st fun x y r => K (pc + 1) ls (.int (x &&& y) :: r) m
  | .ior => zi2 st fun x y r => K (pc + 1) ls (.int (x ||| y) :: r) m
  | .ixor => zi2 st fun x y r => K (pc + 1) ls (.int (x ^^^ y) :: r) m
  | .idiv => zi2 st fun x y r => ¬ y = 0 ∧ K (pc + 1) ls (.int (x / y) :: r) m
  | .irem => zi2 st fun x y r => ¬ y = 0 ∧ K (pc + 1) ls (.int (x - x / y * y) :: r) m
  | .ishl => zi2 st fun x y r => K (pc + 1) ls (.int (x <<< (y &&& 31)) :: r) m
  | .ishr => zi2 st fun x y r => K (pc + 1) ls (.int (x >>> (y &&& 31)) :: r) m
  | .iushr => zi2 st fun x y r => K (pc + 1) ls (.int ((x.toUInt32 >>> (y.toUInt32 &&& Int32.toUInt32 31)).toInt32) :: r) m
  | .ineg => zi1 st fun x r => K (pc + 1) ls (.int (-x) :: r) m
  | .i2l => zi1 st fun x r => K (pc + 1) ls (.long x.toInt64 :: r) m
  | .l2i => zj1 st fun x r => K (pc + 1) ls (.int x.toInt32 :: r) m
  | .i2b => zi1 st fun x r => K (pc + 1) ls (.int x.toInt8.toInt32 :: r) m
  | .i2s => zi1 st fun x r => K (pc + 1) ls (.int x.toInt16.toInt32 :: r) m
  | .i2c => zi1 st fun x r => K (pc + 1) ls (.int ((x.toUInt32 % 65536).toInt32) :: r) m
  | .land => zj2 st fun x y r => K (pc + 1) ls (.long (x &&& y) :: r) m
  | .lor => zj2 st fun x y r => K (pc + 1) ls (.long (x ||| y) :: r) m
  | .lshl => zji st fun x y r => K (pc + 1) ls (.long (x <<< (y.toInt64 &&& 63)) :: r) m
  | .lcmp => zj2 st fun x y r => K (pc + 1) ls (.int (lg_cmp x y) :: r) m
  | .dup => match st with
    | .int x :: r => K (pc + 1) ls (.int x :: .int x :: r) m
    | .ref x :: r => K (pc + 1) ls (.ref x :: .ref x :: r) m
    | _ => False
  | .dup2 => match st with
    | .int y :: .int x :: r => K (pc + 1) ls (.int y :: .int x :: .int y :: .int x :: r) m
    | .int y :: .ref x :: r => K (pc + 1) ls (.int y :: .ref x :: .int y :: .ref x :: r) m
    | _ => False
  | .pop => match st with
    | .int _ :: r => K (pc + 1) ls r m
    | .ref _ :: r => K (pc + 1) ls r m
    | _ => False
  | .goto o => K (ztg pc o) ls st m
  | .if_icmp c o => zi2 st fun x y r => @ite Prop (zcmp c x y) (zcmpd c x y) (K (ztg pc o) ls r m) (K (pc + 3) ls r m)
  | .ifCond c o => zi1 st fun x r => @ite Prop (zcmp c x 0) (zcmpd c x 0) (K (ztg pc o) ls r m) (K (pc + 3) ls r m)
  | .ifnull o => match st with
    | .null :: r => K (ztg pc o) ls r m
    | .ref q :: r => ¬ q = 18 ∧ K (pc + 3) ls r m
    | _ => False
  | .ifnonnull o => match st with
    | .null :: r => K (pc + 3) ls r m
    | .ref q :: r => ¬ q = 18 ∧ K (ztg pc o) ls r m
    | _ => False
  | .tableswitch d lo _ os => zi1 st fun x r => zlk pc x d ls r m K (zpr lo os.toList)
  | .lookupswitch d ps => zi1 st fun x r => zlk pc x d ls r m K ps.toList
  | .invokevirtual idx => zinv C own true idx pc ls st m K
  | .invokestatic idx => zinv C own false idx pc ls st m K
  | .ireturn => match st with
    | [.int x] => zrn ret x (Q (some (.int x)) m)
    | _ => False
  | .lreturn => match st with
    | [.long x] => zrnl ret (Q (some (.long x)) m)
    | _ => False
  | .areturn => match st with
    | [.ref x] => zrna ret (Q (some (.ref x)) m)
    | _ => False
  | .return_ => match st with
    | [] => zrnv ret (Q none m)
    | _ => False
  | _ => False
/-- one step from pc on, with K behind it -/
def zstep (C : zC) (own : Nat) (ret : Option FieldType) (cd : List (Nat × Instr)) (Q : zQ) (K : zK) : zK := fun pc ls st m => match zfind cd pc with
  | [] => False
  | (_, i) :: _ => zwp C own ret i pc ls st m Q K
/-- from pc on it comes to an end, with Q: the least that its own step leads into -/
def zRun (C : zC) (own : Nat) (ret : Option FieldType) (cd : List (Nat × Instr)) (Q : zQ) : zK := fun pc ls st m =>
  ∀ K : zK, (∀ pc ls st m, zstep C own ret cd Q K pc ls st m → K pc ls st m) → K pc ls st m
/-- method mi, called so, comes to an end, with Q; d calls deep at most -/
def zCall : Nat → zC
  | 0, _, _, _, _ => False
  | d + 1, mi, args, m, Q => match zmt mi with
    | some (_, _, ml, ret, own, _, cd) => (zsz (zflat args) ≤ ml) ∧ zRun (zCall d) own ret cd Q 0 (zpad (zflat args) ml) [] m
    | none => False
def zin (pc : Nat) : List Nat → Bool
  | [] => false
  | a :: l => Nat.beq a pc || zin pc l
/-- the demand of so many instructions, jumps followed but for those to the places in cut -/
def zseg (C : zC) (own : Nat) (ret : Option FieldType) (cd : List (Nat × Instr)) (cut : List Nat) (Q : zQ) (K : zK) : Nat → List (Nat × Instr) → List Value → List Value → zM → Prop
  | 0, _, _, _, _ => False
  | _ + 1, [], _, _, _ => False
  | n + 1, (pc, i) :: r, ls, st, m => zwp C own ret i pc ls st m Q fun pc' ls' st' m' =>
      bif zin pc' cut then K pc' ls' st' m' else
      bif (match r with | (a, _) :: _ => Nat.beq a pc' | [] => false) then zseg C own ret cd cut Q K n r ls' st' m' else zseg C own ret cd cut Q K n (zfind cd pc') ls' st' m'
