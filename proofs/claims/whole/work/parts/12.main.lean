/-! THE SIMULATION: what the small machine does, the machine does -/
section ZW
variable {p : Program} {l : Launch} {e : Env} {R : Room} {s : State} {m : MethodId} {args : Array Value} {below : List Frame} {meth : Method} {c : Code} {cells slots : Nat} {TQ : State → Prop}
variable {own ml : Nat} {b : ByteArray} {cd : List (Nat × Instr)} {base : Nat} {ad : Nat → Nat} {w : Value} {tb : Nat → Nat → Int32} {D : va_G} {cA : Nat → ClassId} {d : Nat} {ret : Option FieldType}
variable {pc : Nat} {ls st : List Value} {mm : zM} {Q : zQ} {K : zK} {H : Heap} {locs : List Loc} {la : Array Slot}
/-- how a method ends -/
def zRt (p : Program) (l : Launch) (e : Env) (R : Room) (s : State) (m : MethodId) (args : Array Value) (below : List Frame) (meth : Method) (c : Code) (cells slots : Nat) (TQ : State → Prop) (b : ByteArray) (base : Nat) (ad : Nat → Nat) (w : Value) (tb : Nat → Nat → Int32) (D : va_G) (cA : Nat → ClassId) (ret : Option FieldType) (Q : zQ) : Prop :=
  ∀ (pc : Nat) (la : Array Slot) (mm : zM) (H : Heap) (locs : List Loc), zWo D cA ad mm H → va_S (zA base) s.heap H locs → zLw tb mm →
    (∀ x, decode b pc = .ok (.ireturn, 1) → zrn ret x (Q (some (.int x)) mm) → W p l e R s m args below meth c H locs cells slots TQ (F0 m pc la [.int x])) ∧
    (∀ x, decode b pc = .ok (.lreturn, 1) → Q (some (.long x)) mm → W p l e R s m args below meth c H locs cells slots TQ (F0 m pc la [.long x])) ∧
    (∀ x, decode b pc = .ok (.areturn, 1) → Q (some (.ref x)) mm → W p l e R s m args below meth c H locs cells slots TQ (F0 m pc la [zcv ad w (.ref x)])) ∧
    (decode b pc = .ok (.return_, 1) → Q none mm → W p l e R s m args below meth c H locs cells slots TQ (F0 m pc la []))
theorem zif_ok (hx : p.tables.exec = Jvm.exec) (hb : c.code = b) (S : zSim s base ad w tb D cA ml ls mm la H locs) (G : zGo p l e R s m args below meth c cells slots TQ ml base ad w tb D cA K) {cc : ClassFile.Cond} {o : Int} (ho : 0 ≤ (pc : Int) + o) (hdg : decode b pc = .ok (.ifCond cc o, 3))
    (h : zi1 st fun x r => (zcmp cc x 0 → K (ztg pc o) ls r mm) ∧ (¬ zcmp cc x 0 → K (pc + 3) ls r mm)) : W p l e R s m args below meth c H locs cells slots TQ (F0 m pc la (st.map (zcv ad w))) := by
  obtain ⟨x, r, rfl, h1, h2⟩ := zi1_ok h
  have ht := ztg_ok pc o ho
  cases cc with
  | eq => exact lv_if_eq hx hb hdg ht (fun q => G _ _ _ _ _ _ _ (h1 q) S) (fun q => G _ _ _ _ _ _ _ (h2 q) S)
  | ne => exact lv_if_ne hx hb hdg ht (fun q => G _ _ _ _ _ _ _ (h1 q) S) (fun q => G _ _ _ _ _ _ _ (h2 q) S)
  | lt => exact lv_if_lt hx hb hdg ht (fun q => G _ _ _ _ _ _ _ (h1 q) S) (fun q => G _ _ _ _ _ _ _ (h2 q) S)
  | ge => exact lv_if_ge hx hb hdg ht (fun q => G _ _ _ _ _ _ _ (h1 q) S) (fun q => G _ _ _ _ _ _ _ (h2 q) S)
  | gt => exact lv_if_gt hx hb hdg ht (fun q => G _ _ _ _ _ _ _ (h1 q) S) (fun q => G _ _ _ _ _ _ _ (h2 q) S)
  | le => exact lv_if_le hx hb hdg ht (fun q => G _ _ _ _ _ _ _ (h1 q) S) (fun q => G _ _ _ _ _ _ _ (h2 q) S)
theorem zicmp_ok (hx : p.tables.exec = Jvm.exec) (hb : c.code = b) (S : zSim s base ad w tb D cA ml ls mm la H locs) (G : zGo p l e R s m args below meth c cells slots TQ ml base ad w tb D cA K) {cc : ClassFile.Cond} {o : Int} (ho : 0 ≤ (pc : Int) + o) (hdg : decode b pc = .ok (.if_icmp cc o, 3))
    (h : zi2 st fun x y r => (zcmp cc x y → K (ztg pc o) ls r mm) ∧ (¬ zcmp cc x y → K (pc + 3) ls r mm)) : W p l e R s m args below meth c H locs cells slots TQ (F0 m pc la (st.map (zcv ad w))) := by
  obtain ⟨x, y, r, rfl, h1, h2⟩ := zi2_ok h
  have ht := ztg_ok pc o ho
  cases cc with
  | eq => exact lv_icmp_eq hx hb hdg ht (fun q => G _ _ _ _ _ _ _ (h1 q) S) (fun q => G _ _ _ _ _ _ _ (h2 q) S)
  | ne => exact lv_icmp_ne hx hb hdg ht (fun q => G _ _ _ _ _ _ _ (h1 q) S) (fun q => G _ _ _ _ _ _ _ (h2 q) S)
  | lt => exact lv_icmp_lt hx hb hdg ht (fun q => G _ _ _ _ _ _ _ (h1 q) S) (fun q => G _ _ _ _ _ _ _ (h2 q) S)
  | ge => exact lv_icmp_ge hx hb hdg ht (fun q => G _ _ _ _ _ _ _ (h1 q) S) (fun q => G _ _ _ _ _ _ _ (h2 q) S)
  | gt => exact lv_icmp_gt hx hb hdg ht (fun q => G _ _ _ _ _ _ _ (h1 q) S) (fun q => G _ _ _ _ _ _ _ (h2 q) S)
  | le => exact lv_icmp_le hx hb hdg ht (fun q => G _ _ _ _ _ _ _ (h1 q) S) (fun q => G _ _ _ _ _ _ _ (h2 q) S)
set_option maxHeartbeats 4000000 in
theorem zwp_ok (X : zCx p l R s m args c cells slots own ml b cd base ad w tb D cA d) (S : zSim s base ad w tb D cA ml ls mm la H locs) (G : zGo p l e R s m args below meth c cells slots TQ ml base ad w tb D cA K) (T : zRt p l e R s m args below meth c cells slots TQ b base ad w tb D cA ret Q) (hof : cd.all zofs = true) {i : Instr} (hi : (pc, i) ∈ cd)
    (h : zwp (zCall d) own ret i pc ls st mm Q K) : W p l e R s m args below meth c H locs cells slots TQ (F0 m pc la (st.map (zcv ad w))) := by
  obtain ⟨⟨hx, hb, hml, hown, ho⟩, hts, hK, hSt, hAd, hbs, hdk, hTb, hw, hRm, hC⟩ := id X
  have dg : zsw i = false → decode b pc = .ok (i, zil i) := fun z => hdk.1 _ hi z
  have of : zofs (pc, i) = true := List.all_eq_true.mp hof _ hi
  have Tr := T pc la mm H locs S.2.2.1 S.2.2.2.1 S.2.2.2.2
  have hl := S.1.has
  cases i
  case aload_n k =>
    have d0 := dg rfl
    exact zldA_ok X S G (n := 1) (i := k) (fun x q kk => lv_aload_n hx hb d0 rfl q kk) (fun q kk => lv_aload_nN hx hb d0 rfl q kk) h
  case iload_n k =>
    have d0 := dg rfl
    exact zldI_ok X S G (n := 1) (i := k) (fun x q kk => lv_iload_n hx hb d0 rfl q kk) h
  case lload_n k =>
    have d0 := dg rfl
    exact zldL_ok X S G (n := 1) (i := k) (fun x q kk => lv_lload_n hx hb d0 rfl q kk) h
  case aload k =>
    have d0 := dg rfl
    exact zldA_ok X S G (n := 2) (i := k) (fun x q kk => lv_aload hx hb d0 q kk) (fun q kk => lv_aloadN hx hb d0 q kk) h
  case iload k =>
    have d0 := dg rfl
    exact zldI_ok X S G (n := 2) (i := k) (fun x q kk => lv_iload hx hb d0 q kk) h
  case istore_n k =>
    have d0 := dg rfl
    exact zstI_ok X S G (n := 1) (i := k) (fun x r kk hlt => lv_istore_n hx hb d0 rfl hl hlt rfl kk) h
  case astore_n k =>
    have d0 := dg rfl
    exact zstA_ok X S G (n := 1) (i := k) (fun x r kk hlt => lv_astore_n hx hb d0 rfl hl hlt rfl kk) (fun r kk hlt => lv_astore_nN hx hb d0 rfl hl hlt rfl kk) h
  case istore k =>
    have d0 := dg rfl
    exact zstI_ok X S G (n := 2) (i := k) (fun x r kk hlt => lv_istore hx hb d0 hl hlt rfl kk) h
  case astore k =>
    have d0 := dg rfl
    exact zstA_ok X S G (n := 2) (i := k) (fun x r kk hlt => lv_astore hx hb d0 hl hlt rfl kk) (fun r kk hlt => lv_astoreN hx hb d0 hl hlt rfl kk) h
  case iinc k n =>
    have d0 := dg rfl
    unfold zwp at h
    dsimp only at h
    cases hv : zget ls k with
    | int x =>
      rw [hv] at h
      dsimp only at h
      cases hk : zok ls k with
      | false => rw [hk] at h; exact h.elim
      | true =>
        rw [hk] at h
        have hmem : (k, Value.int x) ∈ zlvl ad w ls := zlvl_mem.mpr ⟨by rw [hv]; rfl, by rw [hv]; rfl⟩
        obtain ⟨j, hj⟩ := List.getElem?_of_mem hmem
        exact lv_iinc (v := x + Int32.ofInt n) hx hb d0 hl hj rfl (zok_lt hk) rfl (fun la' hla => G _ _ _ _ _ _ _ h ⟨zLo.set hw (v := .int (x + Int32.ofInt n)) hk hla, by rw [zset_sz]; exact S.2.1, S.2.2.1, S.2.2.2.1, S.2.2.2.2⟩)
    | _ => rw [hv] at h; exact h.elim
  case iconst n => exact lv_iconst hx hb (dg rfl) rfl (G _ _ _ _ _ _ _ h S)
  case bipush n => exact lv_bipush hx hb (dg rfl) rfl (G _ _ _ _ _ _ _ h S)
  case sipush n => exact lv_sipush hx hb (dg rfl) rfl (G _ _ _ _ _ _ _ h S)
  case lconst n => exact lv_lconst hx hb (dg rfl) rfl (G _ _ _ _ _ _ _ h S)
  case getfield idx => exact zgf_ok X S G (dg rfl) h
  case putfield idx => exact zpf_ok X S G (dg rfl) h
  case getstatic idx =>
    unfold zwp at h
    dsimp only at h
    cases hv : zlv (zgt own) idx with
    | none => rw [hv] at h; exact h.elim
    | some v => rw [hv] at h; exact zgs_ok X S G (dg rfl) hv h
  case ldc idx =>
    unfold zwp at h
    dsimp only at h
    cases hv : zlv (zlt own) idx with
    | none => rw [hv] at h; exact h.elim
    | some v =>
      rw [hv] at h
      cases v with
      | ref q =>
        obtain ⟨tx, hr⟩ := hSt.2.2.2.1 own idx q ho hv
        have g := G _ _ _ _ _ _ _ h S
        obtain ⟨wd, hwd⟩ := zlall ho _ (zlv_mem hv)
        unfold zlok at hwd
        dsimp only at hwd
        rw [Bool.and_eq_true] at hwd
        have hq := Nat.le_of_ble_eq_true hwd.2
        rw [List.map_cons, zcv_ne (p := q) (fun z => by rw [z] at hq; exact absurd hq (by decide))] at g
        exact va_ldcS hx hb hown hr (dg rfl) g
      | _ => exact h.elim
  case ldc_w idx =>
    unfold zwp at h
    dsimp only at h
    cases hv : zlv (zlt own) idx with
    | none => rw [hv] at h; exact h.elim
    | some v =>
      rw [hv] at h
      cases v with
      | int q =>
        obtain ⟨wd, hwd⟩ := zlall ho _ (zlv_mem hv)
        exact lv_ldcw hx hb hown (hts _ (zhas_in hwd)) (dg rfl) (G _ _ _ _ _ _ _ h S)
      | _ => exact h.elim
  case ldc2_w idx =>
    unfold zwp at h
    dsimp only at h
    cases hv : zlv (zlt own) idx with
    | none => rw [hv] at h; exact h.elim
    | some v =>
      rw [hv] at h
      cases v with
      | long q =>
        obtain ⟨wd, hwd⟩ := zlall ho _ (zlv_mem hv)
        exact lv_ldc2 hx hb hown (hts _ (zhas_in hwd)) (dg rfl) (G _ _ _ _ _ _ _ h S)
      | _ => exact h.elim
  case iaload => exact zald_ok X S G (dg rfl) h
  case baload => exact zbld_ok X S G (dg rfl) h
  case iastore => exact zast_ok X S G (dg rfl) h
  case bastore => exact zbst_ok X S G (dg rfl) h
  case laload => exact zlld_ok X S G (dg rfl) h
  case lastore => exact zlst_ok X S G (dg rfl) h
  case aaload => exact zqld_ok X S G (dg rfl) h
  case arraylength => exact zaln_ok X S G (dg rfl) h
  case iadd =>
    obtain ⟨x, y, r, rfl, h⟩ := zi2_ok h
    exact lv_iadd hx hb (dg rfl) (G _ _ _ _ _ _ _ h S)
  case isub =>
    obtain ⟨x, y, r, rfl, h⟩ := zi2_ok h
    exact lv_isub hx hb (dg rfl) (G _ _ _ _ _ _ _ h S)
  case imul =>
    obtain ⟨x, y, r, rfl, h⟩ := zi2_ok h
    exact lv_imul hx hb (dg rfl) (G _ _ _ _ _ _ _ h S)
  case iand =>
    obtain ⟨x, y, r, rfl, h⟩ := zi2_ok h
    exact lv_iand hx hb (dg rfl) (G _ _ _ _ _ _ _ h S)
  case ior =>
    obtain ⟨x, y, r, rfl, h⟩ := zi2_ok h
    exact lv_ior hx hb (dg rfl) (G _ _ _ _ _ _ _ h S)
  case ixor =>
    obtain ⟨x, y, r, rfl, h⟩ := zi2_ok h
    exact lv_ixor hx hb (dg rfl) (G _ _ _ _ _ _ _ h S)
  case ishl =>
    obtain ⟨x, y, r, rfl, h⟩ := zi2_ok h
    exact lv_ishl hx hb (dg rfl) (G _ _ _ _ _ _ _ h S)
  case ishr =>
    obtain ⟨x, y, r, rfl, h⟩ := zi2_ok h
    exact lv_ishr hx hb (dg rfl) (G _ _ _ _ _ _ _ h S)
  case idiv =>
    obtain ⟨x, y, r, rfl, hn, h⟩ := zi2_ok h
    exact lv_idiv hx hb (dg rfl) hn (G _ _ _ _ _ _ _ h S)
  case irem =>
    obtain ⟨x, y, r, rfl, hn, h⟩ := zi2_ok h
    exact lv_irem hx hb (dg rfl) hn (G _ _ _ _ _ _ _ h S)
  case iushr =>
    obtain ⟨x, y, r, rfl, h⟩ := zi2_ok h
    exact lv_iushr hx hb (dg rfl) rfl (G _ _ _ _ _ _ _ h S)
  case ineg =>
    obtain ⟨x, r, rfl, h⟩ := zi1_ok h
    exact lv_ineg hx hb (dg rfl) (G _ _ _ _ _ _ _ h S)
  case i2l =>
    obtain ⟨x, r, rfl, h⟩ := zi1_ok h
    exact lv_i2l hx hb (dg rfl) rfl (G _ _ _ _ _ _ _ h S)
  case i2b =>
    obtain ⟨x, r, rfl, h⟩ := zi1_ok h
    exact lv_i2b hx hb (dg rfl) rfl (G _ _ _ _ _ _ _ h S)
  case i2s =>
    obtain ⟨x, r, rfl, h⟩ := zi1_ok h
    exact lv_i2s hx hb (dg rfl) rfl (G _ _ _ _ _ _ _ h S)
  case i2c =>
    obtain ⟨x, r, rfl, h⟩ := zi1_ok h
    exact lv_i2c hx hb (dg rfl) rfl (G _ _ _ _ _ _ _ h S)
  case l2i =>
    obtain ⟨x, r, rfl, h⟩ := zj1_ok h
    exact lv_l2i hx hb (dg rfl) rfl (G _ _ _ _ _ _ _ h S)
  case land =>
    obtain ⟨x, y, r, rfl, h⟩ := zj2_ok h
    exact lv_land hx hb (dg rfl) (G _ _ _ _ _ _ _ h S)
  case lor =>
    obtain ⟨x, y, r, rfl, h⟩ := zj2_ok h
    exact lv_lor hx hb (dg rfl) (G _ _ _ _ _ _ _ h S)
  case lcmp =>
    obtain ⟨x, y, r, rfl, h⟩ := zj2_ok h
    exact W.lcmp hx hb (dg rfl) (G _ _ _ _ _ _ _ h S)
  case lshl =>
    obtain ⟨x, y, r, rfl, h⟩ := zji_ok h
    exact lv_lshl hx hb (dg rfl) rfl (G _ _ _ _ _ _ _ h S)
  case dup =>
    unfold zwp at h
    dsimp only at h
    split at h
    · exact lv_dup hx hb (dg rfl) (va := .int _) rfl (G _ _ _ _ _ _ _ h S)
    · rename_i x r
      exact lv_dup hx hb (dg rfl) (va := zcv ad w (.ref x)) (zcv_cat hw _) (G _ _ _ _ _ _ _ h S)
    · exact h.elim
  case dup2 =>
    unfold zwp at h
    dsimp only at h
    split at h
    · exact lv_dup2_11 hx hb (dg rfl) (va := .int _) (vb := .int _) rfl rfl (G _ _ _ _ _ _ _ h S)
    · rename_i y x r
      exact lv_dup2_11 hx hb (dg rfl) (va := .int y) (vb := zcv ad w (.ref x)) rfl (zcv_cat hw _) (G _ _ _ _ _ _ _ h S)
    · exact h.elim
  case pop =>
    unfold zwp at h
    dsimp only at h
    split at h
    · exact lv_pop hx hb (dg rfl) (va := .int _) rfl (G _ _ _ _ _ _ _ h S)
    · rename_i x r
      exact lv_pop hx hb (dg rfl) (va := zcv ad w (.ref x)) (zcv_cat hw _) (G _ _ _ _ _ _ _ h S)
    · exact h.elim
  case goto o => exact lv_goto hx hb (dg rfl) (ztg_ok pc o (by simpa [zofs] using of)) (G _ _ _ _ _ _ _ h S)
  case if_icmp cc o => exact zicmp_ok hx hb S G (by simpa [zofs] using of) (dg rfl) h
  case ifCond cc o => exact zif_ok hx hb S G (by simpa [zofs] using of) (dg rfl) h
  case ifnull o =>
    unfold zwp at h
    dsimp only at h
    split at h
    · exact lv_ifnullN hx hb (dg rfl) (ztg_ok pc o (by simpa [zofs] using of)) (G _ _ _ _ _ _ _ h S)
    · rename_i q r
      by_cases hq : q = 18
      · exact h.1.elim hq
      · have g := G _ _ _ _ _ _ _ h.2 S
        rw [List.map_cons, zcv_ne hq]
        exact lv_ifnull hx hb (dg rfl) g
    · exact h.elim
  case ifnonnull o =>
    unfold zwp at h
    dsimp only at h
    split at h
    · exact lv_ifnonnullN hx hb (dg rfl) (G _ _ _ _ _ _ _ h S)
    · rename_i q r
      by_cases hq : q = 18
      · exact h.1.elim hq
      · have g := G _ _ _ _ _ _ _ h.2 S
        rw [List.map_cons, zcv_ne hq]
        exact lv_ifnonnull hx hb (dg rfl) (ztg_ok pc o (by simpa [zofs] using of)) g
    · exact h.elim
  case tableswitch dd lo hi os =>
    obtain ⟨n, hn⟩ := hdk.2 _ hi rfl
    exact zts_ok hx hb S G of hn h
  case lookupswitch dd ps =>
    obtain ⟨n, hn⟩ := hdk.2 _ hi rfl
    exact zls_ok hx hb S G of hn h
  case invokevirtual idx => exact zinv_ok X S G (virt := true) (dg rfl) h
  case invokestatic idx => exact zinv_ok X S G (virt := false) (dg rfl) h
  case ireturn =>
    unfold zwp at h
    dsimp only at h
    split at h
    · exact Tr.1 _ (dg rfl) h
    · exact h.elim
  case lreturn =>
    unfold zwp at h
    dsimp only at h
    split at h
    · exact Tr.2.1 _ (dg rfl) h
    · exact h.elim
  case areturn =>
    unfold zwp at h
    dsimp only at h
    split at h
    · exact Tr.2.2.1 _ (dg rfl) h
    · exact h.elim
  case return_ =>
    unfold zwp at h
    dsimp only at h
    split at h
    · exact Tr.2.2.2 (dg rfl) h
    · exact h.elim
  all_goals exact h.elim
theorem zrun_ok (X : zCx p l R s m args c cells slots own ml b cd base ad w tb D cA d) (T : zRt p l e R s m args below meth c cells slots TQ b base ad w tb D cA ret Q) (hof : cd.all zofs = true) : ∀ n, zGo p l e R s m args below meth c cells slots TQ ml base ad w tb D cA (zrun (zCall d) own ret cd Q n)
  | 0 => fun _ _ _ _ _ _ _ h => h.elim
  | n + 1 => by
    intro pc ls st mm la H locs h S
    unfold zrun at h
    split at h
    · exact h.elim
    · rename_i k i r hf
      exact zwp_ok X S (zrun_ok X T hof n) T hof (zfind_mem hf) h
end ZW
