/-! THE SIMULATION: what the small machine does, the machine does -/
section ZW
variable {p : Program} {l : Launch} {e : Env} {R : Room} {s : State} {m : MethodId} {args : Array Value} {below : List Frame} {meth : Method} {c : Code} {cells slots : Nat} {TQ : State → Prop}
variable {own ml : Nat} {b : ByteArray} {cd : List (Nat × Instr)} {base : Nat} {ad : Nat → Nat} {w : Value} {tb : Nat → Nat → Int32} {D : va_G} {cA : Nat → ClassId} {d : Nat} {ret : Option FieldType}
variable {pc : Nat} {ls st : List Value} {mm : zM} {Q : zQ} {K : zK} {H : Heap} {locs : List Loc} {la : Array Slot}
theorem zdk_get {b : ByteArray} {cd : List (Nat × Instr)} {pc n : Nat} {i : Instr} (hdk : zdk b cd) (hi : (pc, i) ∈ cd) (h : zsw i = false) (hn : zil i = n) : decode b pc = .ok (i, n) := by
  subst hn
  exact hdk.1 (pc, i) hi h
/-- how a method ends -/
def zRt (p : Program) (l : Launch) (e : Env) (R : Room) (s : State) (m : MethodId) (args : Array Value) (below : List Frame) (meth : Method) (c : Code) (cells slots : Nat) (TQ : State → Prop) (b : ByteArray) (base : Nat) (ad : Nat → Nat) (w : Value) (tb : Nat → Nat → Int32) (D : va_G) (cA : Nat → ClassId) (ret : Option FieldType) (Q : zQ) : Prop :=
  ∀ (pc : Nat) (la : Array Slot) (mm : zM) (H : Heap) (locs : List Loc), zWo D cA ad mm H → va_S (zA base) s.heap H locs → zLw tb mm →
    (∀ x, decode b pc = .ok (.ireturn, 1) → zrn ret x (Q (some (.int x)) mm) → W p l e R s m args below meth c H locs cells slots TQ (F0 m pc la [.int x])) ∧
    (∀ x, decode b pc = .ok (.lreturn, 1) → zrnl ret (Q (some (.long x)) mm) → W p l e R s m args below meth c H locs cells slots TQ (F0 m pc la [.long x])) ∧
    (∀ x, decode b pc = .ok (.areturn, 1) → zrna ret (Q (some (.ref x)) mm) → W p l e R s m args below meth c H locs cells slots TQ (F0 m pc la [zcv ad w (.ref x)])) ∧
    (decode b pc = .ok (.return_, 1) → zrnv ret (Q none mm) → W p l e R s m args below meth c H locs cells slots TQ (F0 m pc la []))
theorem zite_ok {c : Prop} {i : Decidable c} {a b : Prop} (h : @ite Prop c i a b) : (c → a) ∧ (¬ c → b) := ⟨fun q => by rw [if_pos q] at h; exact h, fun q => by rw [if_neg q] at h; exact h⟩
theorem zif_ok (hx : p.tables.exec = Jvm.exec) (hb : c.code = b) (S : zSim s base ad w tb D cA ml ls mm la H locs) (G : zGo p l e R s m args below meth c cells slots TQ ml base ad w tb D cA K) {cc : ClassFile.Cond} {o : Int} (ho : 0 ≤ (pc : Int) + o) (hdg : decode b pc = .ok (.ifCond cc o, 3))
    (h : zi1 st fun x r => @ite Prop (zcmp cc x 0) (zcmpd cc x 0) (K (ztg pc o) ls r mm) (K (pc + 3) ls r mm)) : W p l e R s m args below meth c H locs cells slots TQ (F0 m pc la (st.map (zcv ad w))) := by
  obtain ⟨x, r, rfl, h0⟩ := zi1_ok h
  obtain ⟨h1, h2⟩ := zite_ok h0
  have ht := ztg_ok pc o ho
  cases cc with
  | eq => exact lv_if_eq hx hb hdg ht (fun q => G _ _ _ _ _ _ _ (h1 q) S) (fun q => G _ _ _ _ _ _ _ (h2 q) S)
  | ne => exact lv_if_ne hx hb hdg ht (fun q => G _ _ _ _ _ _ _ (h1 q) S) (fun q => G _ _ _ _ _ _ _ (h2 (fun z => z q)) S)
  | lt => exact lv_if_lt hx hb hdg ht (fun q => G _ _ _ _ _ _ _ (h1 q) S) (fun q => G _ _ _ _ _ _ _ (h2 q) S)
  | ge => exact lv_if_ge hx hb hdg ht (fun q => G _ _ _ _ _ _ _ (h1 q) S) (fun q => G _ _ _ _ _ _ _ (h2 q) S)
  | gt => exact lv_if_gt hx hb hdg ht (fun q => G _ _ _ _ _ _ _ (h1 q) S) (fun q => G _ _ _ _ _ _ _ (h2 q) S)
  | le => exact lv_if_le hx hb hdg ht (fun q => G _ _ _ _ _ _ _ (h1 q) S) (fun q => G _ _ _ _ _ _ _ (h2 q) S)
theorem zicmp_ok (hx : p.tables.exec = Jvm.exec) (hb : c.code = b) (S : zSim s base ad w tb D cA ml ls mm la H locs) (G : zGo p l e R s m args below meth c cells slots TQ ml base ad w tb D cA K) {cc : ClassFile.Cond} {o : Int} (ho : 0 ≤ (pc : Int) + o) (hdg : decode b pc = .ok (.if_icmp cc o, 3))
    (h : zi2 st fun x y r => @ite Prop (zcmp cc x y) (zcmpd cc x y) (K (ztg pc o) ls r mm) (K (pc + 3) ls r mm)) : W p l e R s m args below meth c H locs cells slots TQ (F0 m pc la (st.map (zcv ad w))) := by
  obtain ⟨x, y, r, rfl, h0⟩ := zi2_ok h
  obtain ⟨h1, h2⟩ := zite_ok h0
  have ht := ztg_ok pc o ho
  cases cc with
  | eq => exact lv_icmp_eq hx hb hdg ht (fun q => G _ _ _ _ _ _ _ (h1 q) S) (fun q => G _ _ _ _ _ _ _ (h2 q) S)
  | ne => exact lv_icmp_ne hx hb hdg ht (fun q => G _ _ _ _ _ _ _ (h1 q) S) (fun q => G _ _ _ _ _ _ _ (h2 (fun z => z q)) S)
  | lt => exact lv_icmp_lt hx hb hdg ht (fun q => G _ _ _ _ _ _ _ (h1 q) S) (fun q => G _ _ _ _ _ _ _ (h2 q) S)
  | ge => exact lv_icmp_ge hx hb hdg ht (fun q => G _ _ _ _ _ _ _ (h1 q) S) (fun q => G _ _ _ _ _ _ _ (h2 q) S)
  | gt => exact lv_icmp_gt hx hb hdg ht (fun q => G _ _ _ _ _ _ _ (h1 q) S) (fun q => G _ _ _ _ _ _ _ (h2 q) S)
  | le => exact lv_icmp_le hx hb hdg ht (fun q => G _ _ _ _ _ _ _ (h1 q) S) (fun q => G _ _ _ _ _ _ _ (h2 q) S)
set_option maxHeartbeats 30000 in
theorem zk_aload_n (X : zCx p l R s m args c cells slots own ml b cd base ad w tb D cA d) (S : zSim s base ad w tb D cA ml ls mm la H locs) (G : zGo p l e R s m args below meth c cells slots TQ ml base ad w tb D cA K) (T : zRt p l e R s m args below meth c cells slots TQ b base ad w tb D cA ret Q) (hof : cd.all zofs = true) {k : Fin 4} (hi : (pc, ((.aload_n k) : Instr)) ∈ cd)
    (h : zwp (zCall d) own ret (.aload_n k) pc ls st mm Q K) : W p l e R s m args below meth c H locs cells slots TQ (F0 m pc la (st.map (zcv ad w))) := by
    obtain ⟨⟨hx, hb, hml, hown, ho⟩, hts, hK, hSt, hAd, hbs, hdk, hTb, hw, hRm, hC⟩ := id X
    have of : zofs (pc, (.aload_n k)) = true := List.all_eq_true.mp hof _ hi
    have Tr := T pc la mm H locs S.2.2.1 S.2.2.2.1 S.2.2.2.2
    have hl := S.1.has
    exact zldA_ok X S G (n := 1) (i := k) (fun x q kk => lv_aload_n hx hb (zdk_get hdk hi rfl rfl) rfl q kk) (fun q kk => lv_aload_nN hx hb (zdk_get hdk hi rfl rfl) rfl q kk) h
set_option maxHeartbeats 30000 in
theorem zk_iload_n (X : zCx p l R s m args c cells slots own ml b cd base ad w tb D cA d) (S : zSim s base ad w tb D cA ml ls mm la H locs) (G : zGo p l e R s m args below meth c cells slots TQ ml base ad w tb D cA K) (T : zRt p l e R s m args below meth c cells slots TQ b base ad w tb D cA ret Q) (hof : cd.all zofs = true) {k : Fin 4} (hi : (pc, ((.iload_n k) : Instr)) ∈ cd)
    (h : zwp (zCall d) own ret (.iload_n k) pc ls st mm Q K) : W p l e R s m args below meth c H locs cells slots TQ (F0 m pc la (st.map (zcv ad w))) := by
    obtain ⟨⟨hx, hb, hml, hown, ho⟩, hts, hK, hSt, hAd, hbs, hdk, hTb, hw, hRm, hC⟩ := id X
    have of : zofs (pc, (.iload_n k)) = true := List.all_eq_true.mp hof _ hi
    have Tr := T pc la mm H locs S.2.2.1 S.2.2.2.1 S.2.2.2.2
    have hl := S.1.has
    exact zldI_ok X S G (n := 1) (i := k) (fun x q kk => lv_iload_n hx hb (zdk_get hdk hi rfl rfl) rfl q kk) h
set_option maxHeartbeats 30000 in
theorem zk_lload_n (X : zCx p l R s m args c cells slots own ml b cd base ad w tb D cA d) (S : zSim s base ad w tb D cA ml ls mm la H locs) (G : zGo p l e R s m args below meth c cells slots TQ ml base ad w tb D cA K) (T : zRt p l e R s m args below meth c cells slots TQ b base ad w tb D cA ret Q) (hof : cd.all zofs = true) {k : Fin 4} (hi : (pc, ((.lload_n k) : Instr)) ∈ cd)
    (h : zwp (zCall d) own ret (.lload_n k) pc ls st mm Q K) : W p l e R s m args below meth c H locs cells slots TQ (F0 m pc la (st.map (zcv ad w))) := by
    obtain ⟨⟨hx, hb, hml, hown, ho⟩, hts, hK, hSt, hAd, hbs, hdk, hTb, hw, hRm, hC⟩ := id X
    have of : zofs (pc, (.lload_n k)) = true := List.all_eq_true.mp hof _ hi
    have Tr := T pc la mm H locs S.2.2.1 S.2.2.2.1 S.2.2.2.2
    have hl := S.1.has
    exact zldL_ok X S G (n := 1) (i := k) (fun x q kk => lv_lload_n hx hb (zdk_get hdk hi rfl rfl) rfl q kk) h
set_option maxHeartbeats 30000 in
theorem zk_aload (X : zCx p l R s m args c cells slots own ml b cd base ad w tb D cA d) (S : zSim s base ad w tb D cA ml ls mm la H locs) (G : zGo p l e R s m args below meth c cells slots TQ ml base ad w tb D cA K) (T : zRt p l e R s m args below meth c cells slots TQ b base ad w tb D cA ret Q) (hof : cd.all zofs = true) {k : Nat} (hi : (pc, ((.aload k) : Instr)) ∈ cd)
    (h : zwp (zCall d) own ret (.aload k) pc ls st mm Q K) : W p l e R s m args below meth c H locs cells slots TQ (F0 m pc la (st.map (zcv ad w))) := by
    obtain ⟨⟨hx, hb, hml, hown, ho⟩, hts, hK, hSt, hAd, hbs, hdk, hTb, hw, hRm, hC⟩ := id X
    have of : zofs (pc, (.aload k)) = true := List.all_eq_true.mp hof _ hi
    have Tr := T pc la mm H locs S.2.2.1 S.2.2.2.1 S.2.2.2.2
    have hl := S.1.has
    exact zldA_ok X S G (n := 2) (i := k) (fun x q kk => lv_aload hx hb (zdk_get hdk hi rfl rfl) q kk) (fun q kk => lv_aloadN hx hb (zdk_get hdk hi rfl rfl) q kk) h
set_option maxHeartbeats 30000 in
theorem zk_iload (X : zCx p l R s m args c cells slots own ml b cd base ad w tb D cA d) (S : zSim s base ad w tb D cA ml ls mm la H locs) (G : zGo p l e R s m args below meth c cells slots TQ ml base ad w tb D cA K) (T : zRt p l e R s m args below meth c cells slots TQ b base ad w tb D cA ret Q) (hof : cd.all zofs = true) {k : Nat} (hi : (pc, ((.iload k) : Instr)) ∈ cd)
    (h : zwp (zCall d) own ret (.iload k) pc ls st mm Q K) : W p l e R s m args below meth c H locs cells slots TQ (F0 m pc la (st.map (zcv ad w))) := by
    obtain ⟨⟨hx, hb, hml, hown, ho⟩, hts, hK, hSt, hAd, hbs, hdk, hTb, hw, hRm, hC⟩ := id X
    have of : zofs (pc, (.iload k)) = true := List.all_eq_true.mp hof _ hi
    have Tr := T pc la mm H locs S.2.2.1 S.2.2.2.1 S.2.2.2.2
    have hl := S.1.has
    exact zldI_ok X S G (n := 2) (i := k) (fun x q kk => lv_iload hx hb (zdk_get hdk hi rfl rfl) q kk) h
set_option maxHeartbeats 30000 in
theorem zk_istore_n (X : zCx p l R s m args c cells slots own ml b cd base ad w tb D cA d) (S : zSim s base ad w tb D cA ml ls mm la H locs) (G : zGo p l e R s m args below meth c cells slots TQ ml base ad w tb D cA K) (T : zRt p l e R s m args below meth c cells slots TQ b base ad w tb D cA ret Q) (hof : cd.all zofs = true) {k : Fin 4} (hi : (pc, ((.istore_n k) : Instr)) ∈ cd)
    (h : zwp (zCall d) own ret (.istore_n k) pc ls st mm Q K) : W p l e R s m args below meth c H locs cells slots TQ (F0 m pc la (st.map (zcv ad w))) := by
    obtain ⟨⟨hx, hb, hml, hown, ho⟩, hts, hK, hSt, hAd, hbs, hdk, hTb, hw, hRm, hC⟩ := id X
    have of : zofs (pc, (.istore_n k)) = true := List.all_eq_true.mp hof _ hi
    have Tr := T pc la mm H locs S.2.2.1 S.2.2.2.1 S.2.2.2.2
    have hl := S.1.has
    exact zstI_ok X S G (n := 1) (i := k) (fun x r kk hlt => lv_istore_n hx hb (zdk_get hdk hi rfl rfl) rfl hl hlt rfl kk) h
set_option maxHeartbeats 30000 in
theorem zk_astore_n (X : zCx p l R s m args c cells slots own ml b cd base ad w tb D cA d) (S : zSim s base ad w tb D cA ml ls mm la H locs) (G : zGo p l e R s m args below meth c cells slots TQ ml base ad w tb D cA K) (T : zRt p l e R s m args below meth c cells slots TQ b base ad w tb D cA ret Q) (hof : cd.all zofs = true) {k : Fin 4} (hi : (pc, ((.astore_n k) : Instr)) ∈ cd)
    (h : zwp (zCall d) own ret (.astore_n k) pc ls st mm Q K) : W p l e R s m args below meth c H locs cells slots TQ (F0 m pc la (st.map (zcv ad w))) := by
    obtain ⟨⟨hx, hb, hml, hown, ho⟩, hts, hK, hSt, hAd, hbs, hdk, hTb, hw, hRm, hC⟩ := id X
    have of : zofs (pc, (.astore_n k)) = true := List.all_eq_true.mp hof _ hi
    have Tr := T pc la mm H locs S.2.2.1 S.2.2.2.1 S.2.2.2.2
    have hl := S.1.has
    exact zstA_ok X S G (n := 1) (i := k) (fun x r kk hlt => lv_astore_n hx hb (zdk_get hdk hi rfl rfl) rfl hl hlt rfl kk) (fun r kk hlt => lv_astore_nN hx hb (zdk_get hdk hi rfl rfl) rfl hl hlt rfl kk) h
set_option maxHeartbeats 30000 in
theorem zk_istore (X : zCx p l R s m args c cells slots own ml b cd base ad w tb D cA d) (S : zSim s base ad w tb D cA ml ls mm la H locs) (G : zGo p l e R s m args below meth c cells slots TQ ml base ad w tb D cA K) (T : zRt p l e R s m args below meth c cells slots TQ b base ad w tb D cA ret Q) (hof : cd.all zofs = true) {k : Nat} (hi : (pc, ((.istore k) : Instr)) ∈ cd)
    (h : zwp (zCall d) own ret (.istore k) pc ls st mm Q K) : W p l e R s m args below meth c H locs cells slots TQ (F0 m pc la (st.map (zcv ad w))) := by
    obtain ⟨⟨hx, hb, hml, hown, ho⟩, hts, hK, hSt, hAd, hbs, hdk, hTb, hw, hRm, hC⟩ := id X
    have of : zofs (pc, (.istore k)) = true := List.all_eq_true.mp hof _ hi
    have Tr := T pc la mm H locs S.2.2.1 S.2.2.2.1 S.2.2.2.2
    have hl := S.1.has
    exact zstI_ok X S G (n := 2) (i := k) (fun x r kk hlt => lv_istore hx hb (zdk_get hdk hi rfl rfl) hl hlt rfl kk) h
set_option maxHeartbeats 30000 in
theorem zk_astore (X : zCx p l R s m args c cells slots own ml b cd base ad w tb D cA d) (S : zSim s base ad w tb D cA ml ls mm la H locs) (G : zGo p l e R s m args below meth c cells slots TQ ml base ad w tb D cA K) (T : zRt p l e R s m args below meth c cells slots TQ b base ad w tb D cA ret Q) (hof : cd.all zofs = true) {k : Nat} (hi : (pc, ((.astore k) : Instr)) ∈ cd)
    (h : zwp (zCall d) own ret (.astore k) pc ls st mm Q K) : W p l e R s m args below meth c H locs cells slots TQ (F0 m pc la (st.map (zcv ad w))) := by
    obtain ⟨⟨hx, hb, hml, hown, ho⟩, hts, hK, hSt, hAd, hbs, hdk, hTb, hw, hRm, hC⟩ := id X
    have of : zofs (pc, (.astore k)) = true := List.all_eq_true.mp hof _ hi
    have Tr := T pc la mm H locs S.2.2.1 S.2.2.2.1 S.2.2.2.2
    have hl := S.1.has
    exact zstA_ok X S G (n := 2) (i := k) (fun x r kk hlt => lv_astore hx hb (zdk_get hdk hi rfl rfl) hl hlt rfl kk) (fun r kk hlt => lv_astoreN hx hb (zdk_get hdk hi rfl rfl) hl hlt rfl kk) h
set_option maxHeartbeats 30000 in
theorem zk_iinc (X : zCx p l R s m args c cells slots own ml b cd base ad w tb D cA d) (S : zSim s base ad w tb D cA ml ls mm la H locs) (G : zGo p l e R s m args below meth c cells slots TQ ml base ad w tb D cA K) (T : zRt p l e R s m args below meth c cells slots TQ b base ad w tb D cA ret Q) (hof : cd.all zofs = true) {k : Nat} {n : Int} (hi : (pc, ((.iinc k n) : Instr)) ∈ cd)
    (h : zwp (zCall d) own ret (.iinc k n) pc ls st mm Q K) : W p l e R s m args below meth c H locs cells slots TQ (F0 m pc la (st.map (zcv ad w))) := by
    obtain ⟨⟨hx, hb, hml, hown, ho⟩, hts, hK, hSt, hAd, hbs, hdk, hTb, hw, hRm, hC⟩ := id X
    have of : zofs (pc, (.iinc k n)) = true := List.all_eq_true.mp hof _ hi
    have Tr := T pc la mm H locs S.2.2.1 S.2.2.2.1 S.2.2.2.2
    have hl := S.1.has
    unfold zwp at h
    dsimp only at h
    cases hv : zget ls k with
    | int x =>
      rw [hv] at h
      dsimp only at h
      cases hk : zok ls k with
      | false => rw [hk] at h; exact h.elim
      | true =>
        rw [hk] at h
        have hmem : (k, Value.int x) ∈ zlvl ad w ls := zlvl_mem.mpr ⟨by rw [hv]; rfl, by rw [hv]; rfl⟩
        obtain ⟨j, hj⟩ := List.getElem?_of_mem hmem
        exact lv_iinc (v := x + Int32.ofInt n) hx hb (zdk_get hdk hi rfl rfl) hl hj rfl (zok_lt hk) rfl (fun la' hla => G _ _ _ _ _ _ _ h ⟨zLo.set hw (v := .int (x + Int32.ofInt n)) hk hla, by rw [zset_sz]; exact S.2.1, S.2.2.1, S.2.2.2.1, S.2.2.2.2⟩)
    | _ => rw [hv] at h; exact h.elim
set_option maxHeartbeats 30000 in
theorem zk_iconst (X : zCx p l R s m args c cells slots own ml b cd base ad w tb D cA d) (S : zSim s base ad w tb D cA ml ls mm la H locs) (G : zGo p l e R s m args below meth c cells slots TQ ml base ad w tb D cA K) (T : zRt p l e R s m args below meth c cells slots TQ b base ad w tb D cA ret Q) (hof : cd.all zofs = true) {n : Int} (hi : (pc, ((.iconst n) : Instr)) ∈ cd)
    (h : zwp (zCall d) own ret (.iconst n) pc ls st mm Q K) : W p l e R s m args below meth c H locs cells slots TQ (F0 m pc la (st.map (zcv ad w))) := by
    obtain ⟨⟨hx, hb, hml, hown, ho⟩, hts, hK, hSt, hAd, hbs, hdk, hTb, hw, hRm, hC⟩ := id X
    have of : zofs (pc, (.iconst n)) = true := List.all_eq_true.mp hof _ hi
    have Tr := T pc la mm H locs S.2.2.1 S.2.2.2.1 S.2.2.2.2
    have hl := S.1.has
    exact lv_iconst hx hb (zdk_get hdk hi rfl rfl) rfl (G _ _ _ _ _ _ _ h S)
set_option maxHeartbeats 30000 in
theorem zk_bipush (X : zCx p l R s m args c cells slots own ml b cd base ad w tb D cA d) (S : zSim s base ad w tb D cA ml ls mm la H locs) (G : zGo p l e R s m args below meth c cells slots TQ ml base ad w tb D cA K) (T : zRt p l e R s m args below meth c cells slots TQ b base ad w tb D cA ret Q) (hof : cd.all zofs = true) {n : Int} (hi : (pc, ((.bipush n) : Instr)) ∈ cd)
    (h : zwp (zCall d) own ret (.bipush n) pc ls st mm Q K) : W p l e R s m args below meth c H locs cells slots TQ (F0 m pc la (st.map (zcv ad w))) := by
    obtain ⟨⟨hx, hb, hml, hown, ho⟩, hts, hK, hSt, hAd, hbs, hdk, hTb, hw, hRm, hC⟩ := id X
    have of : zofs (pc, (.bipush n)) = true := List.all_eq_true.mp hof _ hi
    have Tr := T pc la mm H locs S.2.2.1 S.2.2.2.1 S.2.2.2.2
    have hl := S.1.has
    exact lv_bipush hx hb (zdk_get hdk hi rfl rfl) rfl (G _ _ _ _ _ _ _ h S)
set_option maxHeartbeats 30000 in
theorem zk_sipush (X : zCx p l R s m args c cells slots own ml b cd base ad w tb D cA d) (S : zSim s base ad w tb D cA ml ls mm la H locs) (G : zGo p l e R s m args below meth c cells slots TQ ml base ad w tb D cA K) (T : zRt p l e R s m args below meth c cells slots TQ b base ad w tb D cA ret Q) (hof : cd.all zofs = true) {n : Int} (hi : (pc, ((.sipush n) : Instr)) ∈ cd)
    (h : zwp (zCall d) own ret (.sipush n) pc ls st mm Q K) : W p l e R s m args below meth c H locs cells slots TQ (F0 m pc la (st.map (zcv ad w))) := by
    obtain ⟨⟨hx, hb, hml, hown, ho⟩, hts, hK, hSt, hAd, hbs, hdk, hTb, hw, hRm, hC⟩ := id X
    have of : zofs (pc, (.sipush n)) = true := List.all_eq_true.mp hof _ hi
    have Tr := T pc la mm H locs S.2.2.1 S.2.2.2.1 S.2.2.2.2
    have hl := S.1.has
    exact lv_sipush hx hb (zdk_get hdk hi rfl rfl) rfl (G _ _ _ _ _ _ _ h S)
set_option maxHeartbeats 30000 in
theorem zk_lconst (X : zCx p l R s m args c cells slots own ml b cd base ad w tb D cA d) (S : zSim s base ad w tb D cA ml ls mm la H locs) (G : zGo p l e R s m args below meth c cells slots TQ ml base ad w tb D cA K) (T : zRt p l e R s m args below meth c cells slots TQ b base ad w tb D cA ret Q) (hof : cd.all zofs = true) {n : Fin 2} (hi : (pc, ((.lconst n) : Instr)) ∈ cd)
    (h : zwp (zCall d) own ret (.lconst n) pc ls st mm Q K) : W p l e R s m args below meth c H locs cells slots TQ (F0 m pc la (st.map (zcv ad w))) := by
    obtain ⟨⟨hx, hb, hml, hown, ho⟩, hts, hK, hSt, hAd, hbs, hdk, hTb, hw, hRm, hC⟩ := id X
    have of : zofs (pc, (.lconst n)) = true := List.all_eq_true.mp hof _ hi
    have Tr := T pc la mm H locs S.2.2.1 S.2.2.2.1 S.2.2.2.2
    have hl := S.1.has
    exact lv_lconst hx hb (zdk_get hdk hi rfl rfl) rfl (G _ _ _ _ _ _ _ h S)
set_option maxHeartbeats 30000 in
theorem zk_getfield (X : zCx p l R s m args c cells slots own ml b cd base ad w tb D cA d) (S : zSim s base ad w tb D cA ml ls mm la H locs) (G : zGo p l e R s m args below meth c cells slots TQ ml base ad w tb D cA K) (T : zRt p l e R s m args below meth c cells slots TQ b base ad w tb D cA ret Q) (hof : cd.all zofs = true) {idx : Nat} (hi : (pc, ((.getfield idx) : Instr)) ∈ cd)
    (h : zwp (zCall d) own ret (.getfield idx) pc ls st mm Q K) : W p l e R s m args below meth c H locs cells slots TQ (F0 m pc la (st.map (zcv ad w))) := by
    obtain ⟨⟨hx, hb, hml, hown, ho⟩, hts, hK, hSt, hAd, hbs, hdk, hTb, hw, hRm, hC⟩ := id X
    have of : zofs (pc, (.getfield idx)) = true := List.all_eq_true.mp hof _ hi
    have Tr := T pc la mm H locs S.2.2.1 S.2.2.2.1 S.2.2.2.2
    have hl := S.1.has
    exact zgf_ok X S G (zdk_get hdk hi rfl rfl) h
set_option maxHeartbeats 30000 in
theorem zk_putfield (X : zCx p l R s m args c cells slots own ml b cd base ad w tb D cA d) (S : zSim s base ad w tb D cA ml ls mm la H locs) (G : zGo p l e R s m args below meth c cells slots TQ ml base ad w tb D cA K) (T : zRt p l e R s m args below meth c cells slots TQ b base ad w tb D cA ret Q) (hof : cd.all zofs = true) {idx : Nat} (hi : (pc, ((.putfield idx) : Instr)) ∈ cd)
    (h : zwp (zCall d) own ret (.putfield idx) pc ls st mm Q K) : W p l e R s m args below meth c H locs cells slots TQ (F0 m pc la (st.map (zcv ad w))) := by
    obtain ⟨⟨hx, hb, hml, hown, ho⟩, hts, hK, hSt, hAd, hbs, hdk, hTb, hw, hRm, hC⟩ := id X
    have of : zofs (pc, (.putfield idx)) = true := List.all_eq_true.mp hof _ hi
    have Tr := T pc la mm H locs S.2.2.1 S.2.2.2.1 S.2.2.2.2
    have hl := S.1.has
    exact zpf_ok X S G (zdk_get hdk hi rfl rfl) h
set_option maxHeartbeats 30000 in
theorem zk_getstatic (X : zCx p l R s m args c cells slots own ml b cd base ad w tb D cA d) (S : zSim s base ad w tb D cA ml ls mm la H locs) (G : zGo p l e R s m args below meth c cells slots TQ ml base ad w tb D cA K) (T : zRt p l e R s m args below meth c cells slots TQ b base ad w tb D cA ret Q) (hof : cd.all zofs = true) {idx : Nat} (hi : (pc, ((.getstatic idx) : Instr)) ∈ cd)
    (h : zwp (zCall d) own ret (.getstatic idx) pc ls st mm Q K) : W p l e R s m args below meth c H locs cells slots TQ (F0 m pc la (st.map (zcv ad w))) := by
    obtain ⟨⟨hx, hb, hml, hown, ho⟩, hts, hK, hSt, hAd, hbs, hdk, hTb, hw, hRm, hC⟩ := id X
    have of : zofs (pc, (.getstatic idx)) = true := List.all_eq_true.mp hof _ hi
    have Tr := T pc la mm H locs S.2.2.1 S.2.2.2.1 S.2.2.2.2
    have hl := S.1.has
    unfold zwp at h
    dsimp only at h
    cases hv : zlv (zgt own) idx with
    | none => rw [hv] at h; exact h.elim
    | some v => rw [hv] at h; exact zgs_ok X S G (zdk_get hdk hi rfl rfl) hv h
set_option maxHeartbeats 30000 in
theorem zk_ldc (X : zCx p l R s m args c cells slots own ml b cd base ad w tb D cA d) (S : zSim s base ad w tb D cA ml ls mm la H locs) (G : zGo p l e R s m args below meth c cells slots TQ ml base ad w tb D cA K) (T : zRt p l e R s m args below meth c cells slots TQ b base ad w tb D cA ret Q) (hof : cd.all zofs = true) {idx : Nat} (hi : (pc, ((.ldc idx) : Instr)) ∈ cd)
    (h : zwp (zCall d) own ret (.ldc idx) pc ls st mm Q K) : W p l e R s m args below meth c H locs cells slots TQ (F0 m pc la (st.map (zcv ad w))) := by
    obtain ⟨⟨hx, hb, hml, hown, ho⟩, hts, hK, hSt, hAd, hbs, hdk, hTb, hw, hRm, hC⟩ := id X
    have of : zofs (pc, (.ldc idx)) = true := List.all_eq_true.mp hof _ hi
    have Tr := T pc la mm H locs S.2.2.1 S.2.2.2.1 S.2.2.2.2
    have hl := S.1.has
    unfold zwp at h
    dsimp only at h
    cases hv : zlv (zlt own) idx with
    | none => rw [hv] at h; exact h.elim
    | some v =>
      rw [hv] at h
      cases v with
      | ref q =>
        obtain ⟨tx, hr⟩ := hSt.2.2.2.1 own idx q ho hv
        have g := G _ _ _ _ _ _ _ h S
        obtain ⟨wd, hwd⟩ := zlall ho _ (zlv_mem hv)
        unfold zlok at hwd
        dsimp only at hwd
        rw [Bool.and_eq_true] at hwd
        have hq := Nat.le_of_ble_eq_true hwd.2
        rw [List.map_cons, zcv_ne (p := q) (fun z => by rw [z] at hq; exact absurd hq (by decide))] at g
        exact va_ldcS hx hb hown hr (zdk_get hdk hi rfl rfl) g
      | _ => exact h.elim
set_option maxHeartbeats 30000 in
theorem zk_ldc_w (X : zCx p l R s m args c cells slots own ml b cd base ad w tb D cA d) (S : zSim s base ad w tb D cA ml ls mm la H locs) (G : zGo p l e R s m args below meth c cells slots TQ ml base ad w tb D cA K) (T : zRt p l e R s m args below meth c cells slots TQ b base ad w tb D cA ret Q) (hof : cd.all zofs = true) {idx : Nat} (hi : (pc, ((.ldc_w idx) : Instr)) ∈ cd)
    (h : zwp (zCall d) own ret (.ldc_w idx) pc ls st mm Q K) : W p l e R s m args below meth c H locs cells slots TQ (F0 m pc la (st.map (zcv ad w))) := by
    obtain ⟨⟨hx, hb, hml, hown, ho⟩, hts, hK, hSt, hAd, hbs, hdk, hTb, hw, hRm, hC⟩ := id X
    have of : zofs (pc, (.ldc_w idx)) = true := List.all_eq_true.mp hof _ hi
    have Tr := T pc la mm H locs S.2.2.1 S.2.2.2.1 S.2.2.2.2
    have hl := S.1.has
    unfold zwp at h
    dsimp only at h
    cases hv : zlv (zlt own) idx with
    | none => rw [hv] at h; exact h.elim
    | some v =>
      rw [hv] at h
      cases v with
      | int q =>
        obtain ⟨wd, hwd⟩ := zlall ho _ (zlv_mem hv)
        exact lv_ldcw hx hb hown (hts _ (zhas_in hwd)) (zdk_get hdk hi rfl rfl) (G _ _ _ _ _ _ _ h S)
      | _ => exact h.elim
set_option maxHeartbeats 30000 in
theorem zk_ldc2_w (X : zCx p l R s m args c cells slots own ml b cd base ad w tb D cA d) (S : zSim s base ad w tb D cA ml ls mm la H locs) (G : zGo p l e R s m args below meth c cells slots TQ ml base ad w tb D cA K) (T : zRt p l e R s m args below meth c cells slots TQ b base ad w tb D cA ret Q) (hof : cd.all zofs = true) {idx : Nat} (hi : (pc, ((.ldc2_w idx) : Instr)) ∈ cd)
    (h : zwp (zCall d) own ret (.ldc2_w idx) pc ls st mm Q K) : W p l e R s m args below meth c H locs cells slots TQ (F0 m pc la (st.map (zcv ad w))) := by
    obtain ⟨⟨hx, hb, hml, hown, ho⟩, hts, hK, hSt, hAd, hbs, hdk, hTb, hw, hRm, hC⟩ := id X
    have of : zofs (pc, (.ldc2_w idx)) = true := List.all_eq_true.mp hof _ hi
    have Tr := T pc la mm H locs S.2.2.1 S.2.2.2.1 S.2.2.2.2
    have hl := S.1.has
    unfold zwp at h
    dsimp only at h
    cases hv : zlv (zlt own) idx with
    | none => rw [hv] at h; exact h.elim
    | some v =>
      rw [hv] at h
      cases v with
      | long q =>
        obtain ⟨wd, hwd⟩ := zlall ho _ (zlv_mem hv)
        exact lv_ldc2 hx hb hown (hts _ (zhas_in hwd)) (zdk_get hdk hi rfl rfl) (G _ _ _ _ _ _ _ h S)
      | _ => exact h.elim
set_option maxHeartbeats 30000 in
theorem zk_iaload (X : zCx p l R s m args c cells slots own ml b cd base ad w tb D cA d) (S : zSim s base ad w tb D cA ml ls mm la H locs) (G : zGo p l e R s m args below meth c cells slots TQ ml base ad w tb D cA K) (T : zRt p l e R s m args below meth c cells slots TQ b base ad w tb D cA ret Q) (hof : cd.all zofs = true) (hi : (pc, (.iaload : Instr)) ∈ cd)
    (h : zwp (zCall d) own ret .iaload pc ls st mm Q K) : W p l e R s m args below meth c H locs cells slots TQ (F0 m pc la (st.map (zcv ad w))) := by
    obtain ⟨⟨hx, hb, hml, hown, ho⟩, hts, hK, hSt, hAd, hbs, hdk, hTb, hw, hRm, hC⟩ := id X
    have of : zofs (pc, .iaload) = true := List.all_eq_true.mp hof _ hi
    have Tr := T pc la mm H locs S.2.2.1 S.2.2.2.1 S.2.2.2.2
    have hl := S.1.has
    exact zald_ok X S G (zdk_get hdk hi rfl rfl) h
set_option maxHeartbeats 30000 in
theorem zk_baload (X : zCx p l R s m args c cells slots own ml b cd base ad w tb D cA d) (S : zSim s base ad w tb D cA ml ls mm la H locs) (G : zGo p l e R s m args below meth c cells slots TQ ml base ad w tb D cA K) (T : zRt p l e R s m args below meth c cells slots TQ b base ad w tb D cA ret Q) (hof : cd.all zofs = true) (hi : (pc, (.baload : Instr)) ∈ cd)
    (h : zwp (zCall d) own ret .baload pc ls st mm Q K) : W p l e R s m args below meth c H locs cells slots TQ (F0 m pc la (st.map (zcv ad w))) := by
    obtain ⟨⟨hx, hb, hml, hown, ho⟩, hts, hK, hSt, hAd, hbs, hdk, hTb, hw, hRm, hC⟩ := id X
    have of : zofs (pc, .baload) = true := List.all_eq_true.mp hof _ hi
    have Tr := T pc la mm H locs S.2.2.1 S.2.2.2.1 S.2.2.2.2
    have hl := S.1.has
    exact zbld_ok X S G (zdk_get hdk hi rfl rfl) h
set_option maxHeartbeats 30000 in
theorem zk_iastore (X : zCx p l R s m args c cells slots own ml b cd base ad w tb D cA d) (S : zSim s base ad w tb D cA ml ls mm la H locs) (G : zGo p l e R s m args below meth c cells slots TQ ml base ad w tb D cA K) (T : zRt p l e R s m args below meth c cells slots TQ b base ad w tb D cA ret Q) (hof : cd.all zofs = true) (hi : (pc, (.iastore : Instr)) ∈ cd)
    (h : zwp (zCall d) own ret .iastore pc ls st mm Q K) : W p l e R s m args below meth c H locs cells slots TQ (F0 m pc la (st.map (zcv ad w))) := by
    obtain ⟨⟨hx, hb, hml, hown, ho⟩, hts, hK, hSt, hAd, hbs, hdk, hTb, hw, hRm, hC⟩ := id X
    have of : zofs (pc, .iastore) = true := List.all_eq_true.mp hof _ hi
    have Tr := T pc la mm H locs S.2.2.1 S.2.2.2.1 S.2.2.2.2
    have hl := S.1.has
    exact zast_ok X S G (zdk_get hdk hi rfl rfl) h
set_option maxHeartbeats 30000 in
theorem zk_bastore (X : zCx p l R s m args c cells slots own ml b cd base ad w tb D cA d) (S : zSim s base ad w tb D cA ml ls mm la H locs) (G : zGo p l e R s m args below meth c cells slots TQ ml base ad w tb D cA K) (T : zRt p l e R s m args below meth c cells slots TQ b base ad w tb D cA ret Q) (hof : cd.all zofs = true) (hi : (pc, (.bastore : Instr)) ∈ cd)
    (h : zwp (zCall d) own ret .bastore pc ls st mm Q K) : W p l e R s m args below meth c H locs cells slots TQ (F0 m pc la (st.map (zcv ad w))) := by
    obtain ⟨⟨hx, hb, hml, hown, ho⟩, hts, hK, hSt, hAd, hbs, hdk, hTb, hw, hRm, hC⟩ := id X
    have of : zofs (pc, .bastore) = true := List.all_eq_true.mp hof _ hi
    have Tr := T pc la mm H locs S.2.2.1 S.2.2.2.1 S.2.2.2.2
    have hl := S.1.has
    exact zbst_ok X S G (zdk_get hdk hi rfl rfl) h
set_option maxHeartbeats 30000 in
theorem zk_laload (X : zCx p l R s m args c cells slots own ml b cd base ad w tb D cA d) (S : zSim s base ad w tb D cA ml ls mm la H locs) (G : zGo p l e R s m args below meth c cells slots TQ ml base ad w tb D cA K) (T : zRt p l e R s m args below meth c cells slots TQ b base ad w tb D cA ret Q) (hof : cd.all zofs = true) (hi : (pc, (.laload : Instr)) ∈ cd)
    (h : zwp (zCall d) own ret .laload pc ls st mm Q K) : W p l e R s m args below meth c H locs cells slots TQ (F0 m pc la (st.map (zcv ad w))) := by
    obtain ⟨⟨hx, hb, hml, hown, ho⟩, hts, hK, hSt, hAd, hbs, hdk, hTb, hw, hRm, hC⟩ := id X
    have of : zofs (pc, .laload) = true := List.all_eq_true.mp hof _ hi
    have Tr := T pc la mm H locs S.2.2.1 S.2.2.2.1 S.2.2.2.2
    have hl := S.1.has
    exact zlld_ok X S G (zdk_get hdk hi rfl rfl) h
set_option maxHeartbeats 30000 in
theorem zk_lastore (X : zCx p l R s m args c cells slots own ml b cd base ad w tb D cA d) (S : zSim s base ad w tb D cA ml ls mm la H locs) (G : zGo p l e R s m args below meth c cells slots TQ ml base ad w tb D cA K) (T : zRt p l e R s m args below meth c cells slots TQ b base ad w tb D cA ret Q) (hof : cd.all zofs = true) (hi : (pc, (.lastore : Instr)) ∈ cd)
    (h : zwp (zCall d) own ret .lastore pc ls st mm Q K) : W p l e R s m args below meth c H locs cells slots TQ (F0 m pc la (st.map (zcv ad w))) := by
    obtain ⟨⟨hx, hb, hml, hown, ho⟩, hts, hK, hSt, hAd, hbs, hdk, hTb, hw, hRm, hC⟩ := id X
    have of : zofs (pc, .lastore) = true := List.all_eq_true.mp hof _ hi
    have Tr := T pc la mm H locs S.2.2.1 S.2.2.2.1 S.2.2.2.2
    have hl := S.1.has
    exact zlst_ok X S G (zdk_get hdk hi rfl rfl) h
set_option maxHeartbeats 30000 in
theorem zk_aaload (X : zCx p l R s m args c cells slots own ml b cd base ad w tb D cA d) (S : zSim s base ad w tb D cA ml ls mm la H locs) (G : zGo p l e R s m args below meth c cells slots TQ ml base ad w tb D cA K) (T : zRt p l e R s m args below meth c cells slots TQ b base ad w tb D cA ret Q) (hof : cd.all zofs = true) (hi : (pc, (.aaload : Instr)) ∈ cd)
    (h : zwp (zCall d) own ret .aaload pc ls st mm Q K) : W p l e R s m args below meth c H locs cells slots TQ (F0 m pc la (st.map (zcv ad w))) := by
    obtain ⟨⟨hx, hb, hml, hown, ho⟩, hts, hK, hSt, hAd, hbs, hdk, hTb, hw, hRm, hC⟩ := id X
    have of : zofs (pc, .aaload) = true := List.all_eq_true.mp hof _ hi
    have Tr := T pc la mm H locs S.2.2.1 S.2.2.2.1 S.2.2.2.2
    have hl := S.1.has
    exact zqld_ok X S G (zdk_get hdk hi rfl rfl) h
set_option maxHeartbeats 30000 in
theorem zk_arraylength (X : zCx p l R s m args c cells slots own ml b cd base ad w tb D cA d) (S : zSim s base ad w tb D cA ml ls mm la H locs) (G : zGo p l e R s m args below meth c cells slots TQ ml base ad w tb D cA K) (T : zRt p l e R s m args below meth c cells slots TQ b base ad w tb D cA ret Q) (hof : cd.all zofs = true) (hi : (pc, (.arraylength : Instr)) ∈ cd)
    (h : zwp (zCall d) own ret .arraylength pc ls st mm Q K) : W p l e R s m args below meth c H locs cells slots TQ (F0 m pc la (st.map (zcv ad w))) := by
    obtain ⟨⟨hx, hb, hml, hown, ho⟩, hts, hK, hSt, hAd, hbs, hdk, hTb, hw, hRm, hC⟩ := id X
    have of : zofs (pc, .arraylength) = true := List.all_eq_true.mp hof _ hi
    have Tr := T pc la mm H locs S.2.2.1 S.2.2.2.1 S.2.2.2.2
    have hl := S.1.has
    exact zaln_ok X S G (zdk_get hdk hi rfl rfl) h
set_option maxHeartbeats 30000 in
theorem zk_iadd (X : zCx p l R s m args c cells slots own ml b cd base ad w tb D cA d) (S : zSim s base ad w tb D cA ml ls mm la H locs) (G : zGo p l e R s m args below meth c cells slots TQ ml base ad w tb D cA K) (T : zRt p l e R s m args below meth c cells slots TQ b base ad w tb D cA ret Q) (hof : cd.all zofs = true) (hi : (pc, (.iadd : Instr)) ∈ cd)
    (h : zwp (zCall d) own ret .iadd pc ls st mm Q K) : W p l e R s m args below meth c H locs cells slots TQ (F0 m pc la (st.map (zcv ad w))) := by
    obtain ⟨⟨hx, hb, hml, hown, ho⟩, hts, hK, hSt, hAd, hbs, hdk, hTb, hw, hRm, hC⟩ := id X
    have of : zofs (pc, .iadd) = true := List.all_eq_true.mp hof _ hi
    have Tr := T pc la mm H locs S.2.2.1 S.2.2.2.1 S.2.2.2.2
    have hl := S.1.has
    obtain ⟨x, y, r, rfl, h⟩ := zi2_ok h
    exact lv_iadd hx hb (zdk_get hdk hi rfl rfl) (G _ _ _ _ _ _ _ h S)
set_option maxHeartbeats 30000 in
theorem zk_isub (X : zCx p l R s m args c cells slots own ml b cd base ad w tb D cA d) (S : zSim s base ad w tb D cA ml ls mm la H locs) (G : zGo p l e R s m args below meth c cells slots TQ ml base ad w tb D cA K) (T : zRt p l e R s m args below meth c cells slots TQ b base ad w tb D cA ret Q) (hof : cd.all zofs = true) (hi : (pc, (.isub : Instr)) ∈ cd)
    (h : zwp (zCall d) own ret .isub pc ls st mm Q K) : W p l e R s m args below meth c H locs cells slots TQ (F0 m pc la (st.map (zcv ad w))) := by
    obtain ⟨⟨hx, hb, hml, hown, ho⟩, hts, hK, hSt, hAd, hbs, hdk, hTb, hw, hRm, hC⟩ := id X
    have of : zofs (pc, .isub) = true := List.all_eq_true.mp hof _ hi
    have Tr := T pc la mm H locs S.2.2.1 S.2.2.2.1 S.2.2.2.2
    have hl := S.1.has
    obtain ⟨x, y, r, rfl, h⟩ := zi2_ok h
    exact lv_isub hx hb (zdk_get hdk hi rfl rfl) (G _ _ _ _ _ _ _ h S)
set_option maxHeartbeats 30000 in
theorem zk_imul (X : zCx p l R s m args c cells slots own ml b cd base ad w tb D cA d) (S : zSim s base ad w tb D cA ml ls mm la H locs) (G : zGo p l e R s m args below meth c cells slots TQ ml base ad w tb D cA K) (T : zRt p l e R s m args below meth c cells slots TQ b base ad w tb D cA ret Q) (hof : cd.all zofs = true) (hi : (pc, (.imul : Instr)) ∈ cd)
    (h : zwp (zCall d) own ret .imul pc ls st mm Q K) : W p l e R s m args below meth c H locs cells slots TQ (F0 m pc la (st.map (zcv ad w))) := by
    obtain ⟨⟨hx, hb, hml, hown, ho⟩, hts, hK, hSt, hAd, hbs, hdk, hTb, hw, hRm, hC⟩ := id X
    have of : zofs (pc, .imul) = true := List.all_eq_true.mp hof _ hi
    have Tr := T pc la mm H locs S.2.2.1 S.2.2.2.1 S.2.2.2.2
    have hl := S.1.has
    obtain ⟨x, y, r, rfl, h⟩ := zi2_ok h
    exact lv_imul hx hb (zdk_get hdk hi rfl rfl) (G _ _ _ _ _ _ _ h S)
set_option maxHeartbeats 30000 in
theorem zk_iand (X : zCx p l R s m args c cells slots own ml b cd base ad w tb D cA d) (S : zSim s base ad w tb D cA ml ls mm la H locs) (G : zGo p l e R s m args below meth c cells slots TQ ml base ad w tb D cA K) (T : zRt p l e R s m args below meth c cells slots TQ b base ad w tb D cA ret Q) (hof : cd.all zofs = true) (hi : (pc, (.iand : Instr)) ∈ cd)
    (h : zwp (zCall d) own ret .iand pc ls st mm Q K) : W p l e R s m args below meth c H locs cells slots TQ (F0 m pc la (st.map (zcv ad w))) := by
    obtain ⟨⟨hx, hb, hml, hown, ho⟩, hts, hK, hSt, hAd, hbs, hdk, hTb, hw, hRm, hC⟩ := id X
    have of : zofs (pc, .iand) = true := List.all_eq_true.mp hof _ hi
    have Tr := T pc la mm H locs S.2.2.1 S.2.2.2.1 S.2.2.2.2
    have hl := S.1.has
    obtain ⟨x, y, r, rfl, h⟩ := zi2_ok h
    exact lv_iand hx hb (zdk_get hdk hi rfl rfl) (G _ _ _ _ _ _ _ h S)
set_option maxHeartbeats 30000 in
theorem zk_ior (X : zCx p l R s m args c cells slots own ml b cd base ad w tb D cA d) (S : zSim s base ad w tb D cA ml ls mm la H locs) (G : zGo p l e R s m args below meth c cells slots TQ ml base ad w tb D cA K) (T : zRt p l e R s m args below meth c cells slots TQ b base ad w tb D cA ret Q) (hof : cd.all zofs = true) (hi : (pc, (.ior : Instr)) ∈ cd)
    (h : zwp (zCall d) own ret .ior pc ls st mm Q K) : W p l e R s m args below meth c H locs cells slots TQ (F0 m pc la (st.map (zcv ad w))) := by
    obtain ⟨⟨hx, hb, hml, hown, ho⟩, hts, hK, hSt, hAd, hbs, hdk, hTb, hw, hRm, hC⟩ := id X
    have of : zofs (pc, .ior) = true := List.all_eq_true.mp hof _ hi
    have Tr := T pc la mm H locs S.2.2.1 S.2.2.2.1 S.2.2.2.2
    have hl := S.1.has
    obtain ⟨x, y, r, rfl, h⟩ := zi2_ok h
    exact lv_ior hx hb (zdk_get hdk hi rfl rfl) (G _ _ _ _ _ _ _ h S)
set_option maxHeartbeats 30000 in
theorem zk_ixor (X : zCx p l R s m args c cells slots own ml b cd base ad w tb D cA d) (S : zSim s base ad w tb D cA ml ls mm la H locs) (G : zGo p l e R s m args below meth c cells slots TQ ml base ad w tb D cA K) (T : zRt p l e R s m args below meth c cells slots TQ b base ad w tb D cA ret Q) (hof : cd.all zofs = true) (hi : (pc, (.ixor : Instr)) ∈ cd)
    (h : zwp (zCall d) own ret .ixor pc ls st mm Q K) : W p l e R s m args below meth c H locs cells slots TQ (F0 m pc la (st.map (zcv ad w))) := by
    obtain ⟨⟨hx, hb, hml, hown, ho⟩, hts, hK, hSt, hAd, hbs, hdk, hTb, hw, hRm, hC⟩ := id X
    have of : zofs (pc, .ixor) = true := List.all_eq_true.mp hof _ hi
    have Tr := T pc la mm H locs S.2.2.1 S.2.2.2.1 S.2.2.2.2
    have hl := S.1.has
    obtain ⟨x, y, r, rfl, h⟩ := zi2_ok h
    exact lv_ixor hx hb (zdk_get hdk hi rfl rfl) (G _ _ _ _ _ _ _ h S)
set_option maxHeartbeats 30000 in
theorem zk_ishl (X : zCx p l R s m args c cells slots own ml b cd base ad w tb D cA d) (S : zSim s base ad w tb D cA ml ls mm la H locs) (G : zGo p l e R s m args below meth c cells slots TQ ml base ad w tb D cA K) (T : zRt p l e R s m args below meth c cells slots TQ b base ad w tb D cA ret Q) (hof : cd.all zofs = true) (hi : (pc, (.ishl : Instr)) ∈ cd)
    (h : zwp (zCall d) own ret .ishl pc ls st mm Q K) : W p l e R s m args below meth c H locs cells slots TQ (F0 m pc la (st.map (zcv ad w))) := by
    obtain ⟨⟨hx, hb, hml, hown, ho⟩, hts, hK, hSt, hAd, hbs, hdk, hTb, hw, hRm, hC⟩ := id X
    have of : zofs (pc, .ishl) = true := List.all_eq_true.mp hof _ hi
    have Tr := T pc la mm H locs S.2.2.1 S.2.2.2.1 S.2.2.2.2
    have hl := S.1.has
    obtain ⟨x, y, r, rfl, h⟩ := zi2_ok h
    exact lv_ishl hx hb (zdk_get hdk hi rfl rfl) (G _ _ _ _ _ _ _ h S)
set_option maxHeartbeats 30000 in
theorem zk_ishr (X : zCx p l R s m args c cells slots own ml b cd base ad w tb D cA d) (S : zSim s base ad w tb D cA ml ls mm la H locs) (G : zGo p l e R s m args below meth c cells slots TQ ml base ad w tb D cA K) (T : zRt p l e R s m args below meth c cells slots TQ b base ad w tb D cA ret Q) (hof : cd.all zofs = true) (hi : (pc, (.ishr : Instr)) ∈ cd)
    (h : zwp (zCall d) own ret .ishr pc ls st mm Q K) : W p l e R s m args below meth c H locs cells slots TQ (F0 m pc la (st.map (zcv ad w))) := by
    obtain ⟨⟨hx, hb, hml, hown, ho⟩, hts, hK, hSt, hAd, hbs, hdk, hTb, hw, hRm, hC⟩ := id X
    have of : zofs (pc, .ishr) = true := List.all_eq_true.mp hof _ hi
    have Tr := T pc la mm H locs S.2.2.1 S.2.2.2.1 S.2.2.2.2
    have hl := S.1.has
    obtain ⟨x, y, r, rfl, h⟩ := zi2_ok h
    exact lv_ishr hx hb (zdk_get hdk hi rfl rfl) (G _ _ _ _ _ _ _ h S)
set_option maxHeartbeats 30000 in
theorem zk_idiv (X : zCx p l R s m args c cells slots own ml b cd base ad w tb D cA d) (S : zSim s base ad w tb D cA ml ls mm la H locs) (G : zGo p l e R s m args below meth c cells slots TQ ml base ad w tb D cA K) (T : zRt p l e R s m args below meth c cells slots TQ b base ad w tb D cA ret Q) (hof : cd.all zofs = true) (hi : (pc, (.idiv : Instr)) ∈ cd)
    (h : zwp (zCall d) own ret .idiv pc ls st mm Q K) : W p l e R s m args below meth c H locs cells slots TQ (F0 m pc la (st.map (zcv ad w))) := by
    obtain ⟨⟨hx, hb, hml, hown, ho⟩, hts, hK, hSt, hAd, hbs, hdk, hTb, hw, hRm, hC⟩ := id X
    have of : zofs (pc, .idiv) = true := List.all_eq_true.mp hof _ hi
    have Tr := T pc la mm H locs S.2.2.1 S.2.2.2.1 S.2.2.2.2
    have hl := S.1.has
    obtain ⟨x, y, r, rfl, hn, h⟩ := zi2_ok h
    exact lv_idiv hx hb (zdk_get hdk hi rfl rfl) hn (G _ _ _ _ _ _ _ h S)
set_option maxHeartbeats 30000 in
theorem zk_irem (X : zCx p l R s m args c cells slots own ml b cd base ad w tb D cA d) (S : zSim s base ad w tb D cA ml ls mm la H locs) (G : zGo p l e R s m args below meth c cells slots TQ ml base ad w tb D cA K) (T : zRt p l e R s m args below meth c cells slots TQ b base ad w tb D cA ret Q) (hof : cd.all zofs = true) (hi : (pc, (.irem : Instr)) ∈ cd)
    (h : zwp (zCall d) own ret .irem pc ls st mm Q K) : W p l e R s m args below meth c H locs cells slots TQ (F0 m pc la (st.map (zcv ad w))) := by
    obtain ⟨⟨hx, hb, hml, hown, ho⟩, hts, hK, hSt, hAd, hbs, hdk, hTb, hw, hRm, hC⟩ := id X
    have of : zofs (pc, .irem) = true := List.all_eq_true.mp hof _ hi
    have Tr := T pc la mm H locs S.2.2.1 S.2.2.2.1 S.2.2.2.2
    have hl := S.1.has
    obtain ⟨x, y, r, rfl, hn, h⟩ := zi2_ok h
    exact lv_irem hx hb (zdk_get hdk hi rfl rfl) hn (G _ _ _ _ _ _ _ h S)
set_option maxHeartbeats 30000 in
theorem zk_iushr (X : zCx p l R s m args c cells slots own ml b cd base ad w tb D cA d) (S : zSim s base ad w tb D cA ml ls mm la H locs) (G : zGo p l e R s m args below meth c cells slots TQ ml base ad w tb D cA K) (T : zRt p l e R s m args below meth c cells slots TQ b base ad w tb D cA ret Q) (hof : cd.all zofs = true) (hi : (pc, (.iushr : Instr)) ∈ cd)
    (h : zwp (zCall d) own ret .iushr pc ls st mm Q K) : W p l e R s m args below meth c H locs cells slots TQ (F0 m pc la (st.map (zcv ad w))) := by
    obtain ⟨⟨hx, hb, hml, hown, ho⟩, hts, hK, hSt, hAd, hbs, hdk, hTb, hw, hRm, hC⟩ := id X
    have of : zofs (pc, .iushr) = true := List.all_eq_true.mp hof _ hi
    have Tr := T pc la mm H locs S.2.2.1 S.2.2.2.1 S.2.2.2.2
    have hl := S.1.has
    obtain ⟨x, y, r, rfl, h⟩ := zi2_ok h
    exact lv_iushr hx hb (zdk_get hdk hi rfl rfl) rfl (G _ _ _ _ _ _ _ h S)
set_option maxHeartbeats 30000 in
theorem zk_ineg (X : zCx p l R s m args c cells slots own ml b cd base ad w tb D cA d) (S : zSim s base ad w tb D cA ml ls mm la H locs) (G : zGo p l e R s m args below meth c cells slots TQ ml base ad w tb D cA K) (T : zRt p l e R s m args below meth c cells slots TQ b base ad w tb D cA ret Q) (hof : cd.all zofs = true) (hi : (pc, (.ineg : Instr)) ∈ cd)
    (h : zwp (zCall d) own ret .ineg pc ls st mm Q K) : W p l e R s m args below meth c H locs cells slots TQ (F0 m pc la (st.map (zcv ad w))) := by
    obtain ⟨⟨hx, hb, hml, hown, ho⟩, hts, hK, hSt, hAd, hbs, hdk, hTb, hw, hRm, hC⟩ := id X
    have of : zofs (pc, .ineg) = true := List.all_eq_true.mp hof _ hi
    have Tr := T pc la mm H locs S.2.2.1 S.2.2.2.1 S.2.2.2.2
    have hl := S.1.has
    obtain ⟨x, r, rfl, h⟩ := zi1_ok h
    exact lv_ineg hx hb (zdk_get hdk hi rfl rfl) (G _ _ _ _ _ _ _ h S)
set_option maxHeartbeats 30000 in
theorem zk_i2l (X : zCx p l R s m args c cells slots own ml b cd base ad w tb D cA d) (S : zSim s base ad w tb D cA ml ls mm la H locs) (G : zGo p l e R s m args below meth c cells slots TQ ml base ad w tb D cA K) (T : zRt p l e R s m args below meth c cells slots TQ b base ad w tb D cA ret Q) (hof : cd.all zofs = true) (hi : (pc, (.i2l : Instr)) ∈ cd)
    (h : zwp (zCall d) own ret .i2l pc ls st mm Q K) : W p l e R s m args below meth c H locs cells slots TQ (F0 m pc la (st.map (zcv ad w))) := by
    obtain ⟨⟨hx, hb, hml, hown, ho⟩, hts, hK, hSt, hAd, hbs, hdk, hTb, hw, hRm, hC⟩ := id X
    have of : zofs (pc, .i2l) = true := List.all_eq_true.mp hof _ hi
    have Tr := T pc la mm H locs S.2.2.1 S.2.2.2.1 S.2.2.2.2
    have hl := S.1.has
    obtain ⟨x, r, rfl, h⟩ := zi1_ok h
    exact lv_i2l hx hb (zdk_get hdk hi rfl rfl) rfl (G _ _ _ _ _ _ _ h S)
set_option maxHeartbeats 30000 in
theorem zk_i2b (X : zCx p l R s m args c cells slots own ml b cd base ad w tb D cA d) (S : zSim s base ad w tb D cA ml ls mm la H locs) (G : zGo p l e R s m args below meth c cells slots TQ ml base ad w tb D cA K) (T : zRt p l e R s m args below meth c cells slots TQ b base ad w tb D cA ret Q) (hof : cd.all zofs = true) (hi : (pc, (.i2b : Instr)) ∈ cd)
    (h : zwp (zCall d) own ret .i2b pc ls st mm Q K) : W p l e R s m args below meth c H locs cells slots TQ (F0 m pc la (st.map (zcv ad w))) := by
    obtain ⟨⟨hx, hb, hml, hown, ho⟩, hts, hK, hSt, hAd, hbs, hdk, hTb, hw, hRm, hC⟩ := id X
    have of : zofs (pc, .i2b) = true := List.all_eq_true.mp hof _ hi
    have Tr := T pc la mm H locs S.2.2.1 S.2.2.2.1 S.2.2.2.2
    have hl := S.1.has
    obtain ⟨x, r, rfl, h⟩ := zi1_ok h
    exact lv_i2b hx hb (zdk_get hdk hi rfl rfl) rfl (G _ _ _ _ _ _ _ h S)
set_option maxHeartbeats 30000 in
theorem zk_i2s (X : zCx p l R s m args c cells slots own ml b cd base ad w tb D cA d) (S : zSim s base ad w tb D cA ml ls mm la H locs) (G : zGo p l e R s m args below meth c cells slots TQ ml base ad w tb D cA K) (T : zRt p l e R s m args below meth c cells slots TQ b base ad w tb D cA ret Q) (hof : cd.all zofs = true) (hi : (pc, (.i2s : Instr)) ∈ cd)
    (h : zwp (zCall d) own ret .i2s pc ls st mm Q K) : W p l e R s m args below meth c H locs cells slots TQ (F0 m pc la (st.map (zcv ad w))) := by
    obtain ⟨⟨hx, hb, hml, hown, ho⟩, hts, hK, hSt, hAd, hbs, hdk, hTb, hw, hRm, hC⟩ := id X
    have of : zofs (pc, .i2s) = true := List.all_eq_true.mp hof _ hi
    have Tr := T pc la mm H locs S.2.2.1 S.2.2.2.1 S.2.2.2.2
    have hl := S.1.has
    obtain ⟨x, r, rfl, h⟩ := zi1_ok h
    exact lv_i2s hx hb (zdk_get hdk hi rfl rfl) rfl (G _ _ _ _ _ _ _ h S)
set_option maxHeartbeats 30000 in
theorem zk_i2c (X : zCx p l R s m args c cells slots own ml b cd base ad w tb D cA d) (S : zSim s base ad w tb D cA ml ls mm la H locs) (G : zGo p l e R s m args below meth c cells slots TQ ml base ad w tb D cA K) (T : zRt p l e R s m args below meth c cells slots TQ b base ad w tb D cA ret Q) (hof : cd.all zofs = true) (hi : (pc, (.i2c : Instr)) ∈ cd)
    (h : zwp (zCall d) own ret .i2c pc ls st mm Q K) : W p l e R s m args below meth c H locs cells slots TQ (F0 m pc la (st.map (zcv ad w))) := by
    obtain ⟨⟨hx, hb, hml, hown, ho⟩, hts, hK, hSt, hAd, hbs, hdk, hTb, hw, hRm, hC⟩ := id X
    have of : zofs (pc, .i2c) = true := List.all_eq_true.mp hof _ hi
    have Tr := T pc la mm H locs S.2.2.1 S.2.2.2.1 S.2.2.2.2
    have hl := S.1.has
    obtain ⟨x, r, rfl, h⟩ := zi1_ok h
    exact lv_i2c hx hb (zdk_get hdk hi rfl rfl) rfl (G _ _ _ _ _ _ _ h S)
set_option maxHeartbeats 30000 in
theorem zk_l2i (X : zCx p l R s m args c cells slots own ml b cd base ad w tb D cA d) (S : zSim s base ad w tb D cA ml ls mm la H locs) (G : zGo p l e R s m args below meth c cells slots TQ ml base ad w tb D cA K) (T : zRt p l e R s m args below meth c cells slots TQ b base ad w tb D cA ret Q) (hof : cd.all zofs = true) (hi : (pc, (.l2i : Instr)) ∈ cd)
    (h : zwp (zCall d) own ret .l2i pc ls st mm Q K) : W p l e R s m args below meth c H locs cells slots TQ (F0 m pc la (st.map (zcv ad w))) := by
    obtain ⟨⟨hx, hb, hml, hown, ho⟩, hts, hK, hSt, hAd, hbs, hdk, hTb, hw, hRm, hC⟩ := id X
    have of : zofs (pc, .l2i) = true := List.all_eq_true.mp hof _ hi
    have Tr := T pc la mm H locs S.2.2.1 S.2.2.2.1 S.2.2.2.2
    have hl := S.1.has
    obtain ⟨x, r, rfl, h⟩ := zj1_ok h
    exact lv_l2i hx hb (zdk_get hdk hi rfl rfl) rfl (G _ _ _ _ _ _ _ h S)
set_option maxHeartbeats 30000 in
theorem zk_land (X : zCx p l R s m args c cells slots own ml b cd base ad w tb D cA d) (S : zSim s base ad w tb D cA ml ls mm la H locs) (G : zGo p l e R s m args below meth c cells slots TQ ml base ad w tb D cA K) (T : zRt p l e R s m args below meth c cells slots TQ b base ad w tb D cA ret Q) (hof : cd.all zofs = true) (hi : (pc, (.land : Instr)) ∈ cd)
    (h : zwp (zCall d) own ret .land pc ls st mm Q K) : W p l e R s m args below meth c H locs cells slots TQ (F0 m pc la (st.map (zcv ad w))) := by
    obtain ⟨⟨hx, hb, hml, hown, ho⟩, hts, hK, hSt, hAd, hbs, hdk, hTb, hw, hRm, hC⟩ := id X
    have of : zofs (pc, .land) = true := List.all_eq_true.mp hof _ hi
    have Tr := T pc la mm H locs S.2.2.1 S.2.2.2.1 S.2.2.2.2
    have hl := S.1.has
    obtain ⟨x, y, r, rfl, h⟩ := zj2_ok h
    exact lv_land hx hb (zdk_get hdk hi rfl rfl) (G _ _ _ _ _ _ _ h S)
set_option maxHeartbeats 30000 in
theorem zk_lor (X : zCx p l R s m args c cells slots own ml b cd base ad w tb D cA d) (S : zSim s base ad w tb D cA ml ls mm la H locs) (G : zGo p l e R s m args below meth c cells slots TQ ml base ad w tb D cA K) (T : zRt p l e R s m args below meth c cells slots TQ b base ad w tb D cA ret Q) (hof : cd.all zofs = true) (hi : (pc, (.lor : Instr)) ∈ cd)
    (h : zwp (zCall d) own ret .lor pc ls st mm Q K) : W p l e R s m args below meth c H locs cells slots TQ (F0 m pc la (st.map (zcv ad w))) := by
    obtain ⟨⟨hx, hb, hml, hown, ho⟩, hts, hK, hSt, hAd, hbs, hdk, hTb, hw, hRm, hC⟩ := id X
    have of : zofs (pc, .lor) = true := List.all_eq_true.mp hof _ hi
    have Tr := T pc la mm H locs S.2.2.1 S.2.2.2.1 S.2.2.2.2
    have hl := S.1.has
    obtain ⟨x, y, r, rfl, h⟩ := zj2_ok h
    exact lv_lor hx hb (zdk_get hdk hi rfl rfl) (G _ _ _ _ _ _ _ h S)
set_option maxHeartbeats 30000 in
theorem zk_lcmp (X : zCx p l R s m args c cells slots own ml b cd base ad w tb D cA d) (S : zSim s base ad w tb D cA ml ls mm la H locs) (G : zGo p l e R s m args below meth c cells slots TQ ml base ad w tb D cA K) (T : zRt p l e R s m args below meth c cells slots TQ b base ad w tb D cA ret Q) (hof : cd.all zofs = true) (hi : (pc, (.lcmp : Instr)) ∈ cd)
    (h : zwp (zCall d) own ret .lcmp pc ls st mm Q K) : W p l e R s m args below meth c H locs cells slots TQ (F0 m pc la (st.map (zcv ad w))) := by
    obtain ⟨⟨hx, hb, hml, hown, ho⟩, hts, hK, hSt, hAd, hbs, hdk, hTb, hw, hRm, hC⟩ := id X
    have of : zofs (pc, .lcmp) = true := List.all_eq_true.mp hof _ hi
    have Tr := T pc la mm H locs S.2.2.1 S.2.2.2.1 S.2.2.2.2
    have hl := S.1.has
    obtain ⟨x, y, r, rfl, h⟩ := zj2_ok h
    exact W.lcmp hx hb (zdk_get hdk hi rfl rfl) (G _ _ _ _ _ _ _ h S)
set_option maxHeartbeats 30000 in
theorem zk_lshl (X : zCx p l R s m args c cells slots own ml b cd base ad w tb D cA d) (S : zSim s base ad w tb D cA ml ls mm la H locs) (G : zGo p l e R s m args below meth c cells slots TQ ml base ad w tb D cA K) (T : zRt p l e R s m args below meth c cells slots TQ b base ad w tb D cA ret Q) (hof : cd.all zofs = true) (hi : (pc, (.lshl : Instr)) ∈ cd)
    (h : zwp (zCall d) own ret .lshl pc ls st mm Q K) : W p l e R s m args below meth c H locs cells slots TQ (F0 m pc la (st.map (zcv ad w))) := by
    obtain ⟨⟨hx, hb, hml, hown, ho⟩, hts, hK, hSt, hAd, hbs, hdk, hTb, hw, hRm, hC⟩ := id X
    have of : zofs (pc, .lshl) = true := List.all_eq_true.mp hof _ hi
    have Tr := T pc la mm H locs S.2.2.1 S.2.2.2.1 S.2.2.2.2
    have hl := S.1.has
    obtain ⟨x, y, r, rfl, h⟩ := zji_ok h
    exact lv_lshl hx hb (zdk_get hdk hi rfl rfl) rfl (G _ _ _ _ _ _ _ h S)
set_option maxHeartbeats 30000 in
theorem zk_dup (X : zCx p l R s m args c cells slots own ml b cd base ad w tb D cA d) (S : zSim s base ad w tb D cA ml ls mm la H locs) (G : zGo p l e R s m args below meth c cells slots TQ ml base ad w tb D cA K) (T : zRt p l e R s m args below meth c cells slots TQ b base ad w tb D cA ret Q) (hof : cd.all zofs = true) (hi : (pc, (.dup : Instr)) ∈ cd)
    (h : zwp (zCall d) own ret .dup pc ls st mm Q K) : W p l e R s m args below meth c H locs cells slots TQ (F0 m pc la (st.map (zcv ad w))) := by
    obtain ⟨⟨hx, hb, hml, hown, ho⟩, hts, hK, hSt, hAd, hbs, hdk, hTb, hw, hRm, hC⟩ := id X
    have of : zofs (pc, .dup) = true := List.all_eq_true.mp hof _ hi
    have Tr := T pc la mm H locs S.2.2.1 S.2.2.2.1 S.2.2.2.2
    have hl := S.1.has
    unfold zwp at h
    dsimp only at h
    split at h
    · exact lv_dup hx hb (zdk_get hdk hi rfl rfl) (va := .int _) rfl (G _ _ _ _ _ _ _ h S)
    · rename_i x r
      exact lv_dup hx hb (zdk_get hdk hi rfl rfl) (va := zcv ad w (.ref x)) (zcv_cat hw _) (G _ _ _ _ _ _ _ h S)
    · exact h.elim
set_option maxHeartbeats 30000 in
theorem zk_dup2 (X : zCx p l R s m args c cells slots own ml b cd base ad w tb D cA d) (S : zSim s base ad w tb D cA ml ls mm la H locs) (G : zGo p l e R s m args below meth c cells slots TQ ml base ad w tb D cA K) (T : zRt p l e R s m args below meth c cells slots TQ b base ad w tb D cA ret Q) (hof : cd.all zofs = true) (hi : (pc, (.dup2 : Instr)) ∈ cd)
    (h : zwp (zCall d) own ret .dup2 pc ls st mm Q K) : W p l e R s m args below meth c H locs cells slots TQ (F0 m pc la (st.map (zcv ad w))) := by
    obtain ⟨⟨hx, hb, hml, hown, ho⟩, hts, hK, hSt, hAd, hbs, hdk, hTb, hw, hRm, hC⟩ := id X
    have of : zofs (pc, .dup2) = true := List.all_eq_true.mp hof _ hi
    have Tr := T pc la mm H locs S.2.2.1 S.2.2.2.1 S.2.2.2.2
    have hl := S.1.has
    unfold zwp at h
    dsimp only at h
    split at h
    · exact lv_dup2_11 hx hb (zdk_get hdk hi rfl rfl) (va := .int _) (vb := .int _) rfl rfl (G _ _ _ _ _ _ _ h S)
    · rename_i y x r
      exact lv_dup2_11 hx hb (zdk_get hdk hi rfl rfl) (va := .int y) (vb := zcv ad w (.ref x)) rfl (zcv_cat hw _) (G _ _ _ _ _ _ _ h S)
    · exact h.elim
set_option maxHeartbeats 30000 in
theorem zk_pop (X : zCx p l R s m args c cells slots own ml b cd base ad w tb D cA d) (S : zSim s base ad w tb D cA ml ls mm la H locs) (G : zGo p l e R s m args below meth c cells slots TQ ml base ad w tb D cA K) (T : zRt p l e R s m args below meth c cells slots TQ b base ad w tb D cA ret Q) (hof : cd.all zofs = true) (hi : (pc, (.pop : Instr)) ∈ cd)
    (h : zwp (zCall d) own ret .pop pc ls st mm Q K) : W p l e R s m args below meth c H locs cells slots TQ (F0 m pc la (st.map (zcv ad w))) := by
    obtain ⟨⟨hx, hb, hml, hown, ho⟩, hts, hK, hSt, hAd, hbs, hdk, hTb, hw, hRm, hC⟩ := id X
    have of : zofs (pc, .pop) = true := List.all_eq_true.mp hof _ hi
    have Tr := T pc la mm H locs S.2.2.1 S.2.2.2.1 S.2.2.2.2
    have hl := S.1.has
    unfold zwp at h
    dsimp only at h
    split at h
    · exact lv_pop hx hb (zdk_get hdk hi rfl rfl) (va := .int _) rfl (G _ _ _ _ _ _ _ h S)
    · rename_i x r
      exact lv_pop hx hb (zdk_get hdk hi rfl rfl) (va := zcv ad w (.ref x)) (zcv_cat hw _) (G _ _ _ _ _ _ _ h S)
    · exact h.elim
set_option maxHeartbeats 30000 in
theorem zk_goto (X : zCx p l R s m args c cells slots own ml b cd base ad w tb D cA d) (S : zSim s base ad w tb D cA ml ls mm la H locs) (G : zGo p l e R s m args below meth c cells slots TQ ml base ad w tb D cA K) (T : zRt p l e R s m args below meth c cells slots TQ b base ad w tb D cA ret Q) (hof : cd.all zofs = true) {o : Int} (hi : (pc, ((.goto o) : Instr)) ∈ cd)
    (h : zwp (zCall d) own ret (.goto o) pc ls st mm Q K) : W p l e R s m args below meth c H locs cells slots TQ (F0 m pc la (st.map (zcv ad w))) := by
    obtain ⟨⟨hx, hb, hml, hown, ho⟩, hts, hK, hSt, hAd, hbs, hdk, hTb, hw, hRm, hC⟩ := id X
    have of : zofs (pc, (.goto o)) = true := List.all_eq_true.mp hof _ hi
    have Tr := T pc la mm H locs S.2.2.1 S.2.2.2.1 S.2.2.2.2
    have hl := S.1.has
    exact lv_goto hx hb (zdk_get hdk hi rfl rfl) (ztg_ok pc o (by simpa [zofs] using of)) (G _ _ _ _ _ _ _ h S)
set_option maxHeartbeats 30000 in
theorem zk_if_icmp (X : zCx p l R s m args c cells slots own ml b cd base ad w tb D cA d) (S : zSim s base ad w tb D cA ml ls mm la H locs) (G : zGo p l e R s m args below meth c cells slots TQ ml base ad w tb D cA K) (T : zRt p l e R s m args below meth c cells slots TQ b base ad w tb D cA ret Q) (hof : cd.all zofs = true) {cc : ClassFile.Cond} {o : Int} (hi : (pc, ((.if_icmp cc o) : Instr)) ∈ cd)
    (h : zwp (zCall d) own ret (.if_icmp cc o) pc ls st mm Q K) : W p l e R s m args below meth c H locs cells slots TQ (F0 m pc la (st.map (zcv ad w))) := by
    obtain ⟨⟨hx, hb, hml, hown, ho⟩, hts, hK, hSt, hAd, hbs, hdk, hTb, hw, hRm, hC⟩ := id X
    have of : zofs (pc, (.if_icmp cc o)) = true := List.all_eq_true.mp hof _ hi
    have Tr := T pc la mm H locs S.2.2.1 S.2.2.2.1 S.2.2.2.2
    have hl := S.1.has
    exact zicmp_ok hx hb S G (by simpa [zofs] using of) (zdk_get hdk hi rfl rfl) h
set_option maxHeartbeats 30000 in
theorem zk_ifCond (X : zCx p l R s m args c cells slots own ml b cd base ad w tb D cA d) (S : zSim s base ad w tb D cA ml ls mm la H locs) (G : zGo p l e R s m args below meth c cells slots TQ ml base ad w tb D cA K) (T : zRt p l e R s m args below meth c cells slots TQ b base ad w tb D cA ret Q) (hof : cd.all zofs = true) {cc : ClassFile.Cond} {o : Int} (hi : (pc, ((.ifCond cc o) : Instr)) ∈ cd)
    (h : zwp (zCall d) own ret (.ifCond cc o) pc ls st mm Q K) : W p l e R s m args below meth c H locs cells slots TQ (F0 m pc la (st.map (zcv ad w))) := by
    obtain ⟨⟨hx, hb, hml, hown, ho⟩, hts, hK, hSt, hAd, hbs, hdk, hTb, hw, hRm, hC⟩ := id X
    have of : zofs (pc, (.ifCond cc o)) = true := List.all_eq_true.mp hof _ hi
    have Tr := T pc la mm H locs S.2.2.1 S.2.2.2.1 S.2.2.2.2
    have hl := S.1.has
    exact zif_ok hx hb S G (by simpa [zofs] using of) (zdk_get hdk hi rfl rfl) h
set_option maxHeartbeats 30000 in
theorem zk_ifnull (X : zCx p l R s m args c cells slots own ml b cd base ad w tb D cA d) (S : zSim s base ad w tb D cA ml ls mm la H locs) (G : zGo p l e R s m args below meth c cells slots TQ ml base ad w tb D cA K) (T : zRt p l e R s m args below meth c cells slots TQ b base ad w tb D cA ret Q) (hof : cd.all zofs = true) {o : Int} (hi : (pc, ((.ifnull o) : Instr)) ∈ cd)
    (h : zwp (zCall d) own ret (.ifnull o) pc ls st mm Q K) : W p l e R s m args below meth c H locs cells slots TQ (F0 m pc la (st.map (zcv ad w))) := by
    obtain ⟨⟨hx, hb, hml, hown, ho⟩, hts, hK, hSt, hAd, hbs, hdk, hTb, hw, hRm, hC⟩ := id X
    have of : zofs (pc, (.ifnull o)) = true := List.all_eq_true.mp hof _ hi
    have Tr := T pc la mm H locs S.2.2.1 S.2.2.2.1 S.2.2.2.2
    have hl := S.1.has
    unfold zwp at h
    dsimp only at h
    split at h
    · exact lv_ifnullN hx hb (zdk_get hdk hi rfl rfl) (ztg_ok pc o (by simpa [zofs] using of)) (G _ _ _ _ _ _ _ h S)
    · rename_i q r
      by_cases hq : q = 18
      · exact h.1.elim hq
      · have g := G _ _ _ _ _ _ _ h.2 S
        rw [List.map_cons, zcv_ne hq]
        exact lv_ifnull hx hb (zdk_get hdk hi rfl rfl) g
    · exact h.elim
set_option maxHeartbeats 30000 in
theorem zk_ifnonnull (X : zCx p l R s m args c cells slots own ml b cd base ad w tb D cA d) (S : zSim s base ad w tb D cA ml ls mm la H locs) (G : zGo p l e R s m args below meth c cells slots TQ ml base ad w tb D cA K) (T : zRt p l e R s m args below meth c cells slots TQ b base ad w tb D cA ret Q) (hof : cd.all zofs = true) {o : Int} (hi : (pc, ((.ifnonnull o) : Instr)) ∈ cd)
    (h : zwp (zCall d) own ret (.ifnonnull o) pc ls st mm Q K) : W p l e R s m args below meth c H locs cells slots TQ (F0 m pc la (st.map (zcv ad w))) := by
    obtain ⟨⟨hx, hb, hml, hown, ho⟩, hts, hK, hSt, hAd, hbs, hdk, hTb, hw, hRm, hC⟩ := id X
    have of : zofs (pc, (.ifnonnull o)) = true := List.all_eq_true.mp hof _ hi
    have Tr := T pc la mm H locs S.2.2.1 S.2.2.2.1 S.2.2.2.2
    have hl := S.1.has
    unfold zwp at h
    dsimp only at h
    split at h
    · exact lv_ifnonnullN hx hb (zdk_get hdk hi rfl rfl) (G _ _ _ _ _ _ _ h S)
    · rename_i q r
      by_cases hq : q = 18
      · exact h.1.elim hq
      · have g := G _ _ _ _ _ _ _ h.2 S
        rw [List.map_cons, zcv_ne hq]
        exact lv_ifnonnull hx hb (zdk_get hdk hi rfl rfl) (ztg_ok pc o (by simpa [zofs] using of)) g
    · exact h.elim
set_option maxHeartbeats 30000 in
theorem zk_tableswitch (X : zCx p l R s m args c cells slots own ml b cd base ad w tb D cA d) (S : zSim s base ad w tb D cA ml ls mm la H locs) (G : zGo p l e R s m args below meth c cells slots TQ ml base ad w tb D cA K) (T : zRt p l e R s m args below meth c cells slots TQ b base ad w tb D cA ret Q) (hof : cd.all zofs = true) {dd : Int} {lo : Int} {hh : Int} {os : Array Int} (hi : (pc, ((.tableswitch dd lo hh os) : Instr)) ∈ cd)
    (h : zwp (zCall d) own ret (.tableswitch dd lo hh os) pc ls st mm Q K) : W p l e R s m args below meth c H locs cells slots TQ (F0 m pc la (st.map (zcv ad w))) := by
    obtain ⟨⟨hx, hb, hml, hown, ho⟩, hts, hK, hSt, hAd, hbs, hdk, hTb, hw, hRm, hC⟩ := id X
    have of : zofs (pc, (.tableswitch dd lo hh os)) = true := List.all_eq_true.mp hof _ hi
    have Tr := T pc la mm H locs S.2.2.1 S.2.2.2.1 S.2.2.2.2
    have hl := S.1.has
    obtain ⟨n, hn⟩ := hdk.2 _ hi rfl
    exact zts_ok hx hb S G of hn h
set_option maxHeartbeats 30000 in
theorem zk_lookupswitch (X : zCx p l R s m args c cells slots own ml b cd base ad w tb D cA d) (S : zSim s base ad w tb D cA ml ls mm la H locs) (G : zGo p l e R s m args below meth c cells slots TQ ml base ad w tb D cA K) (T : zRt p l e R s m args below meth c cells slots TQ b base ad w tb D cA ret Q) (hof : cd.all zofs = true) {dd : Int} {ps : Array (Int × Int)} (hi : (pc, ((.lookupswitch dd ps) : Instr)) ∈ cd)
    (h : zwp (zCall d) own ret (.lookupswitch dd ps) pc ls st mm Q K) : W p l e R s m args below meth c H locs cells slots TQ (F0 m pc la (st.map (zcv ad w))) := by
    obtain ⟨⟨hx, hb, hml, hown, ho⟩, hts, hK, hSt, hAd, hbs, hdk, hTb, hw, hRm, hC⟩ := id X
    have of : zofs (pc, (.lookupswitch dd ps)) = true := List.all_eq_true.mp hof _ hi
    have Tr := T pc la mm H locs S.2.2.1 S.2.2.2.1 S.2.2.2.2
    have hl := S.1.has
    obtain ⟨n, hn⟩ := hdk.2 _ hi rfl
    exact zls_ok hx hb S G of hn h
set_option maxHeartbeats 30000 in
theorem zk_invokevirtual (X : zCx p l R s m args c cells slots own ml b cd base ad w tb D cA d) (S : zSim s base ad w tb D cA ml ls mm la H locs) (G : zGo p l e R s m args below meth c cells slots TQ ml base ad w tb D cA K) (T : zRt p l e R s m args below meth c cells slots TQ b base ad w tb D cA ret Q) (hof : cd.all zofs = true) {idx : Nat} (hi : (pc, ((.invokevirtual idx) : Instr)) ∈ cd)
    (h : zwp (zCall d) own ret (.invokevirtual idx) pc ls st mm Q K) : W p l e R s m args below meth c H locs cells slots TQ (F0 m pc la (st.map (zcv ad w))) := by
    obtain ⟨⟨hx, hb, hml, hown, ho⟩, hts, hK, hSt, hAd, hbs, hdk, hTb, hw, hRm, hC⟩ := id X
    have of : zofs (pc, (.invokevirtual idx)) = true := List.all_eq_true.mp hof _ hi
    have Tr := T pc la mm H locs S.2.2.1 S.2.2.2.1 S.2.2.2.2
    have hl := S.1.has
    exact zinv_ok X S G (virt := true) (zdk_get hdk hi rfl rfl) h
set_option maxHeartbeats 30000 in
theorem zk_invokestatic (X : zCx p l R s m args c cells slots own ml b cd base ad w tb D cA d) (S : zSim s base ad w tb D cA ml ls mm la H locs) (G : zGo p l e R s m args below meth c cells slots TQ ml base ad w tb D cA K) (T : zRt p l e R s m args below meth c cells slots TQ b base ad w tb D cA ret Q) (hof : cd.all zofs = true) {idx : Nat} (hi : (pc, ((.invokestatic idx) : Instr)) ∈ cd)
    (h : zwp (zCall d) own ret (.invokestatic idx) pc ls st mm Q K) : W p l e R s m args below meth c H locs cells slots TQ (F0 m pc la (st.map (zcv ad w))) := by
    obtain ⟨⟨hx, hb, hml, hown, ho⟩, hts, hK, hSt, hAd, hbs, hdk, hTb, hw, hRm, hC⟩ := id X
    have of : zofs (pc, (.invokestatic idx)) = true := List.all_eq_true.mp hof _ hi
    have Tr := T pc la mm H locs S.2.2.1 S.2.2.2.1 S.2.2.2.2
    have hl := S.1.has
    exact zinv_ok X S G (virt := false) (zdk_get hdk hi rfl rfl) h
set_option maxHeartbeats 30000 in
theorem zk_ireturn (X : zCx p l R s m args c cells slots own ml b cd base ad w tb D cA d) (S : zSim s base ad w tb D cA ml ls mm la H locs) (G : zGo p l e R s m args below meth c cells slots TQ ml base ad w tb D cA K) (T : zRt p l e R s m args below meth c cells slots TQ b base ad w tb D cA ret Q) (hof : cd.all zofs = true) (hi : (pc, (.ireturn : Instr)) ∈ cd)
    (h : zwp (zCall d) own ret .ireturn pc ls st mm Q K) : W p l e R s m args below meth c H locs cells slots TQ (F0 m pc la (st.map (zcv ad w))) := by
    obtain ⟨⟨hx, hb, hml, hown, ho⟩, hts, hK, hSt, hAd, hbs, hdk, hTb, hw, hRm, hC⟩ := id X
    have of : zofs (pc, .ireturn) = true := List.all_eq_true.mp hof _ hi
    have Tr := T pc la mm H locs S.2.2.1 S.2.2.2.1 S.2.2.2.2
    have hl := S.1.has
    unfold zwp at h
    dsimp only at h
    split at h
    · exact Tr.1 _ (zdk_get hdk hi rfl rfl) h
    · exact h.elim
set_option maxHeartbeats 30000 in
theorem zk_lreturn (X : zCx p l R s m args c cells slots own ml b cd base ad w tb D cA d) (S : zSim s base ad w tb D cA ml ls mm la H locs) (G : zGo p l e R s m args below meth c cells slots TQ ml base ad w tb D cA K) (T : zRt p l e R s m args below meth c cells slots TQ b base ad w tb D cA ret Q) (hof : cd.all zofs = true) (hi : (pc, (.lreturn : Instr)) ∈ cd)
    (h : zwp (zCall d) own ret .lreturn pc ls st mm Q K) : W p l e R s m args below meth c H locs cells slots TQ (F0 m pc la (st.map (zcv ad w))) := by
    obtain ⟨⟨hx, hb, hml, hown, ho⟩, hts, hK, hSt, hAd, hbs, hdk, hTb, hw, hRm, hC⟩ := id X
    have of : zofs (pc, .lreturn) = true := List.all_eq_true.mp hof _ hi
    have Tr := T pc la mm H locs S.2.2.1 S.2.2.2.1 S.2.2.2.2
    have hl := S.1.has
    unfold zwp at h
    dsimp only at h
    split at h
    · exact Tr.2.1 _ (zdk_get hdk hi rfl rfl) h
    · exact h.elim
set_option maxHeartbeats 30000 in
theorem zk_areturn (X : zCx p l R s m args c cells slots own ml b cd base ad w tb D cA d) (S : zSim s base ad w tb D cA ml ls mm la H locs) (G : zGo p l e R s m args below meth c cells slots TQ ml base ad w tb D cA K) (T : zRt p l e R s m args below meth c cells slots TQ b base ad w tb D cA ret Q) (hof : cd.all zofs = true) (hi : (pc, (.areturn : Instr)) ∈ cd)
    (h : zwp (zCall d) own ret .areturn pc ls st mm Q K) : W p l e R s m args below meth c H locs cells slots TQ (F0 m pc la (st.map (zcv ad w))) := by
    obtain ⟨⟨hx, hb, hml, hown, ho⟩, hts, hK, hSt, hAd, hbs, hdk, hTb, hw, hRm, hC⟩ := id X
    have of : zofs (pc, .areturn) = true := List.all_eq_true.mp hof _ hi
    have Tr := T pc la mm H locs S.2.2.1 S.2.2.2.1 S.2.2.2.2
    have hl := S.1.has
    unfold zwp at h
    dsimp only at h
    split at h
    · exact Tr.2.2.1 _ (zdk_get hdk hi rfl rfl) h
    · exact h.elim
set_option maxHeartbeats 30000 in
theorem zk_return_ (X : zCx p l R s m args c cells slots own ml b cd base ad w tb D cA d) (S : zSim s base ad w tb D cA ml ls mm la H locs) (G : zGo p l e R s m args below meth c cells slots TQ ml base ad w tb D cA K) (T : zRt p l e R s m args below meth c cells slots TQ b base ad w tb D cA ret Q) (hof : cd.all zofs = true) (hi : (pc, (.return_ : Instr)) ∈ cd)
    (h : zwp (zCall d) own ret .return_ pc ls st mm Q K) : W p l e R s m args below meth c H locs cells slots TQ (F0 m pc la (st.map (zcv ad w))) := by
    obtain ⟨⟨hx, hb, hml, hown, ho⟩, hts, hK, hSt, hAd, hbs, hdk, hTb, hw, hRm, hC⟩ := id X
    have of : zofs (pc, .return_) = true := List.all_eq_true.mp hof _ hi
    have Tr := T pc la mm H locs S.2.2.1 S.2.2.2.1 S.2.2.2.2
    have hl := S.1.has
    unfold zwp at h
    dsimp only at h
    split at h
    · exact Tr.2.2.2 (zdk_get hdk hi rfl rfl) h
    · exact h.elim
set_option maxHeartbeats 30000 in
theorem zwp_ok (X : zCx p l R s m args c cells slots own ml b cd base ad w tb D cA d) (S : zSim s base ad w tb D cA ml ls mm la H locs) (G : zGo p l e R s m args below meth c cells slots TQ ml base ad w tb D cA K) (T : zRt p l e R s m args below meth c cells slots TQ b base ad w tb D cA ret Q) (hof : cd.all zofs = true) {i : Instr} (hi : (pc, i) ∈ cd)
    (h : zwp (zCall d) own ret i pc ls st mm Q K) : W p l e R s m args below meth c H locs cells slots TQ (F0 m pc la (st.map (zcv ad w))) := by
  cases i
  case aload_n _ => exact zk_aload_n X S G T hof hi h
  case iload_n _ => exact zk_iload_n X S G T hof hi h
  case lload_n _ => exact zk_lload_n X S G T hof hi h
  case aload _ => exact zk_aload X S G T hof hi h
  case iload _ => exact zk_iload X S G T hof hi h
  case istore_n _ => exact zk_istore_n X S G T hof hi h
  case astore_n _ => exact zk_astore_n X S G T hof hi h
  case istore _ => exact zk_istore X S G T hof hi h
  case astore _ => exact zk_astore X S G T hof hi h
  case iinc _ _ => exact zk_iinc X S G T hof hi h
  case iconst _ => exact zk_iconst X S G T hof hi h
  case bipush _ => exact zk_bipush X S G T hof hi h
  case sipush _ => exact zk_sipush X S G T hof hi h
  case lconst _ => exact zk_lconst X S G T hof hi h
  case getfield _ => exact zk_getfield X S G T hof hi h
  case putfield _ => exact zk_putfield X S G T hof hi h
  case getstatic _ => exact zk_getstatic X S G T hof hi h
  case ldc _ => exact zk_ldc X S G T hof hi h
  case ldc_w _ => exact zk_ldc_w X S G T hof hi h
  case ldc2_w _ => exact zk_ldc2_w X S G T hof hi h
  case iaload => exact zk_iaload X S G T hof hi h
  case baload => exact zk_baload X S G T hof hi h
  case iastore => exact zk_iastore X S G T hof hi h
  case bastore => exact zk_bastore X S G T hof hi h
  case laload => exact zk_laload X S G T hof hi h
  case lastore => exact zk_lastore X S G T hof hi h
  case aaload => exact zk_aaload X S G T hof hi h
  case arraylength => exact zk_arraylength X S G T hof hi h
  case iadd => exact zk_iadd X S G T hof hi h
  case isub => exact zk_isub X S G T hof hi h
  case imul => exact zk_imul X S G T hof hi h
  case iand => exact zk_iand X S G T hof hi h
  case ior => exact zk_ior X S G T hof hi h
  case ixor => exact zk_ixor X S G T hof hi h
  case ishl => exact zk_ishl X S G T hof hi h
  case ishr => exact zk_ishr X S G T hof hi h
  case idiv => exact zk_idiv X S G T hof hi h
  case irem => exact zk_irem X S G T hof hi h
  case iushr => exact zk_iushr X S G T hof hi h
  case ineg => exact zk_ineg X S G T hof hi h
  case i2l => exact zk_i2l X S G T hof hi h
  case i2b => exact zk_i2b X S G T hof hi h
  case i2s => exact zk_i2s X S G T hof hi h
  case i2c => exact zk_i2c X S G T hof hi h
  case l2i => exact zk_l2i X S G T hof hi h
  case land => exact zk_land X S G T hof hi h
  case lor => exact zk_lor X S G T hof hi h
  case lcmp => exact zk_lcmp X S G T hof hi h
  case lshl => exact zk_lshl X S G T hof hi h
  case dup => exact zk_dup X S G T hof hi h
  case dup2 => exact zk_dup2 X S G T hof hi h
  case pop => exact zk_pop X S G T hof hi h
  case goto _ => exact zk_goto X S G T hof hi h
  case if_icmp _ _ => exact zk_if_icmp X S G T hof hi h
  case ifCond _ _ => exact zk_ifCond X S G T hof hi h
  case ifnull _ => exact zk_ifnull X S G T hof hi h
  case ifnonnull _ => exact zk_ifnonnull X S G T hof hi h
  case tableswitch _ _ _ _ => exact zk_tableswitch X S G T hof hi h
  case lookupswitch _ _ => exact zk_lookupswitch X S G T hof hi h
  case invokevirtual _ => exact zk_invokevirtual X S G T hof hi h
  case invokestatic _ => exact zk_invokestatic X S G T hof hi h
  case ireturn => exact zk_ireturn X S G T hof hi h
  case lreturn => exact zk_lreturn X S G T hof hi h
  case areturn => exact zk_areturn X S G T hof hi h
  case return_ => exact zk_return_ X S G T hof hi h
  all_goals exact h.elim
theorem zrun_ok (X : zCx p l R s m args c cells slots own ml b cd base ad w tb D cA d) (T : zRt p l e R s m args below meth c cells slots TQ b base ad w tb D cA ret Q) (hof : cd.all zofs = true) : zGo p l e R s m args below meth c cells slots TQ ml base ad w tb D cA (zRun (zCall d) own ret cd Q) := by
  intro pc ls st mm la H locs h S
  refine h (fun pc ls st mm => ∀ la H locs, zSim s base ad w tb D cA ml ls mm la H locs → W p l e R s m args below meth c H locs cells slots TQ (F0 m pc la (st.map (zcv ad w)))) ?_ la H locs S
  intro pc ls st mm hs la H locs S
  unfold zstep at hs
  split at hs
  · exact hs.elim
  · rename_i k i r hf
    exact zwp_ok X S (fun _ _ _ _ _ _ _ h S => h _ _ _ S) T hof (zfind_mem hf) hs
end ZW
