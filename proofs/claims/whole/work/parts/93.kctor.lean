/-! constructors: what the steps of one do to the world that it makes -/
def kNl : List (String × Nat × MethodName) := [("BoxHedge", 11, ⟨"BoxHedge$Hedge", "<init>", "()V"⟩), ("BoxHedge", 27, ⟨"BoxHedge$Garden", "<init>", "()V"⟩), ("BoxHedge", 30, ⟨"BoxHedge$Reader", "<init>", "()V"⟩), ("BoxHedge", 46, ⟨"BoxHedge$Acts", "<init>", "()V"⟩), ("BoxHedge", 57, ⟨"BoxHedge$Tape", "<init>", "()V"⟩), ("BoxHedge$Questions", 11, ⟨"BoxHedge$Hedge", "<init>", "()V"⟩), ("BoxHedge$Questions", 20, ⟨"BoxHedge$Hearing", "<init>", "()V"⟩)]
def kNs (U : State) : Prop := (∀ q ∈ kNl, va_Nw (.methodLinkNest q.1 q.2.1 q.2.2 "BoxHedge") U) ∧ va_AO "BoxHedge$Garden" U ∧ va_AO "BoxHedge$Tape" U
theorem kNs.warm {s U : State} (hW : s.WarmedH U.vm) (h : kNs s) : kNs U := ⟨fun q hq => (h.1 q hq).warmM hW, h.2.1.moved hW.alike, h.2.2.moved hW.alike⟩
theorem kNs.same {u U : State} (h : kNs u) (hv : u.vm = U.vm) : kNs U := ⟨fun q hq => va_Nw.same rfl hv (h.1 q hq), h.2.1.moved (hv ▸ Vm.Alike.refl u.vm), h.2.2.moved (hv ▸ Vm.Alike.refl u.vm)⟩
/-- the world that stands, and what has been written -/
def kS (D : va_G) (A : Nat → Prop) (s : State) (ws : va_W) (H : Heap) (locs : List Loc) : Prop := va_P D vwCl ws H ∧ va_D A ws ∧ va_S A s.heap H locs
def kEn (p : Program) (s : State) (m : MethodId) (args : Array Value) (c : Code) (cc : ByteArray) (ml : Nat) (own : String) (base : Nat) (ad : Nat → Nat) (w : Value) (tb : Nat → Nat → Int32) (D : va_G) (cA : Nat → ClassId) (A : Nat → Prop) : Prop :=
  (p.tables.exec = Jvm.exec ∧ c.code = cc ∧ c.maxLocals = ml ∧ s.vm.findClass own = some m.cls) ∧ (∀ x ∈ zgood, x.before args s = true) ∧ va_K D vwCl (ztys cA) s ∧ zSt base ad w tb s s.heap ∧ kNs s ∧ base ≤ s.heap.size ∧ (∀ q, s.heap.size ≤ q → A q) ∧ ∀ q, A q → base ≤ q
def kPc (base : Nat) (ad : Nat → Nat) (w : Value) (tb : Nat → Nat → Int32) (D : va_G) (cA : Nat → ClassId) (ws : va_W) (as : List Value) (sz : Nat) : Array Value → State → Prop := fun v U =>
  v = as.toArray ∧ U.heap.size = sz ∧ va_P D vwCl ws U.heap ∧ va_D (zA base) ws ∧ va_K D vwCl (ztys cA) U ∧ zSt base ad w tb U U.heap ∧ kNs U ∧ base ≤ U.heap.size
def kQc (D : va_G) (ws : va_W) (sz : Nat) (W1 : (Nat → Nat) → va_W) (h0 : Nat) : Array Value → State → Outcome → State → Prop :=
  va_Qv (S := Nat → Nat) (fun a => a 0 = h0) (fun a t => va_P D vwCl (W1 a) t.heap ∧ va_D (va_A ws sz) (W1 a)) (va_A ws sz)
/-- a constructor's contract: from a fresh object to the world W1 -/
def kMet (l : Launch) (base : Nat) (ad : Nat → Nat) (w : Value) (tb : Nat → Nat → Int32) (D : va_G) (cA : Nat → ClassId) (ci : Nat) (fs0 : List Value) (y : MethodName) (cc : ByteArray) (ml : Nat) (as : List Value) (fr lo mc ms : Nat) (W1 : (Nat → Nat) → va_W) : Prop :=
  ∀ h0 sz : Nat, Met l y (Cond.code y cc ml none :: zgood) { frames := fr, cells := mc, slots := ms, locals := lo } (kPc base ad w tb D cA [(h0, .inr (ci, fs0))] (.ref h0 :: as) sz) (kQc D [(h0, .inr (ci, fs0))] sz W1 h0) mc ms (va_A [(h0, .inr (ci, fs0))] sz)
theorem kblind {base : Nat} {ad : Nat → Nat} {w : Value} {tb : Nat → Nat → Int32} {D : va_G} {cA : Nat → ClassId} {ws : va_W} {as : List Value} {sz : Nat} : FrameBlind (kPc base ad w tb D cA ws as sz) := by
  intro a U g mk ⟨q1, q2, q3, q4, q5, q6, q7, q8⟩
  exact ⟨q1, q2, q3, q4, va_K.moved (u := U) (U := U.calling g mk a) (Vm.Alike.refl U.vm) q5, zSt.same (u := U) q6 rfl, kNs.same (u := U) q7 rfl, q8⟩
theorem kfs {N : Nat} {ty : Nat → FieldType} {fs : List Value} (h : (List.range N).map (fun j => defaultValue (ty j)) = fs) : ∀ j, j < N → defaultValue (ty j) = vp_V fs j := fun j hj => by
  subst h
  unfold vp_V
  rw [List.getD_eq_getElem?_getD, List.getElem?_map, List.getElem?_range hj]
  rfl
theorem kat {α : Type} (l : List α) (x : α) : (l ++ [x])[l.length]? = some x := by rw [List.getElem?_append_right (Nat.le_refl _), Nat.sub_self]; rfl
theorem kset {α : Type} (l : List α) (x y : α) : (l ++ [x]).set l.length y = l ++ [y] := by rw [List.set_append_right _ _ (Nat.le_refl _), Nat.sub_self]; rfl
/-- what is seen of an array are its elements -/
theorem kcell {k : ClassId} {n : Nat} {f g : Nat → Int32} (h : ∀ j, j < n → f j = g j) : vp_cell k (n, .inl f) = vp_cell k (n, .inl g) := by
  show arrV k n (fun j => .int (f j)) = arrV k n (fun j => .int (g j))
  unfold arrV
  congr 1
  exact congrArg Array.ofFn (funext fun j => by dsimp only; rw [h j.val j.isLt])
theorem kcellR {k : ClassId} {n : Nat} {f g : Nat → Option Nat} (h : ∀ j, j < n → f j = g j) : vp_cell k (n, .inr (.inr (.inr (.inr f)))) = vp_cell k (n, .inr (.inr (.inr (.inr g)))) := by
  show arrV k n (fun j => va_rf (f j)) = arrV k n (fun j => va_rf (g j))
  unfold arrV
  congr 1
  exact congrArg Array.ofFn (funext fun j => by dsimp only; rw [h j.val j.isLt])
section KC
variable {p : Program} {l : Launch} {e : Env} {R : Room} {s : State} {m : MethodId} {args : Array Value} {below : List Frame} {meth : Method} {c : Code} {H : Heap} {locs : List Loc} {cells slots : Nat} {Q : State → Prop}
variable {cc : ByteArray} {ml : Nat} {own : String} {pc : Nat} {ls : Array Slot} {rest : List Value} {base : Nat} {ad : Nat → Nat} {w : Value} {tb : Nat → Nat → Int32} {D : va_G} {cA : Nat → ClassId} {A : Nat → Prop} {ws L : va_W} {h0 : Nat} {o : va_E}
theorem kn_newa (X : kEn p s m args c cc ml own base ad w tb D cA A) (i : Nat) {ty : FieldType} {atype : ArrayType} (hty : newarray.typeOf atype = ty) (hw : Cond.arrayClass ty ∈ zgood) (hi : (ztys cA)[i]? = some (cA i, ty)) (hr : ∀ (U : State) (k : ClassId), va_RA U k ty → U.vm.findClass ("[" ++ ty.toString) = some k) (S : kS D A s ((h0, o) :: L) H locs)
    {n : Int32} {N : Nat} {a0 : vp_A} (ha : ∀ k : ClassId, vp_cell k a0 = arrV k N (fun _ => defaultValue ty)) (hn : ¬ n < 0) (hN : n.toNatClampNeg = N) (hbytes : N * componentBytes ty ≤ 536870912) (hcells : cells + 1 ≤ R.cells) (hslots : slots + N ≤ R.slots) (hdg : decode cc pc = .ok (.newarray atype, 2))
    (kk : ∀ (q : Nat) (H1 : Heap), kS D A s ((h0, o) :: (L ++ [(q, .inl (cA i, a0))])) H1 locs → W p l e R s m args below meth c H1 locs (cells + 1) (slots + N) Q (F0 m (pc + 2) ls (.ref q :: rest))) : W p l e R s m args below meth c H locs cells slots Q (F0 m pc ls (.int n :: rest)) := by
  obtain ⟨⟨hx, hb, hml, hown⟩, hts, hK, -, -, -, hA, -⟩ := X
  obtain ⟨hP, hD, hS⟩ := S
  subst hty
  refine va_newa hx hb (hts _ hw) rfl hK hP hD hS hA ha hn hN hbytes hcells hslots hdg (fun q k H1 hK1 hP1 hD1 hS1 => ?_)
  have e1 := hr s k ((hK1.2 (ztys cA).length (k, _) (kat _ _)).2)
  have e2 := hr s (cA i) ((hK.2 i _ hi).2)
  have e3 : k = cA i := Option.some.inj (e1.symm.trans e2)
  subst e3
  exact kk q H1 ⟨hP1, hD1, hS1⟩
theorem kn_newq (X : kEn p s m args c cc ml own base ad w tb D cA A) (i : Nat) {C : String} {index : Nat} (hcl : Cond.classLink own index C ∈ zgood) (hAO : va_AO C s) (hi : (ztys cA)[i]? = some (cA i, .object C)) (S : kS D A s ((h0, o) :: L) H locs)
    {n : Int32} {N : Nat} (hn : ¬ n < 0) (hN : n.toNatClampNeg = N) (hbytes : N * 4 ≤ 536870912) (hcells : cells + 1 ≤ R.cells) (hslots : slots + N ≤ R.slots) (hdg : decode cc pc = .ok (.anewarray index, 3))
    (kk : ∀ (q : Nat) (H1 : Heap), kS D A s ((h0, o) :: (L ++ [(q, .inl (cA i, N, .inr (.inr (.inr (.inr (fun _ => none))))))])) H1 locs → W p l e R s m args below meth c H1 locs (cells + 1) (slots + N) Q (F0 m (pc + 3) ls (.ref q :: rest))) : W p l e R s m args below meth c H locs cells slots Q (F0 m pc ls (.int n :: rest)) := by
  obtain ⟨⟨hx, hb, hml, hown⟩, hts, hK, -, -, -, hA, -⟩ := X
  obtain ⟨hP, hD, hS⟩ := S
  refine va_newq hx hb hown (hts _ hcl) hAO hK hP hD hS hA hn hN hbytes hcells hslots hdg (fun q k H1 hK1 hP1 hD1 hS1 => ?_)
  obtain ⟨_, _, _, _, _, e1⟩ := (hK1.2 (ztys cA).length (k, _) (kat _ _)).2
  obtain ⟨_, _, _, _, _, e2⟩ := (hK.2 i _ hi).2
  have e3 : k = cA i := Option.some.inj (e1.symm.trans e2)
  subst e3
  exact kk q H1 ⟨hP1, hD1, hS1⟩
theorem kn_new (X : kEn p s m args c cc ml own base ad w tb D cA A) {C : String} {T : u_T} {N ci index : Nat} (hin : ∀ x ∈ u_ws C T N, x ∈ zgood) (ty : Nat → FieldType) (hty : ∀ k, k < N → parseFieldDescriptor (T k).2.2.1 = some (ty k)) (hcl : Cond.classLink own index C ∈ zgood) (hinst : Cond.instantiable C N ∈ zgood) (hini : Cond.initialized C ∈ zgood) (hc : vwCl[ci]? = some (C, T, N)) (S : kS D A s ws H locs)
    {fs : List Value} (hfs : (List.range N).map (fun j => defaultValue (ty j)) = fs) (hcells : cells + 1 ≤ R.cells) (hslots : slots + N ≤ R.slots) (hdg : decode cc pc = .ok (.new index, 3))
    (kk : ∀ (q : Nat) (H1 : Heap), kS D A s (ws ++ [(q, .inr (ci, fs))]) H1 locs → W p l e R s m args below meth c H1 locs (cells + 1) (slots + N) Q (F0 m (pc + 3) ls (.ref q :: rest))) : W p l e R s m args below meth c H locs cells slots Q (F0 m pc ls rest) := by
  obtain ⟨⟨hx, hb, hml, hown⟩, hts, hK, -, -, -, hA, -⟩ := X
  obtain ⟨hP, hD, hS⟩ := S
  exact va_new hx hb hts hin ty hty hown (hts _ hcl) (hts _ hinst) (hts _ hini) hK hP hD hS hA hc (kfs hfs) hcells hslots hdg (fun q H1 hP1 hD1 hS1 => kk q H1 ⟨hP1, hD1, hS1⟩)
theorem kn_putF (X : kEn p s m args c cc ml own base ad w tb D cA A) (hin2 : meth.name = "<init>") {C : String} {T : u_T} {N ci index : Nat} (hin : ∀ x ∈ u_ws C T N, x ∈ zgood) (ty : Nat → FieldType) (hty : ∀ k, k < N → parseFieldDescriptor (T k).2.2.1 = some (ty k)) (hnm : ∀ a, a < N → ∀ b, b < N → a ≠ b → (T a).2.1 ≠ (T b).2.1) (hc : vwCl[ci]? = some (C, T, N)) {fs : List Value} (S : kS D A s ((h0, .inr (ci, fs)) :: L) H locs)
    (k : Nat) (hk : k < N) (hlink : Cond.fieldLink own index (T k).1 (T k).2.1 (T k).2.2.1 ∈ zgood) (hfin : (T k).2.2.2 = true) (hdecl : (T k).1 = own) {v : Value} (hn : narrow (ty k) v = v) (hfit : fits (ty k) v = true) (hl : k < fs.length) (hdg : decode cc pc = .ok (.putfield index, 3))
    (kk : ∀ (H1 : Heap) (locs1 : List Loc), kS D A s ((h0, .inr (ci, fs.set k v)) :: L) H1 locs1 → W p l e R s m args below meth c H1 locs1 cells slots Q (F0 m (pc + 3) ls rest)) : W p l e R s m args below meth c H locs cells slots Q (F0 m pc ls (v :: .ref h0 :: rest)) := by
  obtain ⟨⟨hx, hb, hml, hown⟩, hts, hK, -, -, -, hA, -⟩ := X
  obtain ⟨hP, hD, hS⟩ := S
  exact va_putF hx hb hts hin ty hty hnm hown hK hP hD hS 0 rfl hc k hk (hts _ hlink) (fun _ h9 => h9) hfin hin2 hdecl (hty k hk) hn hfit hl hdg (fun H1 locs1 hP1 hD1 hS1 => kk H1 locs1 ⟨hP1, hD1, hS1⟩)
theorem kn_put (X : kEn p s m args c cc ml own base ad w tb D cA A) {C : String} {T : u_T} {N ci index : Nat} (hin : ∀ x ∈ u_ws C T N, x ∈ zgood) (ty : Nat → FieldType) (hty : ∀ k, k < N → parseFieldDescriptor (T k).2.2.1 = some (ty k)) (hnm : ∀ a, a < N → ∀ b, b < N → a ≠ b → (T a).2.1 ≠ (T b).2.1) (hc : vwCl[ci]? = some (C, T, N)) {fs : List Value} (S : kS D A s ((h0, .inr (ci, fs)) :: L) H locs)
    (k : Nat) (hk : k < N) (hlink : Cond.fieldLink own index (T k).1 (T k).2.1 (T k).2.2.1 ∈ zgood) (hfin : (T k).2.2.2 = false) {v : Value} (hn : narrow (ty k) v = v) (hfit : fits (ty k) v = true) (hl : k < fs.length) (hdg : decode cc pc = .ok (.putfield index, 3))
    (kk : ∀ (H1 : Heap) (locs1 : List Loc), kS D A s ((h0, .inr (ci, fs.set k v)) :: L) H1 locs1 → W p l e R s m args below meth c H1 locs1 cells slots Q (F0 m (pc + 3) ls rest)) : W p l e R s m args below meth c H locs cells slots Q (F0 m pc ls (v :: .ref h0 :: rest)) := by
  obtain ⟨⟨hx, hb, hml, hown⟩, hts, hK, -, -, -, hA, -⟩ := X
  obtain ⟨hP, hD, hS⟩ := S
  exact va_put hx hb hts hin ty hty hnm hown hK hP hD hS 0 rfl hc k hk (hts _ hlink) (fun _ h9 => h9) hfin (hty k hk) hn hfit hl hdg (fun H1 locs1 hP1 hD1 hS1 => kk H1 locs1 ⟨hP1, hD1, hS1⟩)
theorem kn_get (X : kEn p s m args c cc ml own base ad w tb D cA A) {C : String} {T : u_T} {N ci index : Nat} (hin : ∀ x ∈ u_ws C T N, x ∈ zgood) (hc : vwCl[ci]? = some (C, T, N)) {fs : List Value} (S : kS D A s ((h0, .inr (ci, fs)) :: L) H locs)
    (k : Nat) (hk : k < N) (hlink : Cond.fieldLink own index (T k).1 (T k).2.1 (T k).2.2.1 ∈ zgood) {v : Value} (hv : fs[k]? = some v) (hdg : decode cc pc = .ok (.getfield index, 3))
    (kk : W p l e R s m args below meth c H locs cells slots Q (F0 m (pc + 3) ls (v :: rest))) : W p l e R s m args below meth c H locs cells slots Q (F0 m pc ls (.ref h0 :: rest)) := by
  obtain ⟨⟨hx, hb, hml, hown⟩, hts, hK, -, -, -, hA, -⟩ := X
  obtain ⟨hP, hD, hS⟩ := S
  exact va_get hx hb hts hin hown hK hP 0 rfl hc k hk (hts _ hlink) (fun _ h9 => h9) hv hdg kk
theorem kn_iast (X : kEn p s m args c cc ml own base ad w tb D cA A) {q n : Nat} {f : Nat → Int32} (S : kS D A s ((h0, o) :: (L ++ [(q, .inl (cA 0, n, .inl f))])) H locs) {i x : Int32} (hi : vp_in i n) (hdg : decode cc pc = .ok (.iastore, 1))
    (kk : ∀ (H1 : Heap) (locs1 : List Loc), kS D A s ((h0, o) :: (L ++ [(q, .inl (cA 0, n, .inl (upd f i.toNatClampNeg x)))])) H1 locs1 → W p l e R s m args below meth c H1 locs1 cells slots Q (F0 m (pc + 1) ls rest)) : W p l e R s m args below meth c H locs cells slots Q (F0 m pc ls (.int x :: .int i :: .ref q :: rest)) := by
  obtain ⟨⟨hx, hb, hml, hown⟩, hts, hK, -, -, -, hA, -⟩ := X
  obtain ⟨hP, hD, hS⟩ := S
  refine va_iast hx hb hK hP hD hS (L.length + 1) 0 (kat L _) rfl hi hdg (fun H1 locs1 hP1 hD1 hS1 => kk H1 locs1 ⟨?_, ?_, hS1⟩)
  · rw [List.set_cons_succ, kset] at hP1
    exact hP1
  · rw [List.set_cons_succ, kset] at hD1
    exact hD1
theorem kn_astq (X : kEn p s m args c cc ml own base ad w tb D cA A) (S : kS D A s ((h0, o) :: L) H locs) (q0 t0 qk ci : Nat) {r : vw_C} {a n v : Nat} {vs : List Value} {f : Nat → Option Nat} (ha : L[q0]? = some (a, .inl (cA t0, n, .inr (.inr (.inr (.inr f)))))) (ht : (ztys cA)[t0]? = some (cA t0, .object r.1)) (hv : L[qk]? = some (v, .inr (ci, vs))) (hc : vwCl[ci]? = some r) {i : Int32} (hi : vp_in i n) (hdg : decode cc pc = .ok (.aastore, 1))
    (kk : ∀ (H1 : Heap) (locs1 : List Loc), kS D A s ((h0, o) :: L.set q0 (a, .inl (cA t0, n, .inr (.inr (.inr (.inr (va_up f i.toNatClampNeg (some v)))))))) H1 locs1 → W p l e R s m args below meth c H1 locs1 cells slots Q (F0 m (pc + 1) ls rest)) : W p l e R s m args below meth c H locs cells slots Q (F0 m pc ls (.ref v :: .int i :: .ref a :: rest)) := by
  obtain ⟨⟨hx, hb, hml, hown⟩, hts, hK, -, -, -, hA, -⟩ := X
  obtain ⟨hP, hD, hS⟩ := S
  exact va_astq hx hb hK hP hD hS (q0 + 1) t0 (qk + 1) ci ha ht hv hc hi hdg (fun H1 locs1 hP1 hD1 hS1 => kk H1 locs1 ⟨hP1, hD1, hS1⟩)
/-- the caller's world beside what a constructor made -/
theorem kjoin {wr w1 : va_W} {q : Nat} {x : va_E} {H1 : Heap} (hP : va_P D vwCl (wr ++ [(q, x)]) H) (hD : va_D A (wr ++ [(q, x)])) (hk : ∀ y : Nat, y < H.size → ¬ va_A [(q, x)] H.size y → H1[y]? = H[y]?) (hF : ∀ y, va_A [(q, x)] H.size y → A y) (hP1 : va_P D vwCl w1 H1) (hD1 : va_D (va_A [(q, x)] H.size) w1) : va_P D vwCl (wr ++ w1) H1 ∧ va_D A (wr ++ w1) := by
  have up : ∀ (k : Nat) (y : Nat × va_E), wr[k]? = some y → k < wr.length ∧ (wr ++ [(q, x)])[k]? = some y := fun k y hy => by
    have hl := (List.getElem?_eq_some_iff.mp hy).1
    exact ⟨hl, by rw [List.getElem?_append_left hl]; exact hy⟩
  have apart : ∀ (k : Nat) (y : Nat × va_E), wr[k]? = some y → y.1 < H.size ∧ ¬ va_A [(q, x)] H.size y.1 := by
    intro k y hy
    obtain ⟨h1, h2⟩ := up k y hy
    have hl := (hP k y h2).lt
    refine ⟨hl, fun h => ?_⟩
    rcases h with ⟨j, e2, h⟩ | h
    · have hj : j < 1 := (List.getElem?_eq_some_iff.mp h).1
      rw [show j = 0 by omega] at h
      cases h
      have := hD.1 k wr.length y (y.1, x) h2 (kat wr _) rfl
      omega
    · omega
  refine ⟨va_P.app (fun k y hy => ?_) hP1, va_D.app ⟨fun i j x y hx hy hxy => hD.1 i j x y (up i x hx).2 (up j y hy).2 hxy, fun k y hy => hD.2 k y (up k y hy).2⟩ (hD1.weaken (fun k y _ h => hF y.1 h)) (fun i j x y hx hy hxy => (apart i x hx).2 (by rw [hxy]; exact hD1.2 j y hy))⟩
  obtain ⟨g1, g2⟩ := apart k y hy
  exact (hP k y (up k y hy).2).kept (hk y.1 g1 g2)
theorem kfree {wr : va_W} {q : Nat} {x : va_E} (X : kEn p s m args c cc ml own base ad w tb D cA A) (S : kS D A s (wr ++ [(q, x)]) H locs) : ∀ y, va_A [(q, x)] H.size y → A y := by
  obtain ⟨-, -, -, -, -, -, hA, -⟩ := X
  obtain ⟨hP, hD, hS⟩ := S
  intro y h
  rcases h with ⟨j, e2, h⟩ | h
  · have hj : j < 1 := (List.getElem?_eq_some_iff.mp h).1
    rw [show j = 0 by omega] at h
    have e1 : q = y := congrArg Prod.fst (Option.some.inj h)
    rw [← e1]
    exact hD.2 wr.length (q, x) (kat wr _)
  · exact hA y (Nat.le_trans hS.1 h)
/-- what a called constructor finds -/
theorem kpre {wr : va_W} {q ci : Nat} {fs0 as : List Value} (X : kEn p s m args c cc ml own base ad w tb D cA A) (S : kS D A s (wr ++ [(q, .inr (ci, fs0))]) H locs) : ∀ U : State, U.heap = H → s.WarmedH U.vm → kPc base ad w tb D cA [(q, .inr (ci, fs0))] (.ref q :: as) H.size (Value.ref q :: as).toArray U := by
  obtain ⟨-, hts, hK, hSt, hN, hbs, hA, hAb⟩ := X
  obtain ⟨hP, hD, hS⟩ := S
  intro U hU hW
  have one : ∀ (k : Nat) (y : Nat × va_E), [(q, (.inr (ci, fs0) : va_E))][k]? = some y → (wr ++ [(q, .inr (ci, fs0))])[wr.length + k]? = some y := fun k y hy => by
    rw [List.getElem?_append_right (Nat.le_add_right _ _), Nat.add_sub_cancel_left]
    exact hy
  refine ⟨rfl, by rw [hU], by rw [hU]; exact fun k y hy => hP _ y (one k y hy), ⟨fun i j x y hx hy hxy => by have := hD.1 _ _ x y (one i x hx) (one j y hy) hxy; omega, fun k y hy => hAb _ (hD.2 _ y (one k y hy))⟩, va_K.moved hW.alike hK, hSt.warm hW (fun a ha hn => by rw [hU]; exact hS.2.1 a ha (fun z => hn (hAb a z))), hN.warm hW, by rw [hU]; exact Nat.le_trans hbs hS.1⟩
/-- a nest mate's constructor is called -/
theorem kn_callN {wr : va_W} {q ci : Nat} {fs0 as : List Value} {y : MethodName} {c2 : ByteArray} {ml2 fr lo mc ms index : Nat} {W1 : (Nat → Nat) → va_W} (X : kEn p s m args c cc ml own base ad w tb D cA A) (hM : kMet l base ad w tb D cA ci fs0 y c2 ml2 as fr lo mc ms W1) (hcd : Cond.code y c2 ml2 none ∈ zgood) (hini : Cond.initialized y.cls ∈ zgood) (hlk : (own, index, y) ∈ kNl) (him : Cond.instanceMethod y ∈ zgood) (hy : y.name = "<init>")
    (hd : y.cls ≠ "java/lang/invoke/MethodHandle" ∧ y.cls ≠ "java/lang/invoke/VarHandle" ∧ (parseMethodDescriptor y.desc).map (fun d => d.parameters.length) = some as.length) (hR : fr + 1 ≤ R.frames ∧ 8 + (ml2 + 11) + lo ≤ R.locals) (S : kS D A s (wr ++ [(q, .inr (ci, fs0))]) H locs) (hls : ls.size = ml) (hst : (rest.map fun v => v.category).sum ≤ 8) (hdg : decode cc pc = .ok (.invokespecial index, 3)) (hf : cells + mc ≤ R.cells ∧ slots + ms ≤ R.slots)
    (kk : ∀ (a : Nat → Nat) (H1 : Heap) (locs1 : List Loc), a 0 = q → kS D A s (wr ++ W1 a) H1 locs1 → W p l e R s m args below meth c H1 locs1 (cells + mc) (slots + ms) Q (F0 m (pc + 3) ls rest)) : W p l e R s m args below meth c H locs cells slots Q (F0 m pc ls (as.reverse ++ .ref q :: rest)) := by
  have hFc := kfree X S
  have hpre := kpre (as := as) X S
  obtain ⟨⟨hx, hb, hml, hown⟩, hts, hK, hSt, hN, hbs, hA, hAb⟩ := X
  obtain ⟨hP, hD, hS⟩ := S
  refine va_callv (va_runIN (As := as) (rest := rest) (n := as.length) ⟨hx, hb, hml, hown, hts⟩ (hM q H.size) ⟨va_cnB as.length hts (zgoodIn _ (fun x hx => ?_)) rfl rfl rfl (hN.1 _ hlk) (hts _ hini) hd hR, hy, hts _ him⟩ ⟨kblind, hpre⟩ rfl rfl hls rfl (lv_room hst) hdg hf) hS (fun q _ h => hFc q h) hFc (fun u t H1 locs1 ht hvm hw hB hz1 hk1 hS1 => ?_)
  · rcases List.mem_cons.mp hx with rfl | hx
    · exact hcd
    · exact hx
  · obtain ⟨hP1, hD1⟩ := hB
    rw [ht] at hP1
    obtain ⟨hP2, hD2⟩ := kjoin hP hD hk1 hFc hP1 hD1
    exact kk u H1 locs1 hw ⟨hP2, hD2, hS1⟩
/-- a constructor that others may call too -/
theorem kn_callI {wr : va_W} {q ci : Nat} {fs0 as : List Value} {y : MethodName} {c2 : ByteArray} {ml2 fr lo mc ms index : Nat} {W1 : (Nat → Nat) → va_W} (X : kEn p s m args c cc ml own base ad w tb D cA A) (hM : kMet l base ad w tb D cA ci fs0 y c2 ml2 as fr lo mc ms W1) (hcd : Cond.code y c2 ml2 none ∈ zgood) (hini : Cond.initialized y.cls ∈ zgood) (hlk : Cond.methodLink own index y ∈ zgood) (him : Cond.instanceMethod y ∈ zgood) (hy : y.name = "<init>")
    (hd : y.cls ≠ "java/lang/invoke/MethodHandle" ∧ y.cls ≠ "java/lang/invoke/VarHandle" ∧ (parseMethodDescriptor y.desc).map (fun d => d.parameters.length) = some as.length) (hR : fr + 1 ≤ R.frames ∧ 8 + (ml2 + 11) + lo ≤ R.locals) (S : kS D A s (wr ++ [(q, .inr (ci, fs0))]) H locs) (hls : ls.size = ml) (hst : (rest.map fun v => v.category).sum ≤ 8) (hdg : decode cc pc = .ok (.invokespecial index, 3)) (hf : cells + mc ≤ R.cells ∧ slots + ms ≤ R.slots)
    (kk : ∀ (a : Nat → Nat) (H1 : Heap) (locs1 : List Loc), a 0 = q → kS D A s (wr ++ W1 a) H1 locs1 → W p l e R s m args below meth c H1 locs1 (cells + mc) (slots + ms) Q (F0 m (pc + 3) ls rest)) : W p l e R s m args below meth c H locs cells slots Q (F0 m pc ls (as.reverse ++ .ref q :: rest)) := by
  have hFc := kfree X S
  have hpre := kpre (as := as) X S
  obtain ⟨⟨hx, hb, hml, hown⟩, hts, hK, hSt, hN, hbs, hA, hAb⟩ := X
  obtain ⟨hP, hD, hS⟩ := S
  refine va_callv (va_runI (As := as) (rest := rest) (n := as.length) ⟨hx, hb, hml, hown, hts⟩ (hM q H.size) (cwI as.length hts (zgoodIn _ (fun x hx => ?_)) rfl rfl rfl (hts _ hini) (hts _ hlk) (hts _ him) hy hd hR) ⟨kblind, hpre⟩ rfl rfl hls rfl (lv_room hst) hdg hf) hS (fun q _ h => hFc q h) hFc (fun u t H1 locs1 ht hvm hw hB hz1 hk1 hS1 => ?_)
  · rcases List.mem_cons.mp hx with rfl | hx
    · exact hcd
    · exact hx
  · obtain ⟨hP1, hD1⟩ := hB
    rw [ht] at hP1
    obtain ⟨hP2, hD2⟩ := kjoin hP hD hk1 hFc hP1 hD1
    exact kk u H1 locs1 hw ⟨hP2, hD2, hS1⟩
theorem kn_obj (X : kEn p s m args c cc ml own base ad w tb D cA A) {index : Nat} (hlk : Cond.methodLink own index Lib.objectInit ∈ zgood) (him : Cond.instanceMethod Lib.objectInit ∈ zgood) (hcd : Cond.code Lib.objectInit ⟨#[0xb1]⟩ 1 none ∈ zgood) (hls : ls.size = ml) {a : Nat} (hdg : decode cc pc = .ok (.invokespecial index, 3)) (hf : 1 ≤ R.frames) (hlo : 12 + (rest.map fun v => v.category).sum ≤ R.locals)
    (kk : W p l e R s m args below meth c H locs cells slots Q (F0 m (pc + 3) ls rest)) : W p l e R s m args below meth c H locs cells slots Q (F0 m pc ls (.ref a :: rest)) := by
  obtain ⟨⟨hx, hb, hml, hown⟩, hts, hK, hSt, hN, hbs, hA, hAb⟩ := X
  refine W.objInit hx hb hown (hts _ hlk) (hts _ him) (hts _ hcd) rfl (hls.trans hml.symm) rfl hdg hf ?_ ?_
  · show 2 * 0 + (rest.map fun v => v.category).sum + 12 ≤ R.locals
    omega
  · exact W.eq (g2 := F0 m (pc + 3) ls rest) rfl kk
/-- a constructor begins -/
theorem kstart {y : MethodName} {ci sz : Nat} {fs0 as : List Value} {rm : Room} {s₁ : State} (B : BodyLoose p l y (headSpec (Cond.code y cc ml none :: zgood) rm) cc ml none e s m args below meth c s₁) (hml : c.maxLocals = ml) (hv : kPc base ad w tb D cA [(h0, .inr (ci, fs0))] as sz args s) :
    args = as.toArray ∧ kEn p s m args c cc ml y.cls base ad w tb D cA (va_A [(h0, .inr (ci, fs0))] sz) ∧ kS D (va_A [(h0, .inr (ci, fs0))] sz) s [(h0, .inr (ci, fs0))] s.heap [] ∧ meth.sig.returnType = none ∧ meth.locks = false ∧ meth.name = y.name := by
  obtain ⟨h1, h2, hP, hD, hK, hSt, hN, hbs⟩ := hv
  have hts := atoms_spec (ws := Cond.code y cc ml none :: zgood) B.pre
  have hown : s.vm.findClass y.cls = some m.cls := findClass_of_methodNamed B.named
  refine ⟨h1, ⟨⟨B.exec, B.bytes, hml, hown⟩, fun x h => hts x (List.mem_cons_of_mem _ h), hK, hSt, hN, hbs, fun q h => Or.inr (by rw [← h2]; exact h), fun q h => ?_⟩, ⟨hP, hD.self, va_S.rf⟩, B.returns, B.notSynchronized, (name_of_methodNamed B.named B.method).1⟩
  rcases h with ⟨k, e2, h⟩ | h
  · exact hD.2 k _ h
  · omega
/-- a constructor ends -/
theorem kn_ret (X : kEn p s m args c cc ml own base ad w tb D cA A) (hr : meth.sig.returnType = none) (hlocks : meth.locks = false) {w0 : va_W} {sz : Nat} {W1 : (Nat → Nat) → va_W} (hAe : va_A w0 sz = A) (S : kS D A s ws H locs) (a : Nat → Nat) (ha : a 0 = h0) (hw : va_P D vwCl ws H → va_P D vwCl (W1 a) H) (hw2 : ws.map Prod.fst = (W1 a).map Prod.fst) {mc ms : Nat} (hc : cells ≤ mc) (hs : slots ≤ ms) (hdg : decode cc pc = .ok (.return_, 1)) :
    W p l e R s m args below meth c H locs cells slots (MQ below (kQc D w0 sz W1 h0) args s mc ms (va_A w0 sz)) (F0 m pc ls []) := by
  obtain ⟨⟨hx, hb, hml, hown⟩, hts, hK, hSt, hN, hbs, hA, hAb⟩ := X
  obtain ⟨hP, hD, hS⟩ := S
  refine W.widen hc hs ?_
  subst hAe
  have key : ∀ (k : Nat) (y : Nat × va_E), (W1 a)[k]? = some y → ∃ z, ws[k]? = some z ∧ z.1 = y.1 := fun k y hy => by
    have h1 : ((W1 a).map Prod.fst)[k]? = some y.1 := by rw [List.getElem?_map, hy]; rfl
    rw [← hw2, List.getElem?_map] at h1
    cases hz : ws[k]? with
    | none => rw [hz] at h1; cases h1
    | some z => rw [hz] at h1; exact ⟨z, rfl, Option.some.inj h1⟩
  have hD2 : va_D (va_A w0 sz) (W1 a) := ⟨fun i j x y hx hy hxy => by
    obtain ⟨x', h1, h2⟩ := key i x hx
    obtain ⟨y', h3, h4⟩ := key j y hy
    exact hD.1 i j x' y' h1 h3 (h2.trans (hxy.trans h4.symm)), fun k y hy => by
    obtain ⟨y', h3, h4⟩ := key k y hy
    rw [← h4]
    exact hD.2 k y' h3⟩
  exact W.vret hx hb hr (fun t ht hW => ⟨⟨a, rfl, ha, by rw [ht]; exact hw hP, hD2⟩, hS.F ht⟩) hS.2.2 hdg hlocks
end KC
