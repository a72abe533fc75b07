/-! the small machine's runs are the machine's: the setting -/
def zA (base : Nat) : Nat → Prop := fun q => base ≤ q
def zslen : List Nat := [4, 6, 3, 4, 5, 5, 4]
def zsby : List (List Int32) := [[115, 113, 102, 108], [112, 107, 118, 116, 104, 100], [60, 61, 62], [115, 108, 111, 119], [113, 117, 105, 99, 107], [102, 114, 111, 115, 116], [108, 111, 115, 101]]
/-- what the memory holds below place 20: the script, its length, the tables, the texts -/
def zTb (tb : Nat → Nat → Int32) : Prop := Int32.ofNat (tb 1 0).toNatClampNeg = tb 1 0 ∧ ∀ i, i < 7 → ∀ j, j < zslen.getD i 0 → tb (11 + i) j = (zsby.getD i []).getD j 0
def zLw (tb : Nat → Nat → Int32) (m : zM) : Prop := (∀ p, p < 20 → ∀ k, gI m p k = tb p k) ∧ ∀ p q, gG m p = some q → zsh q = 1
def zSt (base : Nat) (ad : Nat → Nat) (w : Value) (tb : Nat → Nat → Int32) (U : State) (H : Heap) : Prop :=
  (va_T .int (ad 0) (tb 1 0).toNatClampNeg (fun j => .int (tb 0 j)) (zA base) U H ∧ va_T .int (ad 2) 7 (fun j => .int (tb 2 j)) (zA base) U H ∧ va_T .int (ad 3) 21 (fun j => .int (tb 3 j)) (zA base) U H) ∧
  vk_S 7 zslen zsby (fun i => ad (4 + i)) (fun i => ad (11 + i)) (zA base) U H ∧
  (va_Z "BoxHedge$Acts" "BODIES" "[I" (.ref (ad 3)) (zA base) U H ∧ va_Z "BoxHedge" "ABOVE" "[I" (.ref (ad 2)) (zA base) U H ∧ va_Z "java/lang/String" "COMPACT_STRINGS" "Z" (.int 1) (zA base) U H ∧ va_Z "jdk/internal/util/Preconditions" "SIOOBE_FORMATTER" "Ljava/util/function/BiFunction;" w (zA base) U H) ∧
  (∀ o idx q, o < 16 → zlv (zlt o) idx = some (.ref q) → ∃ tx, vk_R (zcn o) idx tx (ad q) U) ∧
  (∀ o idx mi n rk y b ml ret own st cd, o < 16 → zl5 (zct o) idx = some (2, mi, n, rk) → zmt mi = some (y, b, ml, ret, own, st, cd) → va_Nw (.methodLinkNest (zcn o) idx y "BoxHedge") U) ∧
  va_Nw (.fieldLinkNest "BoxHedge$Acts" 48 "BoxHedge" "ABOVE" "[I" "BoxHedge") U
theorem zSt.warm {base : Nat} {ad : Nat → Nat} {w : Value} {tb : Nat → Nat → Int32} {u U : State} {H H1 : Heap} (h : zSt base ad w tb u H) (hW : u.WarmedH U.vm) (hq : ∀ a : Nat, a < H.size → ¬ zA base a → H1[a]? = H[a]?) : zSt base ad w tb U H1 := by
  obtain ⟨⟨t0, t1, t2⟩, s1, ⟨z1, z2, z3, z4⟩, r1, n1, n2⟩ := h
  have al := hW.alike
  exact ⟨⟨(t0.kept hq).moved al, (t1.kept hq).moved al, (t2.kept hq).moved al⟩, (s1.kept hq).moved al, ⟨(z1.kept hq).moved al, (z2.kept hq).moved al, (z3.kept hq).moved al, (z4.kept hq).moved al⟩,
    fun o idx q ho h => (r1 o idx q ho h).imp fun tx hr => hr.warm hW, fun o idx mi n rk y b ml ret own st cd ho h1 h2 => (n1 o idx mi n rk y b ml ret own st cd ho h1 h2).warmM hW, n2.warmF hW⟩
theorem zSt.same {base : Nat} {ad : Nat → Nat} {w : Value} {tb : Nat → Nat → Int32} {u U : State} {H : Heap} (h : zSt base ad w tb u H) (hv : u.vm = U.vm) : zSt base ad w tb U H := by
  obtain ⟨⟨t0, t1, t2⟩, s1, ⟨z1, z2, z3, z4⟩, r1, n1, n2⟩ := h
  have al : u.vm.Alike U.vm := hv ▸ Vm.Alike.refl u.vm
  exact ⟨⟨t0.moved al, t1.moved al, t2.moved al⟩, s1.moved al, ⟨z1.moved al, z2.moved al, z3.moved al, z4.moved al⟩,
    fun o idx q ho h => (r1 o idx q ho h).imp fun tx hr => hr.same hv.symm, fun o idx mi n rk y b ml ret own st cd ho h1 h2 => va_Nw.same rfl hv (n1 o idx mi n rk y b ml ret own st cd ho h1 h2), va_Nw.same rfl hv n2⟩
/-- the places' addresses lie apart, and above -/
def zAd (base : Nat) (ad : Nat → Nat) : Prop := (∀ p q, zpl p → zpl q → ad p = ad q → p = q) ∧ ∀ p, zpl p → base ≤ ad p
theorem zAd.d {base : Nat} {ad : Nat → Nat} {cA : Nat → ClassId} (h : zAd base ad) (m : zM) : va_D (zA base) (zws cA ad m) := by
  have key : ∀ (k : Nat) (q : Nat × va_E), (zws cA ad m)[k]? = some q → zpl (20 + k) ∧ q.1 = ad (20 + k) := by
    intro k q hk
    have hl : k < 141 := by
      have := (List.getElem?_eq_some_iff.mp hk).1
      simpa [zws] using this
    have h1 : zpl (20 + k) := ⟨by omega, by omega⟩
    have h2 := zws_get (cA := cA) (ad := ad) (m := m) h1
    rw [show 20 + k - 20 = k by omega, hk] at h2
    exact ⟨h1, by rw [Option.some.inj h2]⟩
  refine ⟨fun i j x y hi hj hxy => ?_, fun k q hk => ?_⟩
  · obtain ⟨a1, a2⟩ := key i x hi
    obtain ⟨b1, b2⟩ := key j y hj
    have := h.1 _ _ a1 b1 (a2.symm.trans (hxy.trans b2))
    omega
  · obtain ⟨a1, a2⟩ := key k q hk
    rw [a2]
    exact h.2 _ a1
def zWo (D : va_G) (cA : Nat → ClassId) (ad : Nat → Nat) (m : zM) (H : Heap) : Prop := va_P D vwCl (zws cA ad m) H
def zrm (d : Nat) : Room := { frames := d, cells := 0, slots := 0, locals := 200 * d }
def zPc (base : Nat) (ad : Nat → Nat) (w : Value) (tb : Nat → Nat → Int32) (D : va_G) (cA : Nat → ClassId) (as : List Value) (m : zM) : Array Value → State → Prop := fun v U =>
  v = (as.map (zcv ad w)).toArray ∧ zWo D cA ad m U.heap ∧ va_K D vwCl (ztys cA) U ∧ zSt base ad w tb U U.heap ∧ base ≤ U.heap.size ∧ zLw tb m
def zQc (base : Nat) (ad : Nat → Nat) (w : Value) (tb : Nat → Nat → Int32) (D : va_G) (cA : Nat → ClassId) (Q : zQ) : Array Value → State → Outcome → State → Prop := fun _ st oc t =>
  ∃ (o : Option Value) (m' : zM), Q o m' ∧ oc = .returned (o.map (zcv ad w)) ∧ zWo D cA ad m' t.heap ∧ va_F (zA base) st t ∧ zLw tb m'
/-- the contracts of all methods, d calls deep -/
def zCon (l : Launch) (base : Nat) (ad : Nat → Nat) (w : Value) (tb : Nat → Nat → Int32) (D : va_G) (cA : Nat → ClassId) (d : Nat) : Prop :=
  ∀ mi y b ml ret own st cd, zmt mi = some (y, b, ml, ret, own, st, cd) → ∀ as m Q, zCall d mi as m Q → Met l y (Cond.code y b ml ret :: zgood) (zrm d) (zPc base ad w tb D cA as m) (zQc base ad w tb D cA Q) 0 0 (zA base)
theorem zblind {base : Nat} {ad : Nat → Nat} {w : Value} {tb : Nat → Nat → Int32} {D : va_G} {cA : Nat → ClassId} {as : List Value} {m : zM} : FrameBlind (zPc base ad w tb D cA as m) := by
  intro a U g mk ⟨q1, q2, q3, q4, q5, q6⟩
  exact ⟨q1, q2, va_K.moved (u := U) (U := U.calling g mk a) (Vm.Alike.refl U.vm) q3, zSt.same (u := U) q4 rfl, q5, q6⟩
/-- a method's setting: its code and class, what holds at its start -/
def zCx (p : Program) (l : Launch) (R : Room) (s : State) (m : MethodId) (args : Array Value) (c : Code) (cells slots : Nat) (own ml : Nat) (b : ByteArray) (cd : List (Nat × Instr)) (base : Nat) (ad : Nat → Nat) (w : Value) (tb : Nat → Nat → Int32) (D : va_G) (cA : Nat → ClassId) (d : Nat) : Prop :=
  (p.tables.exec = Jvm.exec ∧ c.code = b ∧ c.maxLocals = ml ∧ s.vm.findClass (zcn own) = some m.cls ∧ own < 16) ∧ (∀ w ∈ zgood, w.before args s = true) ∧ va_K D vwCl (ztys cA) s ∧ zSt base ad w tb s s.heap ∧ zAd base ad ∧ base ≤ s.heap.size ∧ zdk b cd ∧ zTb tb ∧ zWv w ∧
  (d + 1 ≤ R.frames ∧ 200 * (d + 1) ≤ R.locals ∧ cells ≤ R.cells ∧ slots ≤ R.slots) ∧ zCon l base ad w tb D cA d
section ZS
variable {p : Program} {l : Launch} {e : Env} {R : Room} {s : State} {m : MethodId} {args : Array Value} {below : List Frame} {meth : Method} {c : Code} {cells slots : Nat} {TQ : State → Prop}
variable {own ml : Nat} {b : ByteArray} {cd : List (Nat × Instr)} {base : Nat} {ad : Nat → Nat} {w : Value} {tb : Nat → Nat → Int32} {D : va_G} {cA : Nat → ClassId} {d : Nat}
variable {pc : Nat} {ls st : List Value} {mm : zM} {Q : zQ} {K : zK} {H : Heap} {locs : List Loc} {la : Array Slot}
/-- the machine stands where the small one does -/
def zSim (s : State) (base : Nat) (ad : Nat → Nat) (w : Value) (tb : Nat → Nat → Int32) (D : va_G) (cA : Nat → ClassId) (ml : Nat) (ls : List Value) (mm : zM) (la : Array Slot) (H : Heap) (locs : List Loc) : Prop :=
  zLo ad w ls la ∧ zsz ls = ml ∧ zWo D cA ad mm H ∧ va_S (zA base) s.heap H locs ∧ zLw tb mm
/-- from wherever K is met it goes on to the end -/
def zGo (p : Program) (l : Launch) (e : Env) (R : Room) (s : State) (m : MethodId) (args : Array Value) (below : List Frame) (meth : Method) (c : Code) (cells slots : Nat) (TQ : State → Prop) (ml base : Nat) (ad : Nat → Nat) (w : Value) (tb : Nat → Nat → Int32) (D : va_G) (cA : Nat → ClassId) (K : zK) : Prop :=
  ∀ pc ls st mm la H locs, K pc ls st mm → zSim s base ad w tb D cA ml ls mm la H locs → W p l e R s m args below meth c H locs cells slots TQ (F0 m pc la (st.map (zcv ad w)))
theorem zldI_ok (X : zCx p l R s m args c cells slots own ml b cd base ad w tb D cA d) (S : zSim s base ad w tb D cA ml ls mm la H locs) (G : zGo p l e R s m args below meth c cells slots TQ ml base ad w tb D cA K) {i n : Nat}
    (hI : ∀ x, la[i]? = some (.val (.int x)) → W p l e R s m args below meth c H locs cells slots TQ (F0 m (pc + n) la (.int x :: st.map (zcv ad w))) → W p l e R s m args below meth c H locs cells slots TQ (F0 m pc la (st.map (zcv ad w))))
    (h : zldI (zget ls i) fun v => K (pc + n) ls (v :: st) mm) : W p l e R s m args below meth c H locs cells slots TQ (F0 m pc la (st.map (zcv ad w))) := by
  have hl := S.1.2.2 i
  cases hv : zget ls i with
  | int x =>
    rw [hv] at h hl
    exact hI x (hl rfl) (G _ _ _ _ _ _ _ h S)
  | _ => rw [hv] at h; exact h.elim
theorem zldL_ok (X : zCx p l R s m args c cells slots own ml b cd base ad w tb D cA d) (S : zSim s base ad w tb D cA ml ls mm la H locs) (G : zGo p l e R s m args below meth c cells slots TQ ml base ad w tb D cA K) {i n : Nat}
    (hL : ∀ x, la[i]? = some (.val (.long x)) → W p l e R s m args below meth c H locs cells slots TQ (F0 m (pc + n) la (.long x :: st.map (zcv ad w))) → W p l e R s m args below meth c H locs cells slots TQ (F0 m pc la (st.map (zcv ad w))))
    (h : zldL (zget ls i) fun v => K (pc + n) ls (v :: st) mm) : W p l e R s m args below meth c H locs cells slots TQ (F0 m pc la (st.map (zcv ad w))) := by
  have hl := S.1.2.2 i
  cases hv : zget ls i with
  | long x =>
    rw [hv] at h hl
    exact hL x (hl rfl) (G _ _ _ _ _ _ _ h S)
  | _ => rw [hv] at h; exact h.elim
theorem zldA_ok (X : zCx p l R s m args c cells slots own ml b cd base ad w tb D cA d) (S : zSim s base ad w tb D cA ml ls mm la H locs) (G : zGo p l e R s m args below meth c cells slots TQ ml base ad w tb D cA K) {i n : Nat}
    (hR : ∀ x, la[i]? = some (.val (.ref x)) → W p l e R s m args below meth c H locs cells slots TQ (F0 m (pc + n) la (.ref x :: st.map (zcv ad w))) → W p l e R s m args below meth c H locs cells slots TQ (F0 m pc la (st.map (zcv ad w))))
    (hN : la[i]? = some (.val .null) → W p l e R s m args below meth c H locs cells slots TQ (F0 m (pc + n) la (.null :: st.map (zcv ad w))) → W p l e R s m args below meth c H locs cells slots TQ (F0 m pc la (st.map (zcv ad w))))
    (h : zldA (zget ls i) fun v => K (pc + n) ls (v :: st) mm) : W p l e R s m args below meth c H locs cells slots TQ (F0 m pc la (st.map (zcv ad w))) := by
  have hl := S.1.2.2 i
  cases hv : zget ls i with
  | ref x =>
    rw [hv] at h hl
    have h2 := hl rfl
    have h3 := G _ _ _ _ _ _ _ h S
    rw [List.map_cons] at h3
    have e1 : zcv ad w (.ref x) = if x = 18 then w else .ref (ad x) := rfl
    rw [e1] at h2 h3
    by_cases hx : x = 18
    · rw [if_pos hx] at h2 h3
      obtain ⟨-, -, -, -, -, -, -, -, hw, -⟩ := X
      rcases hw with rfl | ⟨t, rfl⟩
      · exact hN h2 h3
      · exact hR t h2 h3
    · rw [if_neg hx] at h2 h3
      exact hR _ h2 h3
  | null =>
    rw [hv] at h hl
    exact hN (hl rfl) (G _ _ _ _ _ _ _ h S)
  | _ => rw [hv] at h; exact h.elim
theorem zst_fin (X : zCx p l R s m args c cells slots own ml b cd base ad w tb D cA d) (S : zSim s base ad w tb D cA ml ls mm la H locs) (G : zGo p l e R s m args below meth c cells slots TQ ml base ad w tb D cA K) {i n : Nat} {v : Value} {r : List Value} (hk : zok ls i = true) (h : K (pc + n) (zset ls i v) r mm) :
    ∀ la', lv_has la' (zsz ls) ((i, zcv ad w v) :: (zlvl ad w ls).filter (fun q => !(q.1 == i) && !(q.1 + 1 == i && q.2.category == 2))) → W p l e R s m args below meth c H locs cells slots TQ (F0 m (pc + n) la' (r.map (zcv ad w))) := by
  have hw : zWv w := by obtain ⟨-, -, -, -, -, -, -, -, hw, -⟩ := X; exact hw
  intro la' hla
  exact G _ _ _ _ _ _ _ h ⟨zLo.set hw hk hla, by rw [zset_sz]; exact S.2.1, S.2.2.1, S.2.2.2.1, S.2.2.2.2⟩
theorem zstI_ok (X : zCx p l R s m args c cells slots own ml b cd base ad w tb D cA d) (S : zSim s base ad w tb D cA ml ls mm la H locs) (G : zGo p l e R s m args below meth c cells slots TQ ml base ad w tb D cA K) {i n : Nat}
    (hI : ∀ (x : Int32) (r : List Value), (∀ la', lv_has la' (zsz ls) ((i, .int x) :: (zlvl ad w ls).filter (fun q => !(q.1 == i) && !(q.1 + 1 == i && q.2.category == 2))) → W p l e R s m args below meth c H locs cells slots TQ (F0 m (pc + n) la' r)) → i < zsz ls → W p l e R s m args below meth c H locs cells slots TQ (F0 m pc la (.int x :: r)))
    (h : zstI i n pc ls st mm K) : W p l e R s m args below meth c H locs cells slots TQ (F0 m pc la (st.map (zcv ad w))) := by
  unfold zstI at h
  have h' := h
  clear h
  match st, h' with
  | .int x :: r, h =>
    dsimp only at h
    cases hk : zok ls i with
    | false => rw [hk] at h; exact h.elim
    | true => rw [hk] at h; exact hI x _ (zst_fin X S G (v := .int x) hk h) (zok_lt hk)
theorem zstA_ok (X : zCx p l R s m args c cells slots own ml b cd base ad w tb D cA d) (S : zSim s base ad w tb D cA ml ls mm la H locs) (G : zGo p l e R s m args below meth c cells slots TQ ml base ad w tb D cA K) {i n : Nat}
    (hR : ∀ (x : Nat) (r : List Value), (∀ la', lv_has la' (zsz ls) ((i, .ref x) :: (zlvl ad w ls).filter (fun q => !(q.1 == i) && !(q.1 + 1 == i && q.2.category == 2))) → W p l e R s m args below meth c H locs cells slots TQ (F0 m (pc + n) la' r)) → i < zsz ls → W p l e R s m args below meth c H locs cells slots TQ (F0 m pc la (.ref x :: r)))
    (hN : ∀ (r : List Value), (∀ la', lv_has la' (zsz ls) ((i, .null) :: (zlvl ad w ls).filter (fun q => !(q.1 == i) && !(q.1 + 1 == i && q.2.category == 2))) → W p l e R s m args below meth c H locs cells slots TQ (F0 m (pc + n) la' r)) → i < zsz ls → W p l e R s m args below meth c H locs cells slots TQ (F0 m pc la (.null :: r)))
    (h : zstA i n pc ls st mm K) : W p l e R s m args below meth c H locs cells slots TQ (F0 m pc la (st.map (zcv ad w))) := by
  have hw : zWv w := by obtain ⟨-, -, -, -, -, -, -, -, hw, -⟩ := X; exact hw
  unfold zstA at h
  have h' := h
  clear h
  match st, h' with
  | .ref x :: r, h =>
    dsimp only at h
    cases hk : zok ls i with
    | false => rw [hk] at h; exact h.elim
    | true =>
      rw [hk] at h
      have f := zst_fin X S G (v := .ref x) hk h
      have e1 : zcv ad w (.ref x) = if x = 18 then w else .ref (ad x) := rfl
      rw [e1] at f
      rw [List.map_cons, e1]
      by_cases hx : x = 18
      · rw [if_pos hx] at f ⊢
        rcases hw with rfl | ⟨t, rfl⟩
        · exact hN _ f (zok_lt hk)
        · exact hR t _ f (zok_lt hk)
      · rw [if_neg hx] at f ⊢
        exact hR _ _ f (zok_lt hk)
  | .null :: r, h =>
    dsimp only at h
    cases hk : zok ls i with
    | false => rw [hk] at h; exact h.elim
    | true => rw [hk] at h; exact hN _ (zst_fin X S G (v := .null) hk h) (zok_lt hk)
end ZS
