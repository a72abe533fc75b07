/-! what the places are in the machine's heap and frames -/
def zcv (ad : Nat → Nat) (w : Value) : Value → Value
  | .ref p => if p = 18 then w else .ref (ad p)
  | .int x => .int x
  | .long x => .long x
  | v => v
def zgd : Value → Bool
  | .int _ => true
  | .long _ => true
  | .ref _ => true
  | .null => true
  | _ => false
def zWv (w : Value) : Prop := w = .null ∨ ∃ t, w = .ref t
theorem zcv_cat {ad : Nat → Nat} {w : Value} (hw : zWv w) (v : Value) : (zcv ad w v).category = bif zlong v then 2 else 1 := by
  cases v with
  | ref p =>
    show (if p = 18 then w else Value.ref (ad p)).category = 1
    by_cases h : p = 18
    · rw [if_pos h]
      rcases hw with rfl | ⟨t, rfl⟩ <;> rfl
    · rw [if_neg h]; rfl
  | _ => rfl
theorem zcv_sum {ad : Nat → Nat} {w : Value} (hw : zWv w) : ∀ st : List Value, ((st.map (zcv ad w)).map fun v => v.category).sum = zcat st
  | [] => rfl
  | v :: l => by
    rw [List.map_cons, List.map_cons, List.sum_cons, zcv_sum hw l, zcv_cat hw]
    rfl
/-- the frame's locals hold what the small machine's do -/
def zLo (ad : Nat → Nat) (w : Value) (ls : List Value) (la : Array Slot) : Prop := la.size = zsz ls ∧ lv_wf la ∧ ∀ i, zgd (zget ls i) = true → la[i]? = some (.val (zcv ad w (zget ls i)))
def zlvl (ad : Nat → Nat) (w : Value) (ls : List Value) : List (Nat × Value) := (List.range (zsz ls)).filterMap fun i => if zgd (zget ls i) = true then some (i, zcv ad w (zget ls i)) else none
theorem zget_lt : ∀ {ls : List Value} {i : Nat}, zgd (zget ls i) = true → i < zsz ls
  | [], _, h => by cases h
  | _ :: _, 0, _ => Nat.succ_pos _
  | _ :: _, _ + 1, h => Nat.succ_lt_succ (zget_lt h)
theorem zset_sz : ∀ (ls : List Value) (i : Nat) (v : Value), zsz (zset ls i v) = zsz ls
  | [], _, _ => rfl
  | _ :: _, 0, _ => rfl
  | _ :: l, n + 1, v => congrArg (· + 1) (zset_sz l n v)
theorem zget_set : ∀ {ls : List Value} {i : Nat} (v : Value), i < zsz ls → ∀ j, zget (zset ls i v) j = if j = i then v else zget ls j
  | [], _, _, h, _ => absurd h (Nat.not_lt_zero _)
  | _ :: _, 0, _, _, 0 => by simp [zset, zget]
  | _ :: _, 0, _, _, j + 1 => by simp [zset, zget]
  | _ :: _, n + 1, v, _, 0 => by simp [zset, zget]
  | _ :: l, n + 1, v, h, j + 1 => by
    simp only [zset, zget, Nat.add_right_cancel_iff]
    exact zget_set v (Nat.lt_of_succ_lt_succ h) j
theorem zlvl_mem {ad : Nat → Nat} {w : Value} {ls : List Value} {q : Nat × Value} : q ∈ zlvl ad w ls ↔ (zgd (zget ls q.1) = true ∧ q.2 = zcv ad w (zget ls q.1)) := by
  unfold zlvl
  rw [List.mem_filterMap]
  constructor
  · rintro ⟨i, -, h⟩
    by_cases hg : zgd (zget ls i) = true
    · rw [if_pos hg] at h
      cases h
      exact ⟨hg, rfl⟩
    · rw [if_neg hg] at h
      cases h
  · rintro ⟨h1, h2⟩
    refine ⟨q.1, List.mem_range.mpr (zget_lt h1), ?_⟩
    rw [if_pos h1, ← h2]
theorem zLo.has {ad : Nat → Nat} {w : Value} {ls : List Value} {la : Array Slot} (h : zLo ad w ls la) : lv_has la (zsz ls) (zlvl ad w ls) :=
  ⟨h.1, h.2.1, fun q hq => by
    obtain ⟨h1, h2⟩ := zlvl_mem.mp hq
    rw [h2]
    exact h.2.2 q.1 h1⟩
theorem zok_lt {ls : List Value} {i : Nat} (h : zok ls i = true) : i < zsz ls := by
  unfold zok at h
  rw [Bool.and_eq_true] at h
  exact Nat.le_of_ble_eq_true h.1
theorem zLo.set {ad : Nat → Nat} {w : Value} (hw : zWv w) {ls : List Value} {la' : Array Slot} {i : Nat} {v : Value} (hk : zok ls i = true) (h : lv_has la' (zsz ls) ((i, zcv ad w v) :: (zlvl ad w ls).filter (fun q => !(q.1 == i) && !(q.1 + 1 == i && q.2.category == 2)))) : zLo ad w (zset ls i v) la' := by
  have hi := zok_lt hk
  refine ⟨by rw [zset_sz]; exact h.1, h.2.1, fun j hj => ?_⟩
  rw [zget_set v hi] at hj ⊢
  by_cases e : j = i
  · rw [if_pos e]
    rw [e]
    exact h.2.2 (i, zcv ad w v) List.mem_cons_self
  · rw [if_neg e] at hj ⊢
    refine h.2.2 (j, zcv ad w (zget ls j)) (List.mem_cons_of_mem _ (List.mem_filter.mpr ⟨zlvl_mem.mpr ⟨hj, rfl⟩, ?_⟩))
    simp only [Bool.and_eq_true, Bool.not_eq_true', beq_eq_false_iff_ne, ne_eq, Bool.and_eq_false_iff]
    refine ⟨e, ?_⟩
    by_cases e2 : j + 1 = i
    · refine Or.inr ?_
      rw [zcv_cat hw]
      unfold zok at hk
      rw [← e2, Bool.and_eq_true] at hk
      have h3 : (!(zlong (zget ls j))) = true := hk.2
      cases hz : zlong (zget ls j) with
      | true => rw [hz] at h3; cases h3
      | false => decide
    · exact Or.inl e2
/-- a class's fields, as the memory has them -/
def zfv (ad : Nat → Nat) (m : zM) (p : Nat) : Nat → List Nat → List Value
  | _, [] => []
  | k, ty :: l => (match ty with
    | 1 => Value.ref (ad (zrf p k))
    | 2 => va_rf ((gG m p).map ad)
    | _ => .int (gI m p k)) :: zfv ad m p (k + 1) l
def zf1 (ad : Nat → Nat) (m : zM) (p k : Nat) (ty : Nat) : Value := match ty with
    | 1 => Value.ref (ad (zrf p k))
    | 2 => va_rf ((gG m p).map ad)
    | _ => .int (gI m p k)
theorem zfv_len {ad : Nat → Nat} {m : zM} {p : Nat} : ∀ (k : Nat) (l : List Nat), (zfv ad m p k l).length = l.length
  | _, [] => rfl
  | k, _ :: l => congrArg (· + 1) (zfv_len (k + 1) l)
theorem zfv_get {ad : Nat → Nat} {m : zM} {p : Nat} : ∀ (k : Nat) (l : List Nat) (j : Nat), (zfv ad m p k l)[j]? = (l[j]?).map (zf1 ad m p (k + j))
  | _, [], _ => rfl
  | k, ty :: l, 0 => by simp only [zfv, List.getElem?_cons_zero, Option.map_some, Nat.add_zero]; rfl
  | k, ty :: l, j + 1 => by
    simp only [zfv, List.getElem?_cons_succ]
    rw [zfv_get (k + 1) l j, Nat.add_right_comm, Nat.add_assoc]
def zen (cA : Nat → ClassId) (ad : Nat → Nat) (m : zM) (p : Nat) : va_E := match zsh p with
  | 20 => .inl (cA 0, zlen p, .inl (gI m p))
  | 21 => .inl (cA 1, zlen p, .inl (gI m p))
  | 22 => .inl (cA 2, zlen p, .inr (.inl (gL m p)))
  | 23 => .inl (cA 3, zlen p, .inr (.inr (.inr (.inr (fun j => some (ad (zrf p j)))))))
  | 24 => .inl (cA 4, zlen p, .inr (.inr (.inr (.inr (fun j => some (ad (zrf p j)))))))
  | ci => .inr (ci, zfv ad m p 0 (zfk ci))
def ztys (cA : Nat → ClassId) : List (ClassId × FieldType) := [(cA 0, .int), (cA 1, .boolean), (cA 2, .long), (cA 3, .object "BoxHedge$Garden"), (cA 4, .object "BoxHedge$Tape")]
def zws (cA : Nat → ClassId) (ad : Nat → Nat) (m : zM) : va_W := (List.range 141).map fun k => (ad (20 + k), zen cA ad m (20 + k))
def zpl (p : Nat) : Prop := 20 ≤ p ∧ p < 161
theorem zws_get {cA : Nat → ClassId} {ad : Nat → Nat} {m : zM} {p : Nat} (h : zpl p) : (zws cA ad m)[p - 20]? = some (ad p, zen cA ad m p) := by
  obtain ⟨h1, h2⟩ := h
  unfold zws
  rw [List.getElem?_map, List.getElem?_range (by omega)]
  show some (ad (20 + (p - 20)), zen cA ad m (20 + (p - 20))) = _
  rw [show 20 + (p - 20) = p by omega]
theorem zws_set {cA : Nat → ClassId} {ad : Nat → Nat} {m m' : zM} {p : Nat} (h : zpl p) {e : va_E} (he : zen cA ad m' p = e) (hq : ∀ q, q ≠ p → zen cA ad m' q = zen cA ad m q) : (zws cA ad m).set (p - 20) (ad p, e) = zws cA ad m' := by
  obtain ⟨h1, h2⟩ := h
  subst he
  apply List.ext_getElem?
  intro j
  by_cases hj : j = p - 20
  · subst hj
    rw [zws_get ⟨h1, h2⟩, List.getElem?_set_self]
    unfold zws
    simp
    omega
  · rw [List.getElem?_set_ne (Ne.symm hj)]
    unfold zws
    rw [List.getElem?_map, List.getElem?_map]
    by_cases hl : j < 141
    · rw [List.getElem?_range hl]
      show some (ad (20 + j), zen cA ad m (20 + j)) = some (ad (20 + j), zen cA ad m' (20 + j))
      rw [hq (20 + j) (by omega)]
    · rw [List.getElem?_eq_none (by simpa using hl)]
      rfl
theorem zen_congr {cA : Nat → ClassId} {ad : Nat → Nat} {m m' : zM} {q : Nat} (h1 : gI m' q = gI m q) (h2 : gL m' q = gL m q) (h3 : gG m' q = gG m q) : zen cA ad m' q = zen cA ad m q := by
  have hf : ∀ (k : Nat) (l : List Nat), zfv ad m' q k l = zfv ad m q k l := by
    intro k l
    induction l generalizing k with
    | nil => rfl
    | cons a l ih => simp only [zfv, h1, h3, ih]
  unfold zen
  simp only [h1, h2, hf]
/-! the memory's own laws -/
theorem gI_sI (m : zM) (p k q j : Nat) (v : Int32) : gI (sI m p k v) q j = if q = p ∧ j = k then v else gI m q j := rfl
theorem gL_sI (m : zM) (p k q j : Nat) (v : Int32) : gL (sI m p k v) q j = gL m q j := rfl
theorem gG_sI (m : zM) (p k q : Nat) (v : Int32) : gG (sI m p k v) q = gG m q := rfl
theorem gI_sL (m : zM) (p k q j : Nat) (v : Int64) : gI (sL m p k v) q j = gI m q j := rfl
theorem gL_sL (m : zM) (p k q j : Nat) (v : Int64) : gL (sL m p k v) q j = if q = p ∧ j = k then v else gL m q j := rfl
theorem gG_sL (m : zM) (p k q : Nat) (v : Int64) : gG (sL m p k v) q = gG m q := rfl
theorem gI_sG (m : zM) (p q j : Nat) (v : Option Nat) : gI (sG m p v) q j = gI m q j := rfl
theorem gL_sG (m : zM) (p q j : Nat) (v : Option Nat) : gL (sG m p v) q j = gL m q j := rfl
theorem gG_sG (m : zM) (p q : Nat) (v : Option Nat) : gG (sG m p v) q = if q = p then v else gG m q := rfl
theorem gI_cpI (m : zM) (a i b j n q k : Nat) : gI (cpI m a i b j n) q k = if q = b then va_cpy (gI m a) (gI m b) i j n k else gI m q k := rfl
theorem gL_cpI (m : zM) (a i b j n q k : Nat) : gL (cpI m a i b j n) q k = gL m q k := rfl
theorem gG_cpI (m : zM) (a i b j n q : Nat) : gG (cpI m a i b j n) q = gG m q := rfl
theorem gI_cpL (m : zM) (a i b j n q k : Nat) : gI (cpL m a i b j n) q k = gI m q k := rfl
theorem gL_cpL (m : zM) (a i b j n q k : Nat) : gL (cpL m a i b j n) q k = if q = b then va_cpy (gL m a) (gL m b) i j n k else gL m q k := rfl
theorem gG_cpL (m : zM) (a i b j n q : Nat) : gG (cpL m a i b j n) q = gG m q := rfl
theorem zen_sI {cA : Nat → ClassId} {ad : Nat → Nat} {m : zM} {p k q : Nat} {v : Int32} (h : q ≠ p) : zen cA ad (sI m p k v) q = zen cA ad m q :=
  zen_congr (funext fun j => by rw [gI_sI, if_neg (fun z => h z.1)]) rfl rfl
theorem zen_sL {cA : Nat → ClassId} {ad : Nat → Nat} {m : zM} {p k q : Nat} {v : Int64} (h : q ≠ p) : zen cA ad (sL m p k v) q = zen cA ad m q :=
  zen_congr rfl (funext fun j => by rw [gL_sL, if_neg (fun z => h z.1)]) rfl
theorem zen_sG {cA : Nat → ClassId} {ad : Nat → Nat} {m : zM} {p q : Nat} {v : Option Nat} (h : q ≠ p) : zen cA ad (sG m p v) q = zen cA ad m q :=
  zen_congr rfl rfl (by rw [gG_sG, if_neg h])
theorem zen_cpI {cA : Nat → ClassId} {ad : Nat → Nat} {m : zM} {a i b j n q : Nat} (h : q ≠ b) : zen cA ad (cpI m a i b j n) q = zen cA ad m q :=
  zen_congr (funext fun k => by rw [gI_cpI, if_neg h]) rfl rfl
theorem zen_cpL {cA : Nat → ClassId} {ad : Nat → Nat} {m : zM} {a i b j n q : Nat} (h : q ≠ b) : zen cA ad (cpL m a i b j n) q = zen cA ad m q :=
  zen_congr rfl (funext fun k => by rw [gL_cpL, if_neg h]) rfl
theorem zsh_hi {p : Nat} (h : 161 ≤ p) : zsh p = 99 := by
  have e : ∀ c, c < 161 → Nat.ble p c = false := by
    intro c hc
    cases hb : Nat.ble p c with
    | false => rfl
    | true => exact absurd (Nat.le_of_ble_eq_true hb) (by omega)
  unfold zsh
  simp only [e, Nat.reduceLT, cond_false]
theorem zsh_lo : ∀ p, p < 20 → 50 ≤ zsh p := by decide +kernel
theorem zpl_of {p : Nat} (h : zsh p ≤ 24) : zpl p := by
  refine ⟨Nat.not_lt.mp fun q => ?_, Nat.not_le.mp fun q => ?_⟩
  · have := zsh_lo p q
    omega
  · rw [zsh_hi q] at h
    omega
theorem zfk_len : ∀ ci, ci < 10 → ∀ q, vwCl[ci]? = some q → (zfk ci).length = q.2.2 := by
  intro ci h q hq
  match ci, h with
  | 0, _ => cases hq; rfl
  | 1, _ => cases hq; rfl
  | 2, _ => cases hq; rfl
  | 3, _ => cases hq; rfl
  | 4, _ => cases hq; rfl
  | 5, _ => cases hq; rfl
  | 6, _ => cases hq; rfl
  | 7, _ => cases hq; rfl
  | 8, _ => cases hq; rfl
  | 9, _ => cases hq; rfl
theorem zen_obj {cA : Nat → ClassId} {ad : Nat → Nat} {m : zM} {p ci : Nat} (h : zsh p = ci) (hc : ci < 10) : zen cA ad m p = .inr (ci, zfv ad m p 0 (zfk ci)) := by
  unfold zen
  rw [h]
  match ci, hc with
  | 0, _ => rfl
  | 1, _ => rfl
  | 2, _ => rfl
  | 3, _ => rfl
  | 4, _ => rfl
  | 5, _ => rfl
  | 6, _ => rfl
  | 7, _ => rfl
  | 8, _ => rfl
  | 9, _ => rfl
theorem zen_20 {cA : Nat → ClassId} {ad : Nat → Nat} {m : zM} {p : Nat} (h : zsh p = 20) : zen cA ad m p = .inl (cA 0, zlen p, .inl (gI m p)) := by unfold zen; rw [h]; rfl
theorem zen_21 {cA : Nat → ClassId} {ad : Nat → Nat} {m : zM} {p : Nat} (h : zsh p = 21) : zen cA ad m p = .inl (cA 1, zlen p, .inl (gI m p)) := by unfold zen; rw [h]; rfl
theorem zen_22 {cA : Nat → ClassId} {ad : Nat → Nat} {m : zM} {p : Nat} (h : zsh p = 22) : zen cA ad m p = .inl (cA 2, zlen p, .inr (.inl (gL m p))) := by unfold zen; rw [h]; rfl
theorem zen_23 {cA : Nat → ClassId} {ad : Nat → Nat} {m : zM} {p : Nat} (h : zsh p = 23) : zen cA ad m p = .inl (cA 3, zlen p, .inr (.inr (.inr (.inr (fun j => some (ad (zrf p j))))))) := by unfold zen; rw [h]; rfl
theorem zen_24 {cA : Nat → ClassId} {ad : Nat → Nat} {m : zM} {p : Nat} (h : zsh p = 24) : zen cA ad m p = .inl (cA 4, zlen p, .inr (.inr (.inr (.inr (fun j => some (ad (zrf p j))))))) := by unfold zen; rw [h]; rfl
/-- a field written: the list of the fields with one of them changed -/
theorem zfv_set {ad : Nat → Nat} {m m' : zM} {p k0 ty : Nat} {v : Value} : ∀ (b : Nat) (l : List Nat), l[k0]? = some ty → zf1 ad m' p (b + k0) ty = v → (∀ j t, j ≠ k0 → l[j]? = some t → zf1 ad m' p (b + j) t = zf1 ad m p (b + j) t) → (zfv ad m p b l).set k0 v = zfv ad m' p b l := by
  intro b l hk hv hj
  apply List.ext_getElem?
  intro j
  by_cases e : j = k0
  · subst e
    rw [List.getElem?_set_self (by rw [zfv_len]; exact (List.getElem?_eq_some_iff.mp hk).1), zfv_get, hk, ← hv]
    rfl
  · rw [List.getElem?_set_ne (Ne.symm e), zfv_get, zfv_get]
    cases ht : l[j]? with
    | none => rfl
    | some t =>
      show some (zf1 ad m p (b + j) t) = some (zf1 ad m' p (b + j) t)
      rw [hj j t e ht]
