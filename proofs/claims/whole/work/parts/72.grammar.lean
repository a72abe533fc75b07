/-! the grammar of a garden, as both read it: a reader that descends, and a pile -/
abbrev zP : Type := Option (List Nat) × Nat
section
variable (tx : Nat → Nat) (n : Nat)
def pI (c a : Nat) : Bool := decide (a < n ∧ tx a = c)
def pD (a : Nat) : Bool := decide (a < n ∧ 48 ≤ tx a ∧ tx a ≤ 57)
def pNum (a : Nat) : Option Nat × Nat :=
  if pD tx n a = true then (if pD tx n (a + 1) = true then (some (10 * (tx a - 48) + (tx (a + 1) - 48)), a + 2) else (some (tx a - 48), a + 1)) else (none, a)
def pLt (c : Nat) : Nat := if c = 112 then 0 else if c = 107 then 1 else if c = 118 then 2 else if c = 116 then 3 else if c = 104 then 4 else if c = 100 then 5 else 6
def pTest (a : Nat) : zP :=
  if a < n ∧ pLt (tx a) < 6 then
    (if a + 1 < n ∧ 60 ≤ tx (a + 1) ∧ tx (a + 1) ≤ 62 then
      (match pNum tx n (a + 2) with
       | (some v, e) => (some [300 * pLt (tx a) + 100 * (tx (a + 1) - 60) + v], e)
       | (none, e) => (none, e))
     else (none, a + 1))
  else (none, a)
/-- the sign behind a part that is not the first; and how much it weighs -/
def pT (o : Nat) : Bool → List Nat
  | true => []
  | false => [o]
def pW : Bool → Nat
  | true => 0
  | false => 1
def pLst (p : Nat → zP) (c o : Nat) : Nat → Bool → Nat → zP
  | 0, _, a => (none, a)
  | k + 1, b, a =>
    match p a with
    | (none, e) => (none, e)
    | (some x, e) =>
      if pI tx n c e = true then
        (match pLst p c o k false (e + 1) with
         | (none, e2) => (none, e2)
         | (some z, e2) => (some ((x ++ pT o b) ++ z), e2))
      else (some (x ++ pT o b), e)
def pE (p : Nat → zP) (a : Nat) : zP := pLst tx n (pLst tx n p 38 1801 100 true) 124 1802 100 true a
def pPart : Nat → Nat → zP
  | 0 => fun a => if pI tx n 33 a = true then (none, a) else if pI tx n 40 a = true then (none, a) else pTest tx n a
  | r + 1 => fun a => if pI tx n 33 a = true then
       (match pPart r (a + 1) with
        | (none, e) => (none, e)
        | (some x, e) => (some (x ++ [1800]), e))
     else if pI tx n 40 a = true then
       (match pE tx n (pPart r) (a + 1) with
        | (none, e) => (none, e)
        | (some x, e) => if pI tx n 41 e = true then (some x, e + 1) else (none, e))
     else pTest tx n a
/-- the pile -/
def mSet (s : Nat) : List Nat → List Nat → List Nat × List Nat
  | [], o => ([], o)
  | c :: W, o => if c = 38 then mSet s W (o ++ [1801]) else if c = 124 then (if s = 38 then (c :: W, o) else mSet s W (o ++ [1802])) else (c :: W, o)
def mWh : List Nat → List Nat → List Nat × List Nat
  | [], o => ([], o)
  | c :: W, o => if c = 33 then mWh W (o ++ [1800]) else (c :: W, o)
def mOp : List Nat → Nat
  | [] => 0
  | c :: W => (if c = 33 ∨ c = 40 then 1 else 0) + mOp W
def mR : Nat → Bool → List Nat → Nat → List Nat → Option (List Nat) → Nat → Prop
  | 0, _, _, _, _, _, _ => False
  | k + 1, true, W, a, o, res, e =>
    if pI tx n 33 a = true then (if mOp W = 4 then res = none ∧ e = a else mR k true (33 :: W) (a + 1) o res e)
    else if pI tx n 40 a = true then (if mOp W = 4 then res = none ∧ e = a else mR k true (40 :: W) (a + 1) o res e)
    else match pTest tx n a with
      | (none, e1) => res = none ∧ e = e1
      | (some x, e1) => mR k false (mWh W (o ++ x)).1 e1 (mWh W (o ++ x)).2 res e
  | k + 1, false, W, a, o, res, e =>
    if pI tx n 38 a = true then mR k true (38 :: (mSet 38 W o).1) (a + 1) (mSet 38 W o).2 res e
    else if pI tx n 124 a = true then mR k true (124 :: (mSet 124 W o).1) (a + 1) (mSet 124 W o).2 res e
    else match (mSet 124 W o).1 with
      | [] => res = some (mSet 124 W o).2 ∧ e = a
      | _ :: W2 => if pI tx n 41 a = true then mR k false (mWh W2 (mSet 124 W o).2).1 (a + 1) (mWh W2 (mSet 124 W o).2).2 res e else res = none ∧ e = a
end
section
variable {tx : Nat → Nat} {n : Nat}
theorem pI_t {c a : Nat} : pI tx n c a = true ↔ a < n ∧ tx a = c := decide_eq_true_iff
theorem pI_ne {c c2 a : Nat} (h : pI tx n c a = true) (hc : c ≠ c2) : pI tx n c2 a = false := by
  obtain ⟨x, y⟩ := pI_t.mp h
  exact decide_eq_false (fun z => hc (y.symm.trans z.2))
theorem pI_f {c a : Nat} (h : ¬ pI tx n c a = true) : pI tx n c a = false := Bool.eq_false_iff.mpr h
/-- what is left of the text: a success goes on by its length, within the text -/
def pOk (a : Nat) (w : Nat) : zP → Prop
  | (some x, e) => a < e ∧ e ≤ n ∧ x.length + a ≤ e + w
  | (none, e) => e ≤ n
theorem pNum_b {a : Nat} (ha : a ≤ n) : ∀ o e, pNum tx n a = (o, e) → e ≤ n ∧ a ≤ e ∧ ∀ v, o = some v → a < e ∧ v ≤ 99 := by
  intro o e h
  unfold pNum pD at h
  split at h
  · rename_i h1
    have h1 := decide_eq_true_iff.mp h1
    split at h
    · rename_i h2
      have h2 := decide_eq_true_iff.mp h2
      cases h
      exact ⟨by omega, by omega, fun v hv => by cases hv; omega⟩
    · cases h
      exact ⟨by omega, by omega, fun v hv => by cases hv; omega⟩
  · cases h
    exact ⟨ha, Nat.le_refl _, fun v hv => by cases hv⟩
theorem pLt_b (c : Nat) : pLt c ≤ 6 := by unfold pLt; repeat (first | omega | split)
theorem pTest_b {a : Nat} (ha : a ≤ n) : pOk (n := n) a 0 (pTest tx n a) ∧ ∀ x e, pTest tx n a = (some x, e) → ∃ s, s < 1800 ∧ x = [s] ∧ a + 3 ≤ e := by
  unfold pTest
  split
  · rename_i h1
    split
    · rename_i h2
      have h3 := pNum_b (tx := tx) (n := n) (a := a + 2) (by omega)
      split
      · rename_i v e hv
        obtain ⟨b1, b2, b3⟩ := h3 _ _ hv
        have b4 := b3 _ rfl
        refine ⟨⟨by omega, b1, by simp only [List.length_cons, List.length_nil]; omega⟩, fun x e2 hx => ?_⟩
        cases hx
        exact ⟨_, by omega, rfl, by omega⟩
      · rename_i e hv
        exact ⟨(h3 _ _ hv).1, fun x e2 hx => by cases hx⟩
    · exact ⟨show a + 1 ≤ n by omega, fun x e hx => by cases hx⟩
  · exact ⟨ha, fun x e hx => by cases hx⟩
theorem pLst_b {p : Nat → zP} {c o : Nat} (hp : ∀ a, a ≤ n → pOk (n := n) a 0 (p a)) : ∀ (k : Nat) (b : Bool) (a : Nat), a ≤ n → pOk (n := n) a (pW b) (pLst tx n p c o k b a)
  | 0, b, a, ha => ha
  | k + 1, b, a, ha => by
    have h := hp a ha
    unfold pLst
    split
    · rename_i e hx
      rw [hx] at h
      exact h
    · rename_i x e hx
      rw [hx] at h
      obtain ⟨h1, h2, h3⟩ := h
      have hl : (x ++ pT o b).length + a ≤ e + pW b := by
        rw [List.length_append]
        cases b
        · show x.length + 1 + a ≤ e + 1; omega
        · show x.length + 0 + a ≤ e + 0; omega
      split
      · rename_i hc
        have hc := (pI_t.mp hc).1
        have IH := pLst_b (c := c) (o := o) hp k false (e + 1) (by omega)
        split
        · rename_i e2 hz
          rw [hz] at IH
          exact IH
        · rename_i z e2 hz
          rw [hz] at IH
          obtain ⟨i1, i2, i3⟩ := IH
          have i3 : z.length + (e + 1) ≤ e2 + 1 := i3
          refine ⟨by omega, i2, ?_⟩
          rw [List.length_append]
          omega
      · exact ⟨h1, h2, hl⟩
theorem pE_b {p : Nat → zP} (hp : ∀ a, a ≤ n → pOk (n := n) a 0 (p a)) {a : Nat} (ha : a ≤ n) : pOk (n := n) a 0 (pE tx n p a) :=
  pLst_b (fun a ha => pLst_b hp 100 true a ha) 100 true a ha
theorem pPart_b : ∀ (r a : Nat), a ≤ n → pOk (n := n) a 0 (pPart tx n r a)
  | 0, a, ha => by
    unfold pPart
    split
    · exact ha
    · split
      · exact ha
      · exact (pTest_b ha).1
  | r + 1, a, ha => by
    unfold pPart
    split
    · rename_i h1
      have h1 := (pI_t.mp h1).1
      have h := pPart_b r (a + 1) (by omega)
      split
      · rename_i e hx
        rw [hx] at h
        exact h
      · rename_i x e hx
        rw [hx] at h
        obtain ⟨b1, b2, b3⟩ := h
        refine ⟨by omega, b2, ?_⟩
        rw [List.length_append, List.length_singleton]
        omega
    · split
      · rename_i h1
        have h1 := (pI_t.mp h1).1
        have h := pE_b (tx := tx) (fun a ha => pPart_b r a ha) (a := a + 1) (by omega)
        split
        · rename_i e hx
          rw [hx] at h
          exact h
        · rename_i x e hx
          rw [hx] at h
          obtain ⟨b1, b2, b3⟩ := h
          split
          · rename_i h2
            have h2 := (pI_t.mp h2).1
            exact ⟨by omega, h2, by omega⟩
          · exact b2
      · exact (pTest_b ha).1
theorem gD_l {x y : List Nat} {j : Nat} (h : j < x.length) : (x ++ y).getD j 0 = x.getD j 0 := by
  rw [List.getD_eq_getElem?_getD, List.getD_eq_getElem?_getD, List.getElem?_append_left h]
theorem gD_r {x y : List Nat} {j : Nat} (h : x.length ≤ j) : (x ++ y).getD j 0 = y.getD (j - x.length) 0 := by
  rw [List.getD_eq_getElem?_getD, List.getD_eq_getElem?_getD, List.getElem?_append_right h]
/-- a piece of code takes a stack of d to one of d2 -/
def cWf (x : List Nat) (d d2 : Nat) : Prop := ∀ (code : Nat → Nat) (i k : Nat), (∀ j, j < x.length → code (i + j) = x.getD j 0) → hW code (i + x.length) d2 k → hW code i d (x.length + k)
theorem cWf_nil (d : Nat) : cWf [] d d := fun code i k _ h => by
  rw [List.length_nil, Nat.zero_add]
  exact h
theorem cWf_app {x y : List Nat} {d d2 d3 : Nat} (h : cWf x d d2) (h2 : cWf y d2 d3) : cWf (x ++ y) d d3 := by
  intro code i k hc hk
  rw [List.length_append] at hc hk ⊢
  rw [Nat.add_assoc]
  refine h code i _ (fun j hj => ?_) (h2 code _ k (fun j hj => ?_) (by rw [Nat.add_assoc]; exact hk))
  · rw [hc j (by omega), gD_l hj]
  · rw [Nat.add_assoc, hc _ (by omega), gD_r (by omega), Nat.add_sub_cancel_left]
theorem cWf_one {s d d2 : Nat} (h : (s < 1800 ∧ d < 30 ∧ d2 = d + 1) ∨ (s = 1800 ∧ 1 ≤ d ∧ d2 = d) ∨ ((s = 1801 ∨ s = 1802) ∧ ∃ e, d = e + 2 ∧ d2 = e + 1)) : cWf [s] d d2 := by
  intro code i k hc hk
  have h0 := hc 0 (by simp)
  rw [Nat.add_zero] at h0
  have h0 : code i = s := h0
  rw [List.length_singleton] at hk ⊢
  rw [Nat.add_comm 1 k]
  unfold hW
  rw [h0]
  rcases h with ⟨a, b, c⟩ | ⟨a, b, c⟩ | ⟨a, e, b, c⟩
  · subst c; exact Or.inl ⟨a, b, hk⟩
  · subst c; exact Or.inr (Or.inl ⟨a, b, hk⟩)
  · subst c; exact Or.inr (Or.inr ⟨a, e, b, hk⟩)
def pWf (p : Nat → zP) (d : Nat) : Prop := ∀ a x e, a ≤ n → p a = (some x, e) → cWf x d (d + 1)
theorem pLst_w {p : Nat → zP} {c o : Nat} (ho : o = 1801 ∨ o = 1802) {d : Nat} (hb : ∀ a, a ≤ n → pOk (n := n) a 0 (p a)) (h0 : pWf (n := n) p d) (h1 : pWf (n := n) p (d + 1)) : ∀ (k : Nat) (b : Bool) (a : Nat) (x : List Nat) (e : Nat), a ≤ n → pLst tx n p c o k b a = (some x, e) → cWf x (d + pW b) (d + 1)
  | 0, b, a, x, e, ha, h => by cases h
  | k + 1, b, a, x, e, ha, h => by
    have hpb := hb a ha
    unfold pLst at h
    split at h
    · cases h
    · rename_i y e1 hy
      rw [hy] at hpb
      have hyw : cWf (y ++ pT o b) (d + pW b) (d + 1) := by
        cases b
        · exact cWf_app (h1 a y e1 ha hy) (cWf_one (Or.inr (Or.inr ⟨ho, d, rfl, rfl⟩)))
        · exact cWf_app (h0 a y e1 ha hy) (cWf_nil _)
      split at h
      · rename_i hc
        have hc := (pI_t.mp hc).1
        split at h
        · cases h
        · rename_i z e2 hz
          cases h
          exact cWf_app hyw (pLst_w ho hb h0 h1 k false (e1 + 1) z _ (by omega) hz)
      · cases h
        exact hyw
theorem pE_w {p : Nat → zP} {d : Nat} (hb : ∀ a, a ≤ n → pOk (n := n) a 0 (p a)) (h : ∀ j, j ≤ 2 → pWf (n := n) p (d + j)) : pWf (n := n) (pE tx n p) d := fun a x e ha hx => by
  refine pLst_w (c := 124) (Or.inr rfl) (fun a ha => pLst_b hb 100 true a ha) ?_ ?_ 100 true a x e ha hx
  · exact fun a x e ha hx => pLst_w (c := 38) (Or.inl rfl) hb (h 0 (by omega)) (h 1 (by omega)) 100 true a x e ha hx
  · exact fun a x e ha hx => pLst_w (c := 38) (d := d + 1) (Or.inl rfl) hb (h 1 (by omega)) (h 2 (by omega)) 100 true a x e ha hx
theorem pTest_w {d : Nat} (hd : d < 30) : pWf (n := n) (pTest tx n) d := fun a x e ha hx => by
  obtain ⟨s, h1, rfl, _⟩ := (pTest_b ha).2 x e hx
  exact cWf_one (Or.inl ⟨h1, hd, rfl⟩)
theorem pPart_w : ∀ (r d : Nat), d + 2 * r ≤ 29 → pWf (n := n) (pPart tx n r) d
  | 0, d, hd => fun a x e ha hx => by
    unfold pPart at hx
    split at hx
    · cases hx
    · split at hx
      · cases hx
      · exact pTest_w (by omega) a x e ha hx
  | r + 1, d, hd => fun a x e ha hx => by
    unfold pPart at hx
    split at hx
    · rename_i h1
      have h1 := (pI_t.mp h1).1
      split at hx
      · cases hx
      · rename_i y e1 hy
        cases hx
        exact cWf_app (pPart_w r d (by omega) _ y _ (by omega) hy) (cWf_one (Or.inr (Or.inl ⟨rfl, by omega, rfl⟩)))
    · split at hx
      · rename_i h1
        have h1 := (pI_t.mp h1).1
        split at hx
        · cases hx
        · rename_i y e1 hy
          split at hx
          · cases hx
            exact pE_w (fun a ha => pPart_b r a ha) (fun j hj => pPart_w r (d + j) (by omega)) _ _ _ (by omega) hy
          · cases hx
      · exact pTest_w (by omega) a x e ha hx
end
