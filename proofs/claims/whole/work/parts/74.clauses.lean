/-! the clauses of a garden, as both read them, and the garden that grows by them -/
section
variable (tx : Nat → Nat) (n : Nat)
def pWd (c : Nat) : Nat := if c = 115 then 0 else if c = 113 then 1 else if c = 102 then 2 else if c = 108 then 3 else 4
def pSp (w : Nat) : List Nat := if w = 0 then [115, 108, 111, 119] else if w = 1 then [113, 117, 105, 99, 107] else if w = 2 then [102, 114, 111, 115, 116] else [108, 111, 115, 101]
def pSk : List Nat → Nat → Bool × Nat
  | [], a => (true, a)
  | c :: r, a => if pI tx n c a = true then pSk r (a + 1) else (false, a)
abbrev zCl : Type := Option (Nat × Nat × List Nat) × Nat
def pBody (w v e1 : Nat) : zCl :=
  if w < 2 then
    (if pI tx n 32 e1 = true then
      (match pE tx n (pPart tx n 4) (e1 + 1) with
       | (none, e2) => (none, e2)
       | (some x, e2) => (some (w, v, x), e2))
     else (none, e1))
  else (some (w, v, []), e1)
def pCl (a : Nat) : zCl :=
  if a < n ∧ pWd (tx a) < 4 then
    (match pSk tx n (pSp (pWd (tx a)) ++ [32]) a with
     | (false, e) => (none, e)
     | (true, e) =>
       match pNum tx n e with
       | (none, e1) => (none, e1)
       | (some v, e1) => pBody tx n (pWd (tx a)) v e1)
  else (none, a)
def gU (G : zG) : Nat := gSt G (gN G)
def gBg (G : zG) (w v : Nat) : zG := (gN G + 1, up (gWd G) (gN G) w, up (gNu G) (gN G) v, up (gEn G) (gN G) (gU G), gCo G)
def gPt (G : zG) (s : Nat) : zG := (gN G, gWd G, gNu G, up (gEn G) (gN G - 1) (gU G + 1), up (gCo G) (gU G) s)
def gPs (G : zG) : List Nat → zG
  | [] => G
  | s :: r => gPs (gPt G s) r
def pTx : Nat → zG → Nat → Option zG × Nat
  | 0, _, a => (none, a)
  | k + 1, G, a =>
    match pCl tx n a with
    | (none, e) => (none, e)
    | (some (w, v, x), e) =>
      if n ≤ e then (some (gPs (gBg G w v) x), e)
      else if k = 0 then (none, e)
      else if pI tx n 59 e = true then pTx k (gPs (gBg G w v) x) (e + 1)
      else (none, e)
end
section
variable {tx : Nat → Nat} {n : Nat}
theorem pWd_b (c : Nat) : pWd c ≤ 4 := by unfold pWd; repeat (first | omega | split)
theorem pSk_b : ∀ (l : List Nat) (a : Nat), a ≤ n → (pSk tx n l a).2 ≤ n ∧ a ≤ (pSk tx n l a).2 ∧ ((pSk tx n l a).1 = true → (pSk tx n l a).2 = a + l.length)
  | [], a, h => ⟨h, Nat.le_refl _, fun _ => rfl⟩
  | c :: r, a, h => by
    unfold pSk
    split
    · rename_i h1
      have h1 := (pI_t.mp h1).1
      obtain ⟨x, y, z⟩ := pSk_b r (a + 1) (by omega)
      exact ⟨x, by omega, fun q => by rw [z q, List.length_cons]; omega⟩
    · exact ⟨h, Nat.le_refl _, fun q => by cases q⟩
/-- what a clause gives -/
def cOk (n a : Nat) : zCl → Prop
  | (none, e) => e ≤ n
  | (some (w, v, x), e) => a < e ∧ e ≤ n ∧ w ≤ 3 ∧ v ≤ 99 ∧ x.length + a ≤ e ∧ (w < 2 → cWf x 0 1)
theorem pBody_b {a w v e1 : Nat} (h : a < e1) (he : e1 ≤ n) (hw : w ≤ 3) (hv : v ≤ 99) : cOk n a (pBody tx n w v e1) := by
  unfold pBody
  split
  · split
    · rename_i h1
      have h1 := (pI_t.mp h1).1
      have hb := pE_b (tx := tx) (n := n) (p := pPart tx n 4) (fun a ha => pPart_b 4 a ha) (a := e1 + 1) (by omega)
      have hW := pE_w (tx := tx) (n := n) (p := pPart tx n 4) (d := 0) (fun a ha => pPart_b 4 a ha) (fun j hj => pPart_w 4 (0 + j) (by omega)) (e1 + 1)
      split
      · rename_i e2 hx
        rw [hx] at hb
        exact hb
      · rename_i x e2 hx
        rw [hx] at hb
        obtain ⟨b1, b2, b3⟩ := hb
        exact ⟨by omega, b2, hw, hv, by omega, fun _ => hW x e2 (by omega) hx⟩
    · exact he
  · exact ⟨h, he, hw, hv, by rw [List.length_nil]; omega, fun z => by omega⟩
theorem pCl_b {a : Nat} (ha : a ≤ n) : cOk n a (pCl tx n a) := by
  unfold pCl
  split
  · rename_i h0
    have hs := pSk_b (tx := tx) (n := n) (pSp (pWd (tx a)) ++ [32]) a ha
    split
    · rename_i e hx
      rw [hx] at hs
      exact hs.1
    · rename_i e hx
      rw [hx] at hs
      have hn := pNum_b (tx := tx) (n := n) (a := e) hs.1
      split
      · rename_i e1 hy
        exact (hn _ _ hy).1
      · rename_i v e1 hy
        obtain ⟨b1, b2, b3⟩ := hn _ _ hy
        have b4 := b3 v rfl
        have := hs.2.1
        exact pBody_b (by omega) b1 (by omega) b4.2
  · exact ha
/-- where the ends stand -/
def gMn (G : zG) : Prop := ∀ j k, j ≤ k → k < gN G → gEn G j ≤ gEn G k
theorem gMn_U {G : zG} (h : gMn G) {k : Nat} (hk : k < gN G) : gEn G k ≤ gU G := by
  obtain ⟨N, hN⟩ : ∃ N, gN G = N + 1 := ⟨gN G - 1, by omega⟩
  unfold gU
  rw [hN]
  exact h k N (by omega) (by omega)
theorem gMn_wf {G : zG} (h : gWf G) : gMn G := by
  intro j k hjk hk
  induction k with
  | zero => rw [show j = 0 by omega]; exact Nat.le_refl _
  | succ k ih =>
    rcases Nat.lt_or_ge j (k + 1) with q | q
    · have h1 := ih (by omega) (by omega)
      have h2 : gEn G k ≤ gEn G (k + 1) := (h.2 (k + 1) hk).2.2.1
      omega
    · rw [show j = k + 1 by omega]; exact Nat.le_refl _
theorem gU_b {G : zG} (h : gWf G) : gU G ≤ 100 := by
  unfold gU
  cases hN : gN G with
  | zero => exact Nat.zero_le _
  | succ N => exact (h.2 N (by omega)).2.2.2.1
theorem gU_Bg (G : zG) (w v : Nat) : gU (gBg G w v) = gU G := up_s (gEn G) (gN G) (gU G)
theorem gU_Pt {G : zG} (h : 1 ≤ gN G) (s : Nat) : gU (gPt G s) = gU G + 1 := by
  obtain ⟨N, hN⟩ : ∃ N, gN G = N + 1 := ⟨gN G - 1, by omega⟩
  show gSt (gPt G s) (gN G) = _
  rw [hN]
  show up (gEn G) (gN G - 1) (gU G + 1) N = _
  rw [hN, Nat.add_sub_cancel, up_s]
theorem gMn_Bg {G : zG} (h : gMn G) (w v : Nat) : gMn (gBg G w v) := by
  intro j k hjk hk
  have hk : k < gN G + 1 := hk
  show up (gEn G) (gN G) (gU G) j ≤ up (gEn G) (gN G) (gU G) k
  by_cases q : k = gN G
  · subst q
    rw [up_s]
    by_cases r : j = gN G
    · subst r; rw [up_s]; exact Nat.le_refl _
    · rw [up_n _ r]; exact gMn_U h (by omega)
  · rw [up_n _ q, up_n _ (by omega)]
    exact h j k hjk (by omega)
theorem gMn_Pt {G : zG} (h : gMn G) (s : Nat) : gMn (gPt G s) := by
  intro j k hjk hk
  have hk : k < gN G := hk
  show up (gEn G) (gN G - 1) (gU G + 1) j ≤ up (gEn G) (gN G - 1) (gU G + 1) k
  by_cases q : k = gN G - 1
  · subst q
    rw [up_s]
    by_cases r : j = gN G - 1
    · subst r; rw [up_s]; exact Nat.le_refl _
    · rw [up_n _ r]; have := gMn_U h (show j < gN G by omega); omega
  · rw [up_n _ q, up_n _ (by omega)]
    exact h j k hjk hk
theorem gPs_N : ∀ (x : List Nat) (G : zG), gN (gPs G x) = gN G ∧ gWd (gPs G x) = gWd G ∧ gNu (gPs G x) = gNu G
  | [], G => ⟨rfl, rfl, rfl⟩
  | s :: r, G => gPs_N r (gPt G s)
theorem gPs_app : ∀ (x y : List Nat) (G : zG), gPs G (x ++ y) = gPs (gPs G x) y
  | [], y, G => rfl
  | s :: r, y, G => gPs_app r y (gPt G s)
theorem gPs_U : ∀ (x : List Nat) (G : zG), 1 ≤ gN G → gU (gPs G x) = gU G + x.length
  | [], G, _ => rfl
  | s :: r, G, h => by
    show gU (gPs (gPt G s) r) = _
    rw [gPs_U r (gPt G s) h, gU_Pt h, List.length_cons]
    omega
theorem gPs_E : ∀ (x : List Nat) (G : zG) (k : Nat), k + 1 ≠ gN G → 1 ≤ gN G → gEn (gPs G x) k = gEn G k
  | [], G, k, _, _ => rfl
  | s :: r, G, k, h, h1 => by
    show gEn (gPs (gPt G s) r) k = _
    rw [gPs_E r (gPt G s) k h h1]
    exact up_n _ (by omega)
theorem gPs_C : ∀ (x : List Nat) (G : zG), 1 ≤ gN G → (∀ j, j < gU G → gCo (gPs G x) j = gCo G j) ∧ ∀ j, j < x.length → gCo (gPs G x) (gU G + j) = x.getD j 0
  | [], G, _ => ⟨fun _ _ => rfl, fun j hj => absurd hj (Nat.not_lt_zero _)⟩
  | s :: r, G, h => by
    have IH := gPs_C r (gPt G s) h
    rw [gU_Pt h] at IH
    refine ⟨fun j hj => (IH.1 j (by omega)).trans (up_n _ (by omega)), fun j hj => ?_⟩
    cases j with
    | zero => exact (IH.1 _ (by omega)).trans (up_s _ _ _)
    | succ j =>
      have := IH.2 j (by simp only [List.length_cons] at hj; omega)
      rw [Nat.add_right_comm] at this
      rw [← Nat.add_assoc]
      exact this
theorem gMn_Ps : ∀ (x : List Nat) (G : zG), gMn G → gMn (gPs G x)
  | [], G, h => h
  | s :: r, G, h => gMn_Ps r (gPt G s) (gMn_Pt h s)
/-- code that agrees up to the end is as good -/
theorem hW_c {c c2 : Nat → Nat} : ∀ (k i d : Nat), (∀ j, i ≤ j → j < i + k → c2 j = c j) → hW c i d k → hW c2 i d k
  | 0, _, _, _, h => h
  | k + 1, i, d, hc, h => by
    unfold hW at h ⊢
    rw [hc i (Nat.le_refl _) (by omega)]
    have IH := fun d => hW_c (c := c) (c2 := c2) k (i + 1) d (fun j a b => hc j (by omega) (by omega))
    rcases h with ⟨a, b, e⟩ | ⟨a, b, e⟩ | ⟨a, x, b, e⟩
    · exact Or.inl ⟨a, b, IH _ e⟩
    · exact Or.inr (Or.inl ⟨a, b, IH _ e⟩)
    · exact Or.inr (Or.inr ⟨a, x, b, IH _ e⟩)
theorem gWf_cl {G : zG} (h : gWf G) {w v : Nat} {x : List Nat} (hN : gN G < 10) (hw : w ≤ 3) (hv : v ≤ 99) (hl : gU G + x.length ≤ 100) (hx : w < 2 → cWf x 0 1) : gWf (gPs (gBg G w v) x) := by
  have h1 : 1 ≤ gN (gBg G w v) := Nat.le_add_left 1 _
  obtain ⟨a1, a2, a3⟩ := gPs_N x (gBg G w v)
  obtain ⟨c1, c2⟩ := gPs_C x (gBg G w v) h1
  have u := gPs_U x (gBg G w v) h1
  rw [gU_Bg] at c1 c2 u
  have eN : gN (gBg G w v) = gN G + 1 := rfl
  have eE : ∀ k, k < gN G → gEn (gPs (gBg G w v) x) k = gEn G k := fun k hk => by
    rw [gPs_E x _ k (by rw [eN]; omega) h1]
    exact up_n _ (by omega)
  have eL : gEn (gPs (gBg G w v) x) (gN G) = gU G + x.length := by
    rw [← u]
    show _ = gSt _ (gN (gPs (gBg G w v) x))
    rw [a1]
    rfl
  refine ⟨by rw [a1, eN]; omega, fun k hk => ?_⟩
  rw [a1, eN] at hk
  rw [a2, a3]
  by_cases q : k = gN G
  · subst q
    have eS : gSt (gPs (gBg G w v) x) (gN G) = gU G := by
      unfold gU
      cases hN2 : gN G with
      | zero => rfl
      | succ N => exact eE N (by omega)
    rw [eS, eL, show gWd (gBg G w v) (gN G) = w from up_s _ _ _, show gNu (gBg G w v) (gN G) = v from up_s _ _ _, Nat.add_sub_cancel_left]
    refine ⟨hw, hv, Nat.le_add_right _ _, hl, fun z => ?_⟩
    have := hx z (gCo (gPs (gBg G w v) x)) (gU G) 0 c2 rfl
    exact this
  · obtain ⟨b1, b2, b3, b4, b5⟩ := h.2 k (by omega)
    have eS : gSt (gPs (gBg G w v) x) k = gSt G k := by
      cases k with
      | zero => rfl
      | succ k => exact eE k (by omega)
    rw [eS, eE k (by omega), show gWd (gBg G w v) k = gWd G k from up_n _ q, show gNu (gBg G w v) k = gNu G k from up_n _ q]
    refine ⟨b1, b2, b3, b4, fun z => hW_c _ _ _ (fun j i1 i2 => ?_) (b5 z)⟩
    have := gMn_U (gMn_wf h) (show k < gN G by omega)
    exact c1 j (by omega)
theorem gU_cl (G : zG) (w v : Nat) (x : List Nat) : gU (gPs (gBg G w v) x) = gU G + x.length ∧ gN (gPs (gBg G w v) x) = gN G + 1 :=
  ⟨by rw [gPs_U x _ (Nat.le_add_left 1 _), gU_Bg], (gPs_N x _).1⟩
end
