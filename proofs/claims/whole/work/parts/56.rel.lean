/-! what ties the class's memory to the reference's -/
def rHedge (m : zM) (V : zV) : Prop := vX m 21 V ∧ vM m V ∧ vHr V ≤ 9999 ∧ (∀ j, vN V ≤ j → j < 8 → gI m 24 j = 0) ∧ (∀ j, 4 * vN V ≤ j → j < 32 → gI m 25 j = 0)
def rRows (m : zM) (n : Nat) (S P B : zRw) : Prop := (rX 8 27 m S ∧ rM 8 33 136 137 138 m S ∧ rW 5 8 n 10000 S) ∧ (rX 2 29 m P ∧ rM 2 37 139 140 0 m P ∧ rW 8 2 3 n P) ∧ (rX 8 31 m B ∧ rM 8 38 141 142 143 m B ∧ rW 8 8 n n B)
def rLim (m : zM) : Prop := (gI m 27 1 = nI 5 ∧ gI m 29 1 = nI 8 ∧ gI m 31 1 = nI 8) ∧ (gI m 39 1 = nI 5 ∧ gI m 41 1 = nI 8 ∧ gI m 43 1 = nI 8)
/-- the reference's image -/
def vI (m : zM) (V : zV) : Prop := gI m 113 46 = nI (vN V) ∧ (∀ j, j < vN V → gI m 144 j = nI (vK V j) ∧ gI m 145 j = nI (vV V j) ∧ gI m 146 j = vT V j) ∧ (∀ j, j < 4 * vN V → gI m 147 j = nI (vR V j)) ∧ gI m 113 48 = vD V ∧ gI m 113 47 = nI (vHr V) ∧ gI m 113 45 = vThe V
def rImgs (m : zM) (V : zV) (S P B : zRw) : Prop := (vX m 33 V ∧ vI m V ∧ vHr V ≤ 9999 ∧ (∀ j, vN V ≤ j → j < 8 → gI m 36 j = 0) ∧ (∀ j, 4 * vN V ≤ j → j < 32 → gI m 37 j = 0)) ∧
  (rX 8 39 m S ∧ rM 8 49 148 149 150 m S ∧ rW 5 8 (vN V) 10000 S) ∧ (rX 2 41 m P ∧ rM 2 50 151 152 0 m P ∧ rW 8 2 3 (vN V) P) ∧ (rX 8 43 m B ∧ rM 8 51 153 154 155 m B ∧ rW 8 8 (vN V) (vN V) B)
/-- the garden that holds is one of these -/
def vGs (gc : Nat) (gs : Nat → zG) (V : zV) : Prop := ∀ g G, vG V = some (g, G) → g < gc ∧ G = gs g
def rImg (m : zM) (gc : Nat) (gs : Nat → zG) : Prop := ∃ b : Bool, gI m 20 2 = zb b ∧ gI m 113 44 = zb b ∧ (b = true → ∃ V S P B, rImgs m V S P B ∧ vGs gc gs V)
def rGar (m : zM) (gc : Nat) (gs : Nat → zG) : Prop := gc ≤ 6 ∧ gI m 20 4 = nI gc ∧ gI m 113 7 = nI gc ∧ ∀ g, g < gc → gWf (gs g) ∧ gX m (58 + 5 * g) (gs g) ∧ gMo m g (gs g)
def rTxt (m : zM) (n : Nat) (tx : Nat → Nat) : Prop := n ≤ 100 ∧ gI m 88 0 = nI n ∧ gI m 113 9 = nI n ∧ ∀ j, j < n → gI m 89 j = nI (tx j) ∧ gI m 118 j = nI (tx j) ∧ tx j < 128
def rTape (m : zM) (t : Nat) : Prop := ∃ (s : Int32) (n : Nat), gI m (101 + 2 * t) 0 = s ∧ gI m 157 t = s ∧ (s = -1 ∨ s = 0 ∨ s = 1 ∨ s = 2 ∨ s = 3 ∨ s = 4) ∧ gI m (101 + 2 * t) 1 = nI n ∧ gI m 158 t = nI n ∧ n ≤ 60 ∧ (s = -1 → n = 0) ∧ ∀ j, j < 60 → gL m (102 + 2 * t) j = gL m 159 (60 * t + j) ∧ (s = 4 → gL m 159 (60 * t + j) = 0 ∨ gL m 159 (60 * t + j) = 1)
def rTap (m : zM) : Prop := ∀ t, t < 6 → rTape m t
def rAct (m : zM) : Prop := ∃ r : Nat, r ≤ 100 ∧ gI m 98 1 = nI r ∧ gI m 113 64 = nI r ∧ ∀ j, j < 20 → j < r → gI m 99 j = gI m 156 j
def aboveL : List Int32 := [-1, 0, 0, 0, 1, 2, 3]
def bodiesL : List Int32 := [10, 11, 12, 0, 20, 0, 30, 0, 0, 0, 0, 40, 50, 51, 0, 0, 0, 60, 71, 70, 0]
def lettersL : List Int32 := [115, 108, 111, 119, 113, 117, 105, 99, 107, 102, 114, 111, 115, 116, 108, 111, 115, 101]
def rLow (m : zM) : Prop := (∀ k, k < 7 → gI m 2 k = aboveL.getD k 0) ∧ (∀ k, k < 21 → gI m 3 k = bodiesL.getD k 0) ∧ (∀ i, i < 7 → ∀ j, j < zslen.getD i 0 → gI m (11 + i) j = (zsby.getD i []).getD j 0) ∧ (∀ k, k < 18 → gI m 126 k = lettersL.getD k 0)
def Rel (m : zM) : Prop := ∃ V S P B gc gs n tx, rHedge m V ∧ rRows m (vN V) S P B ∧ rLim m ∧ vGs gc gs V ∧ rImg m gc gs ∧ rGar m gc gs ∧ rTxt m n tx ∧ rTap m ∧ rAct m ∧ rLow m
section
variable {P : Nat → Prop} {m m' : zM}
theorem rHedge_sm {V : zV} (h : rHedge m V) (hs : zsm P m m') (h1 : ∀ q, 21 ≤ q → q ≤ 25 → ¬ P q) (h2 : ∀ q, 113 ≤ q → q ≤ 124 → ¬ P q) (h3 : ∀ q, 58 ≤ q → q < 88 → ¬ P q) : rHedge m' V := by
  obtain ⟨a, b, c, d, e⟩ := h
  exact ⟨vX_sm a hs h1 h3, vM_sm b hs h2, c, fun j x y => ((hs 24 (h1 24 (by omega) (by omega))).1 j).trans (d j x y), fun j x y => ((hs 25 (h1 25 (by omega) (by omega))).1 j).trans (e j x y)⟩
theorem rRows_sm {n : Nat} {S R B : zRw} (h : rRows m n S R B) (hs : zsm P m m') (h1 : ∀ q, 27 ≤ q → q ≤ 32 → ¬ P q) (h2 : ¬ P 113) (h3 : ∀ q, 136 ≤ q → q ≤ 143 → ¬ P q) (h0 : ¬ P 0) : rRows m' n S R B := by
  obtain ⟨⟨a, b, c⟩, ⟨d, e, f⟩, x, y, z⟩ := h
  exact ⟨⟨rX_sm a hs (h1 _ (by omega) (by omega)) (h1 _ (by omega) (by omega)), rM_sm b hs h2 (h3 _ (by omega) (by omega)) (h3 _ (by omega) (by omega)) (h3 _ (by omega) (by omega)), c⟩,
    ⟨rX_sm d hs (h1 _ (by omega) (by omega)) (h1 _ (by omega) (by omega)), rM_sm e hs h2 (h3 _ (by omega) (by omega)) (h3 _ (by omega) (by omega)) h0, f⟩,
    rX_sm x hs (h1 _ (by omega) (by omega)) (h1 _ (by omega) (by omega)), rM_sm y hs h2 (h3 _ (by omega) (by omega)) (h3 _ (by omega) (by omega)) (h3 _ (by omega) (by omega)), z⟩
theorem rLim_sm (h : rLim m) (hs : zsm P m m') (h1 : ∀ q, 27 ≤ q → q ≤ 44 → ¬ P q) : rLim m' := by
  obtain ⟨⟨a, b, c⟩, d, e, f⟩ := h
  exact ⟨⟨((hs 27 (h1 _ (by omega) (by omega))).1 1).trans a, ((hs 29 (h1 _ (by omega) (by omega))).1 1).trans b, ((hs 31 (h1 _ (by omega) (by omega))).1 1).trans c⟩,
    ((hs 39 (h1 _ (by omega) (by omega))).1 1).trans d, ((hs 41 (h1 _ (by omega) (by omega))).1 1).trans e, ((hs 43 (h1 _ (by omega) (by omega))).1 1).trans f⟩
theorem vI_sm {V : zV} (h : vI m V) (hs : zsm P m m') (h2 : ¬ P 113) (h3 : ∀ q, 144 ≤ q → q ≤ 147 → ¬ P q) : vI m' V := by
  obtain ⟨a, b, c, d, e, f⟩ := h
  have t : ∀ q, 144 ≤ q → q ≤ 147 → ∀ k, gI m' q k = gI m q k := fun q x y => (hs q (h3 q x y)).1
  have u : ∀ k, gI m' 113 k = gI m 113 k := (hs 113 h2).1
  refine ⟨(u _).trans a, fun j hj => ?_, fun j hj => (t _ (by omega) (by omega) j).trans (c j hj), (u _).trans d, (u _).trans e, (u _).trans f⟩
  obtain ⟨x, y, z⟩ := b j hj
  exact ⟨(t _ (by omega) (by omega) j).trans x, (t _ (by omega) (by omega) j).trans y, (t _ (by omega) (by omega) j).trans z⟩
theorem rImgs_sm {V : zV} {S R B : zRw} (h : rImgs m V S R B) (hs : zsm P m m') (h1 : ∀ q, 33 ≤ q → q ≤ 44 → ¬ P q) (h2 : ¬ P 113) (h3 : ∀ q, 144 ≤ q → q ≤ 155 → ¬ P q) (h4 : ∀ q, 58 ≤ q → q < 88 → ¬ P q) (h0 : ¬ P 0) : rImgs m' V S R B := by
  obtain ⟨⟨i, j, k, l, o⟩, ⟨a, b, c⟩, ⟨d, e, f⟩, x, y, z⟩ := h
  refine ⟨⟨vX_sm i hs (fun q a b => h1 q a (by omega)) h4, vI_sm j hs h2 (fun q a b => h3 q a (by omega)), k, fun t u v => ((hs 36 (h1 _ (by omega) (by omega))).1 t).trans (l t u v), fun t u v => ((hs 37 (h1 _ (by omega) (by omega))).1 t).trans (o t u v)⟩,
    ⟨rX_sm a hs (h1 _ (by omega) (by omega)) (h1 _ (by omega) (by omega)), rM_sm b hs h2 (h3 _ (by omega) (by omega)) (h3 _ (by omega) (by omega)) (h3 _ (by omega) (by omega)), c⟩,
    ⟨rX_sm d hs (h1 _ (by omega) (by omega)) (h1 _ (by omega) (by omega)), rM_sm e hs h2 (h3 _ (by omega) (by omega)) (h3 _ (by omega) (by omega)) h0, f⟩,
    rX_sm x hs (h1 _ (by omega) (by omega)) (h1 _ (by omega) (by omega)), rM_sm y hs h2 (h3 _ (by omega) (by omega)) (h3 _ (by omega) (by omega)) (h3 _ (by omega) (by omega)), z⟩
theorem rImg_sm {gc : Nat} {gs : Nat → zG} (h : rImg m gc gs) (hs : zsm P m m') (h5 : ¬ P 20) (h1 : ∀ q, 33 ≤ q → q ≤ 44 → ¬ P q) (h2 : ¬ P 113) (h3 : ∀ q, 144 ≤ q → q ≤ 155 → ¬ P q) (h4 : ∀ q, 58 ≤ q → q < 88 → ¬ P q) (h0 : ¬ P 0) : rImg m' gc gs := by
  obtain ⟨b, x, y, z⟩ := h
  refine ⟨b, ((hs 20 h5).1 2).trans x, ((hs 113 h2).1 44).trans y, fun e => ?_⟩
  obtain ⟨V, S, R, B, i, j⟩ := z e
  exact ⟨V, S, R, B, rImgs_sm i hs h1 h2 h3 h4 h0, j⟩
theorem rGar_sm {gc : Nat} {gs : Nat → zG} (h : rGar m gc gs) (hs : zsm P m m') (h5 : ¬ P 20) (h2 : ¬ P 113) (h4 : ∀ q, 58 ≤ q → q < 88 → ¬ P q) (h3 : ∀ q, 119 ≤ q → q ≤ 124 → ¬ P q) : rGar m' gc gs := by
  obtain ⟨a, b, c, d⟩ := h
  refine ⟨a, ((hs 20 h5).1 4).trans b, ((hs 113 h2).1 7).trans c, fun g hg => ?_⟩
  obtain ⟨x, y, z⟩ := d g hg
  exact ⟨x, gX_sm y hs (fun q a b => h4 q (by omega) (by omega)), gMo_sm z hs h3⟩
theorem rTxt_sm {n : Nat} {tx : Nat → Nat} (h : rTxt m n tx) (hs : zsm P m m') (h1 : ¬ P 88) (h2 : ¬ P 89) (h3 : ¬ P 113) (h4 : ¬ P 118) : rTxt m' n tx := by
  obtain ⟨a, b, c, d⟩ := h
  refine ⟨a, ((hs 88 h1).1 0).trans b, ((hs 113 h3).1 9).trans c, fun j hj => ?_⟩
  obtain ⟨x, y, z⟩ := d j hj
  exact ⟨((hs 89 h2).1 j).trans x, ((hs 118 h4).1 j).trans y, z⟩
theorem rTape_sm {t : Nat} (h : rTape m t) (hs : zsm P m m') (h1 : ¬ P (101 + 2 * t)) (h2 : ¬ P (102 + 2 * t)) (h3 : ∀ q, 157 ≤ q → q ≤ 159 → ¬ P q) : rTape m' t := by
  obtain ⟨s, n, a, b, c, d, e, f, g, i⟩ := h
  have u := (hs _ h1).1
  have v := (hs _ h2).2.1
  have w := fun q x y => (hs q (h3 q x y)).1
  have z := (hs 159 (h3 159 (by omega) (by omega))).2.1
  refine ⟨s, n, (u 0).trans a, (w 157 (by omega) (by omega) t).trans b, c, (u 1).trans d, (w 158 (by omega) (by omega) t).trans e, f, g, fun j hj => ?_⟩
  rw [v, z]
  exact i j hj
theorem rTap_sm (h : rTap m) (hs : zsm P m m') (h1 : ∀ q, 101 ≤ q → q ≤ 112 → ¬ P q) (h3 : ∀ q, 157 ≤ q → q ≤ 159 → ¬ P q) : rTap m' := fun t ht => rTape_sm (h t ht) hs (h1 _ (by omega) (by omega)) (h1 _ (by omega) (by omega)) h3
theorem rAct_sm (h : rAct m) (hs : zsm P m m') (h1 : ¬ P 98) (h2 : ¬ P 99) (h3 : ¬ P 113) (h4 : ¬ P 156) : rAct m' := by
  obtain ⟨r, a, b, c, d⟩ := h
  refine ⟨r, a, ((hs 98 h1).1 1).trans b, ((hs 113 h3).1 64).trans c, fun j x y => ?_⟩
  rw [(hs 99 h2).1, (hs 156 h4).1]
  exact d j x y
theorem rLow_sm (h : rLow m) (hs : zsm P m m') (h1 : ∀ q, q < 20 → ¬ P q) (h2 : ¬ P 126) : rLow m' := by
  obtain ⟨a, b, c, d⟩ := h
  exact ⟨fun k hk => ((hs 2 (h1 _ (by omega))).1 k).trans (a k hk), fun k hk => ((hs 3 (h1 _ (by omega))).1 k).trans (b k hk), fun i hi j hj => ((hs _ (h1 _ (by omega))).1 j).trans (c i hi j hj), fun k hk => ((hs 126 h2).1 k).trans (d k hk)⟩
end
/-- the places that questions write -/
def qP (q : Nat) : Prop := q = 26 ∨ (45 ≤ q ∧ q ≤ 56) ∨ (91 ≤ q ∧ q ≤ 97) ∨ (127 ≤ q ∧ q ≤ 135)
theorem Rel_q {m m' : zM} (h : Rel m) (hs : zsm qP m m') : Rel m' := by
  obtain ⟨V, S, R, B, gc, gs, n, tx, a, b, c, d, e, f, g, i, j, k⟩ := h
  refine ⟨V, S, R, B, gc, gs, n, tx, rHedge_sm a hs ?_ ?_ ?_, rRows_sm b hs ?_ ?_ ?_ ?_, rLim_sm c hs ?_, d, rImg_sm e hs ?_ ?_ ?_ ?_ ?_ ?_, rGar_sm f hs ?_ ?_ ?_ ?_, rTxt_sm g hs ?_ ?_ ?_ ?_, rTap_sm i hs ?_ ?_, rAct_sm j hs ?_ ?_ ?_ ?_, rLow_sm k hs ?_ ?_⟩ <;> unfold qP <;> first | (intro q x y z; omega) | (intro q x z; omega) | (intro z; omega)
/-- a call of both: the answers are one, and the memories stay tied -/
def okI (bx md : Nat) (as : List Value) (m : zM) : Prop := ∀ Q : zM → Prop, (∀ m', Rel m' → Q m') → zCall 50 bx (.ref 20 :: as) m (fun o m1 => ∃ x, o = some (.int x) ∧ zCall 50 md (.ref 113 :: as) m1 (fun o2 m2 => ∃ y, o2 = some (.int y) ∧ (x = y ∧ Q m2)))
def okL (bx md : Nat) (as : List Value) (m : zM) : Prop := ∀ Q : zM → Prop, (∀ m', Rel m' → Q m') → zCall 50 bx (.ref 20 :: as) m (fun o m1 => ∃ x, o = some (.long x) ∧ zCall 50 md (.ref 113 :: as) m1 (fun o2 m2 => ∃ y, o2 = some (.long y) ∧ (x = y ∧ Q m2)))
theorem zsm_q {P : Nat → Prop} {m m' : zM} (hp : ∀ q, P q → qP q) (h : zsm P m m') : zsm qP m m' := zsm_mo hp h
theorem h3q : ∀ q, hP3 q → qP q := fun q z => by unfold hP3 at z; unfold qP; omega
theorem h4q : ∀ q, hP4 q → qP q := fun q z => by unfold hP4 hP3 at z; unfold qP; omega
theorem h5q : ∀ q, hP5 q → qP q := fun q z => by unfold hP5 at z; unfold qP; omega
theorem mPq : ∀ q, mP q → qP q := fun q z => by unfold mP at z; unfold qP; omega
theorem mP2q : ∀ q, mP2 q → qP q := fun q z => by unfold mP2 at z; unfold qP; omega
theorem h3h : ∀ q, hP3 q → hP5 q := fun q z => by unfold hP3 at z; unfold hP5; omega
theorem h4h : ∀ q, hP4 q → hP5 q := fun q z => by unfold hP4 hP3 at z; unfold hP5; omega
theorem vM_5 {m m' : zM} {V : zV} (hV : vM m V) (hs : zsm hP5 m m') : vM m' V := vM_sm hV hs (fun q a b z => by unfold hP5 at z; omega)
theorem gG_21 {m : zM} {V : zV} (hV : vX m 21 V) : ∀ q, gG m 21 = some q → zsh q = 1 := fun q h => by
  rw [hV.2.2.2.2.2.2.1] at h
  cases hg : vG V with
  | none => rw [hg] at h; cases h
  | some x =>
    obtain ⟨g, G⟩ := x
    have h6 := (hV.1.2.2.2.2.2 g G hg).1
    rw [hg] at h
    cases h
    match g, h6 with
      | 0, _ => rfl
      | 1, _ => rfl
      | 2, _ => rfl
      | 3, _ => rfl
      | 4, _ => rfl
      | 5, _ => rfl
