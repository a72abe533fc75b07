/-! the gardens when one was read into -/
theorem rGar_gn {m m' : zM} {g : Nat} {gs : Nat → zG} (h : rGar m g gs) (hg : g < 6) (hs : zsm (fun q => rdP g q ∨ q = 20 ∨ q = 21 ∨ (113 ≤ q ∧ q ≤ 125)) m m') (hmo : ∀ g2 G2, g2 ≠ g → gWf G2 → gMo m g2 G2 → gMo m' g2 G2) (e4 : gI m' 20 4 = gI m 20 4) (e7 : gI m' 113 7 = gI m 113 7) : rGar m' g gs := by
  obtain ⟨a, b, c, d⟩ := h
  refine ⟨a, e4.trans b, e7.trans c, fun i hi => ?_⟩
  obtain ⟨x, y, z⟩ := d i hi
  exact ⟨x, gX_o y hs (by omega) (by omega), hmo i _ (by omega) x z⟩
theorem rGar_ga {m m' : zM} {g : Nat} {gs : Nat → zG} {G : zG} (h : rGar m g gs) (hg : g < 6) (hs : zsm (fun q => rdP g q ∨ q = 20 ∨ q = 21 ∨ (113 ≤ q ∧ q ≤ 125)) m m') (hmo : ∀ g2 G2, g2 ≠ g → gWf G2 → gMo m g2 G2 → gMo m' g2 G2) (e4 : gI m' 20 4 = nI (g + 1)) (e7 : gI m' 113 7 = nI (g + 1)) (hw : gWf G) (hx : gX m' (58 + 5 * g) G) (hm : gMo m' g G) : rGar m' (g + 1) (fun i => if i = g then G else gs i) := by
  obtain ⟨a, b, c, d⟩ := h
  refine ⟨by omega, e4, e7, fun i hi => ?_⟩
  dsimp only
  by_cases q : i = g
  · subst q
    rw [if_pos rfl]
    exact ⟨hw, hx, hm⟩
  · rw [if_neg q]
    obtain ⟨x, y, z⟩ := d i (by omega)
    exact ⟨x, gX_o y hs q (by omega), hmo i _ q x z⟩
