/-! what reading into a garden leaves of the others -/
theorem zsh_g {g : Nat} (hg : g < 6) : zsh (58 + 5 * g) = 1 := by
  rcases (show g = 0 ∨ g = 1 ∨ g = 2 ∨ g = 3 ∨ g = 4 ∨ g = 5 by omega) with rfl | rfl | rfl | rfl | rfl | rfl <;> rfl
theorem gX_o {m m' : zM} {g g2 : Nat} {G : zG} (h : gX m (58 + 5 * g2) G) (hs : zsm (fun q => rdP g q ∨ q = 20 ∨ q = 21 ∨ (113 ≤ q ∧ q ≤ 125)) m m') (hn : g2 ≠ g) (hg : g2 < 6) : gX m' (58 + 5 * g2) G :=
  gX_sm h hs (fun q a b => by unfold rdP; omega)
theorem gMo_o {m m' : zM} {g g2 : Nat} {G : zG} (h : gMo m g2 G) (hw : gWf G) (hf : mTF g m m') (hn : g2 ≠ g) : gMo m' g2 G := by
  obtain ⟨a, b⟩ := h
  refine ⟨(hf.2.2.1 _ hn).trans a, fun k hk => ?_⟩
  obtain ⟨x, y, z, w⟩ := b k hk
  have h10 := hw.1
  have he := (hw.2 k hk).2.2.2.1
  refine ⟨(hf.2.2.2.1 120 (by omega) (by omega) _ (by omega)).trans x, (hf.2.2.2.1 121 (by omega) (by omega) _ (by omega)).trans y, fun t => ⟨(hf.2.2.2.1 122 (by omega) (by omega) _ (by omega)).trans (z t).1, (hf.2.2.2.1 123 (by omega) (by omega) _ (by omega)).trans (z t).2⟩, fun j hj => (hf.2.2.2.2 _ (by omega)).trans (w j hj)⟩
theorem gMo_i {m : zM} {g : Nat} {G : zG} (hw : gWf G) (h : mOld g G m) (h9 : gI m 119 g = nI (gN G)) : gMo m g G := by
  refine ⟨h9, fun k hk => ?_⟩
  obtain ⟨x, y, z⟩ := h.1 k hk
  have := gMn_U (gMn_wf hw) hk
  exact ⟨x, y, z, fun j hj => h.2 j (by omega)⟩
