/-! what reading into a garden leaves of the others -/
theorem zsh_g {g : Nat} (hg : g < 6) : zsh (58 + 5 * g) = 1 := by
  rcases (show g = 0 ∨ g = 1 ∨ g = 2 ∨ g = 3 ∨ g = 4 ∨ g = 5 by omega) with rfl | rfl | rfl | rfl | rfl | rfl <;> rfl
theorem gX_o {m m' : zM} {g g2 : Nat} {G : zG} (h : gX m (58 + 5 * g2) G) (hs : zsm (fun q => rdP g q ∨ q = 20 ∨ q = 21 ∨ (113 ≤ q ∧ q ≤ 125)) m m') (hn : g2 ≠ g) (hg : g2 < 6) : gX m' (58 + 5 * g2) G :=
  gX_sm h hs (fun q a b => by unfold rdP; omega)
theorem gMo_o {m m' : zM} {g g2 : Nat} {G : zG} (h : gMo m g2 G) (hw : gWf G) (hf : mTF g m m') (hn : g2 ≠ g) : gMo m' g2 G := by
  obtain ⟨a, b⟩ := h
  refine ⟨(hf.2.2.1 _ hn).trans a, fun k hk => ?_⟩
  obtain ⟨x, y, z, w⟩ := b k hk
  have h10 := hw.1
  have he := (hw.2 k hk).2.2.2.1
  refine ⟨(hf.2.2.2.1 120 (by omega) (by omega) _ (by omega)).trans x, (hf.2.2.2.1 121 (by omega) (by omega) _ (by omega)).trans y, fun t => ⟨(hf.2.2.2.1 122 (by omega) (by omega) _ (by omega)).trans (z t).1, (hf.2.2.2.1 123 (by omega) (by omega) _ (by omega)).trans (z t).2⟩, fun j hj => (hf.2.2.2.2 _ (by omega)).trans (w j hj)⟩
theorem gMo_i {m : zM} {g : Nat} {G : zG} (hw : gWf G) (h : mOld g G m) (h9 : gI m 119 g = nI (gN G)) : gMo m g G := by
  refine ⟨h9, fun k hk => ?_⟩
  obtain ⟨x, y, z⟩ := h.1 k hk
  have := gMn_U (gMn_wf hw) hk
  exact ⟨x, y, z, fun j hj => h.2 j (by omega)⟩
def gaP (g q : Nat) : Prop := rdP g q ∨ q = 20 ∨ q = 21 ∨ (119 ≤ q ∧ q ≤ 125)
def gaK (k : Nat) : Prop := rK k ∨ k = 7 ∨ k = 8 ∨ k = 9
/-- Rel behind a garden: what is left when the hedge, the image, the gardens and the text are told anew -/
theorem Rel_ga {m m' : zM} {V V' : zV} {S R B : zRw} {g gc n : Nat} {gs : Nat → zG} {tx : Nat → Nat} (hg : g < 6) (b1 : rS m (vN V) S) (b2 : rP m (vN V) R) (b3 : rBk m (vN V) B) (hL : rLim m) (hTap : rTap m) (hAct : rAct m) (hLow : rLow m) (hf : zfr (gaP g) gaK m m') (hH : rHedge m' V') (hN : vN V' = vN V) (hvg : vGs gc gs V') (hI : rImg m' gc gs) (hG : rGar m' gc gs) (hT : rTxt m' n tx) : Rel m' := by
  refine Rel_i (V := V') (S := S) (R := R) (B := B) hH (rS_f b1 hf ?_ ?_ ?_ ?_ ?_) (rP_f b2 hf ?_ ?_ ?_ ?_ ?_) (rBk_f b3 hf ?_ ?_ ?_ ?_ ?_) (rLim_f hL hf ?_) hvg hI hG hT (rTap_f hTap hf ?_ ?_) (rAct_f hAct hf ?_ ?_ ?_ ?_) (rLow_f hLow hf ?_ ?_) <;> (try unfold gaP) <;> (try unfold gaK) <;> (try unfold rdP) <;> (try unfold rK) <;> first | omega | (intro q a b; omega) | (intro q a b c; omega) | (intro q a; omega)
