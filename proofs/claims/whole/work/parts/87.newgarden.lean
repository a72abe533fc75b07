/-! the hedge with a new garden -/
theorem rHedge_ga {m m' : zM} {V : zV} {g : Nat} {G : zG} (hg : g < 6) (h : rHedge m V) (hf : zfr (gaP g) gaK m m') (e21 : ∀ k, gI m' 21 k = gI m 21 k) (hG : gG m' 21 = some (58 + 5 * g)) (hw : gWf G) (hx : gX m' (58 + 5 * g) G) (hm : gMo m' g G) (h8 : gI m' 113 8 = nI g) : rHedge m' (vN V, vK V, vV V, vT V, vR V, vD V, vHr V, some (g, G)) := by
  obtain ⟨⟨w, a1, a2, a3, a4, a5, a6, a7⟩, ⟨_, c1, c2, c3, c4, c5, c6, c7⟩, d, e, f⟩ := h
  have u : ∀ q, (22 ≤ q ∧ q ≤ 25) ∨ (114 ≤ q ∧ q ≤ 117) → ∀ k, gI m' q k = gI m q k := fun q hq => zfr_g hf (by unfold gaP rdP; omega) (by omega)
  have k : ∀ j, j < 3 → gI m' 113 j = gI m 113 j := fun j hj => hf.2 j (by unfold gaK rK; omega)
  have w' : vWf (vN V, vK V, vV V, vT V, vR V, vD V, vHr V, some (g, G)) := ⟨w.1, w.2.1, w.2.2.1, w.2.2.2.1, w.2.2.2.2.1, fun g2 G2 z => by
    have z : some (g, G) = some (g2, G2) := z
    cases z
    exact ⟨hg, hw⟩⟩
  refine ⟨⟨w', (e21 _).trans a1, fun j hj => ?_, fun j hj => (u 25 (by omega) j).trans (a3 j hj), (e21 _).trans a4, (e21 _).trans a5, hG, fun g2 G2 z => ?_⟩, ⟨w', (k 0 (by omega)).trans c1, fun j hj => ?_, fun j hj => (u 117 (by omega) j).trans (c3 j hj), (k 2 (by omega)).trans c4, (k 1 (by omega)).trans c5, h8, fun g2 G2 z => ?_⟩, d, fun j x y => (u 24 (by omega) j).trans (e j x y), fun j x y => (u 25 (by omega) j).trans (f j x y)⟩
  · obtain ⟨x, y, z⟩ := a2 j hj
    exact ⟨(u 22 (by omega) j).trans x, (u 23 (by omega) j).trans y, (u 24 (by omega) j).trans z⟩
  · have z : some (g, G) = some (g2, G2) := z
    cases z
    exact hx
  · obtain ⟨x, y, z⟩ := c2 j hj
    exact ⟨(u 114 (by omega) j).trans x, (u 115 (by omega) j).trans y, (u 116 (by omega) j).trans z⟩
  · have z : some (g, G) = some (g2, G2) := z
    cases z
    exact hm
/-- the hedge as it was, when another garden was read into -/
theorem rHedge_gn {m m' : zM} {V : zV} {g : Nat} (hg : g < 6) (h : rHedge m V) (hf : zfr (gaP g) gaK m m') (e21 : ∀ k, gI m' 21 k = gI m 21 k) (eG : gG m' 21 = gG m 21) (hv : ∀ g2 G2, vG V = some (g2, G2) → g2 ≠ g) (hs : zsm (fun q => rdP g q ∨ q = 20 ∨ q = 21 ∨ (113 ≤ q ∧ q ≤ 125)) m m') (hmo : ∀ g2 G2, g2 ≠ g → gWf G2 → gMo m g2 G2 → gMo m' g2 G2) (e8 : gI m' 113 8 = gI m 113 8) : rHedge m' V := by
  obtain ⟨⟨w, a1, a2, a3, a4, a5, a6, a7⟩, ⟨_, c1, c2, c3, c4, c5, c6, c7⟩, d, e, f⟩ := h
  have u : ∀ q, (22 ≤ q ∧ q ≤ 25) ∨ (114 ≤ q ∧ q ≤ 117) → ∀ k, gI m' q k = gI m q k := fun q hq => zfr_g hf (by unfold gaP rdP; omega) (by omega)
  have k : ∀ j, j < 3 → gI m' 113 j = gI m 113 j := fun j hj => hf.2 j (by unfold gaK rK; omega)
  have w6 := w.2.2.2.2.2
  refine ⟨⟨w, (e21 _).trans a1, fun j hj => ?_, fun j hj => (u 25 (by omega) j).trans (a3 j hj), (e21 _).trans a4, (e21 _).trans a5, eG.trans a6, fun g2 G2 z => gX_o (a7 g2 G2 z) hs (hv g2 G2 z) (w6 g2 G2 z).1⟩, ⟨w, (k 0 (by omega)).trans c1, fun j hj => ?_, fun j hj => (u 117 (by omega) j).trans (c3 j hj), (k 2 (by omega)).trans c4, (k 1 (by omega)).trans c5, e8.trans c6, fun g2 G2 z => hmo g2 G2 (hv g2 G2 z) (w6 g2 G2 z).2 (c7 g2 G2 z)⟩, d, fun j x y => (u 24 (by omega) j).trans (e j x y), fun j x y => (u 25 (by omega) j).trans (f j x y)⟩
  · obtain ⟨x, y, z⟩ := a2 j hj
    exact ⟨(u 22 (by omega) j).trans x, (u 23 (by omega) j).trans y, (u 24 (by omega) j).trans z⟩
  · obtain ⟨x, y, z⟩ := c2 j hj
    exact ⟨(u 114 (by omega) j).trans x, (u 115 (by omega) j).trans y, (u 116 (by omega) j).trans z⟩
