/-! the image when a garden was read into -/
theorem rImg_ga {m m' : zM} {g gc : Nat} {gs gs' : Nat → zG} (hg : g < 6) (h : rImg m g gs) (hf : zfr (gaP g) gaK m m') (e20 : gI m' 20 2 = gI m 20 2) (hs : zsm (fun q => rdP g q ∨ q = 20 ∨ q = 21 ∨ (113 ≤ q ∧ q ≤ 125)) m m') (hgc : g ≤ gc) (hgs : ∀ i, i < g → gs' i = gs i) : rImg m' gc gs' := by
  obtain ⟨b, x, y, z⟩ := h
  have nP : ∀ q, ((33 ≤ q ∧ q ≤ 44) ∨ (144 ≤ q ∧ q ≤ 155)) → ¬ gaP g q := fun q hq => by unfold gaP rdP; omega
  have nK : ∀ k, 44 ≤ k → k ≤ 51 → ¬ gaK k := fun k a b => by unfold gaK rK; omega
  refine ⟨b, e20.trans x, (hf.2 44 (nK _ (by omega) (by omega))).trans y, fun e => ?_⟩
  obtain ⟨V, S, R, B, ⟨⟨⟨w, a1, a2, a3, a4, a5, a6, a7⟩, ⟨v1, v2, v3, v4, v5, v6⟩, i3, i4, i5⟩, ⟨s1, s2, s3⟩, ⟨p1, p2, p3⟩, b1, b2, b3⟩, j⟩ := z e
  have u : ∀ q, ((33 ≤ q ∧ q ≤ 44) ∨ (144 ≤ q ∧ q ≤ 155)) → ∀ k, gI m' q k = gI m q k := fun q hq => zfr_g hf (nP q hq) (by omega)
  have k : ∀ k, 44 ≤ k → k ≤ 51 → gI m' 113 k = gI m 113 k := fun k a b => hf.2 k (nK k a b)
  have eG : gG m' 33 = gG m 33 := (hf.1 33 (fun t => t.elim (nP 33 (by omega)) (by omega))).2.2
  refine ⟨V, S, R, B, ⟨⟨⟨w, (u 33 (by omega) _).trans a1, fun t ht => ?_, fun t ht => (u 37 (by omega) t).trans (a3 t ht), (u 33 (by omega) _).trans a4, (u 33 (by omega) _).trans a5, eG.trans a6, fun g2 G2 t => gX_o (a7 g2 G2 t) hs (by have := (j g2 G2 t).1; omega) (w.2.2.2.2.2 g2 G2 t).1⟩, ⟨(k _ (by omega) (by omega)).trans v1, fun t ht => ?_, fun t ht => (u 147 (by omega) t).trans (v3 t ht), (k _ (by omega) (by omega)).trans v4, (k _ (by omega) (by omega)).trans v5, (k _ (by omega) (by omega)).trans v6⟩, i3, fun t c d => (u 36 (by omega) t).trans (i4 t c d), fun t c d => (u 37 (by omega) t).trans (i5 t c d)⟩,
    ⟨rX_f s1 hf (nP _ (by omega)) (nP _ (by omega)) (by omega), rM_f s2 hf (nK _ (by omega) (by omega)) (nP _ (by omega)) (nP _ (by omega)) (fun _ => nP _ (by omega)) (by omega) (by omega) (by omega), s3⟩,
    ⟨rX_f p1 hf (nP _ (by omega)) (nP _ (by omega)) (by omega), rM_f p2 hf (nK _ (by omega) (by omega)) (nP _ (by omega)) (nP _ (by omega)) (fun z => absurd rfl z) (by omega) (by omega) (by omega), p3⟩,
    rX_f b1 hf (nP _ (by omega)) (nP _ (by omega)) (by omega), rM_f b2 hf (nK _ (by omega) (by omega)) (nP _ (by omega)) (nP _ (by omega)) (fun _ => nP _ (by omega)) (by omega) (by omega) (by omega), b3⟩, fun g2 G2 t => ?_⟩
  · obtain ⟨x, y, z⟩ := a2 t ht
    exact ⟨(u 34 (by omega) t).trans x, (u 35 (by omega) t).trans y, (u 36 (by omega) t).trans z⟩
  · obtain ⟨x, y, z⟩ := v2 t ht
    exact ⟨(u 144 (by omega) t).trans x, (u 145 (by omega) t).trans y, (u 146 (by omega) t).trans z⟩
  · obtain ⟨x, y⟩ := j g2 G2 t
    exact ⟨by omega, by rw [hgs g2 x]; exact y⟩
