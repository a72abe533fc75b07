/-! a call of garden, of both -/
theorem ga_f {m M m3 : zM} {g : Nat} (hg : g < 6) (h : zsm (rdP g) m M) (t : mTF g M m3) : zfr (gaP g) gaK m m3 ∧ zsm (fun q => rdP g q ∨ q = 20 ∨ q = 21 ∨ (113 ≤ q ∧ q ≤ 125)) m m3 ∧ ∀ g2 G2, g2 ≠ g → gWf G2 → gMo m g2 G2 → gMo m3 g2 G2 :=
  ⟨⟨zsm_tr (zsm_mo (fun q z => Or.inl (Or.inl z)) h) (zsm_mo (fun q z => by unfold gaP; omega) t.1), fun k hk => (t.2.1 k (fun z => hk (Or.inl z))).trans ((h 113 (by unfold rdP; omega)).1 k)⟩,
    zsm_tr (zsm_mo (fun q z => Or.inl z) h) (zsm_mo (fun q z => by omega) t.1), fun g2 G2 hn hw hm => gMo_o (gMo_sm hm h (fun q a b => by unfold rdP; omega)) hw t hn⟩
theorem ga_s {m M m3 : zM} {g : Nat} (hg : g < 6) (h : zsm (fun q => rdP g q ∨ q = 20 ∨ q = 21) m M) (t : mTF g M m3) : zfr (gaP g) gaK m m3 ∧ zsm (fun q => rdP g q ∨ q = 20 ∨ q = 21 ∨ (113 ≤ q ∧ q ≤ 125)) m m3 ∧ ∀ g2 G2, g2 ≠ g → gWf G2 → gMo m g2 G2 → gMo m3 g2 G2 :=
  ⟨⟨zsm_tr (zsm_mo (fun q z => Or.inl (by unfold gaP; exact z.elim Or.inl (fun z => Or.inr (z.elim Or.inl (fun z => Or.inr (Or.inl z)))))) h) (zsm_mo (fun q z => by unfold gaP; omega) t.1), fun k hk => (t.2.1 k (fun z => hk (Or.inl z))).trans ((h 113 (by unfold rdP; omega)).1 k)⟩,
    zsm_tr (zsm_mo (fun q z => z.elim Or.inl (fun z => Or.inr (z.elim Or.inl (fun z => Or.inr (Or.inl z))))) h) (zsm_mo (fun q z => by omega) t.1), fun g2 G2 hn hw hm => gMo_o (gMo_sm hm h (fun q a b => by unfold rdP; omega)) hw t hn⟩
theorem ok_garden {m : zM} (hR : Rel m) : okI m_Box_garden m_Mod_garden [] m := by
  intro Q hQ
  obtain ⟨V, hH, S, R, B, gc, gs, n, tx, b1, b2, b3, hL, hvg, hI, hGar, hT, hTap, hAct, hLow⟩ := Rel_o hR
  have hG2 := hGar
  obtain ⟨g6, g20, g7, _⟩ := hGar
  refine en_Box_garden 49 m (sg_Box_garden_0 (zCall_m _) m ?_)
  rw [g20]
  by_cases q : gc < 6
  · have hv : rGv m n tx := ⟨hT.1, fun j hj => ⟨(hT.2.2.2 j hj).1, (hT.2.2.2 j hj).2.2⟩, hLow.2.2.1⟩
    refine ip (nI_lt (b := 6) q (by omega)) ⟨vp_in_nI q (by omega), ?_⟩
    rw [nI_clamp (by omega)]
    refine y_readG 27 q hv hT.2.1 (fun m1 h1 => ⟨_, rfl, ?_⟩)
    have hwf := pTx_wf (tx := tx) hT.1 10 (0, fun _ => 0, fun _ => 0, fun _ => 0, fun _ => 0) 0 gWf_0 (by decide) (by decide) (Nat.zero_le _)
    have hvg2 : ∀ g2 G2, vG V = some (g2, G2) → g2 ≠ gc := fun g2 G2 z => by have := (hvg g2 G2 z).1; omega
    rcases hx : pTx tx n 10 (0, fun _ => 0, fun _ => 0, fun _ => 0, fun _ => 0) 0 with ⟨_ | G, e⟩
    · rw [hx] at h1 hwf
      have hwf : e ≤ n := hwf
      have hn := hT.1
      obtain ⟨G', mm, c1, rfl⟩ := h1
      have hM : zsm (rdP gc) m (sI mm 88 0 0) := zsm_sI c1.1 (Or.inl rfl) 0
      have e88 : gI (sI mm 88 0 0) 88 0 = nI 0 := by rw [gIs, if_pos ⟨rfl, rfl⟩]; rfl
      generalize sI mm 88 0 0 = M at hM e88
      have g7M : gI M 113 7 = nI gc := ((hM 113 (by unfold rdP; omega)).1 7).trans g7
      refine iq (n_nlt (b := 0) (Nat.zero_le _) (by omega)) ⟨_, rfl, en_Mod_garden 49 M (sg_Mod_garden_0 (zCall_m _) M ?_)⟩
      rw [g7M]
      refine ip (nI_ne (b := 6) (by omega) (by omega) (by omega)) (y_goesM (n := n) (tx := tx) 42 q ⟨hT.1, ((hM 113 (by unfold rdP; omega)).1 9).trans hT.2.2.1, fun j hj => ⟨((hM 118 (by unfold rdP; omega)).1 j).trans (hT.2.2.2 j hj).2.1, (hT.2.2.2 j hj).2.2⟩⟩ (fun j hj => ((hM 126 (by unfold rdP; omega)).1 j).trans (hLow.2.2.2 j hj)) (fun m3 h3 => ⟨_, rfl, ?_⟩))
      rw [hx] at h3 ⊢
      obtain ⟨t1, t2⟩ := h3
      refine iq i00 ⟨_, rfl, ?_, hQ _ ?_⟩
      · rw [gIs, if_neg (by omega), t2]
        rfl
      · obtain ⟨f1, f2, f3⟩ := ga_f q hM t1
        have f1' : zfr (gaP gc) gaK m (sI m3 113 9 0) := zfr_k f1 (by unfold gaK; omega) _
        have f2' := zsm_sI f2 (show rdP gc 113 ∨ 113 = 20 ∨ 113 = 21 ∨ (113 ≤ 113 ∧ 113 ≤ 125) by omega) (k := 9) 0
        have f3' : ∀ g2 G2, g2 ≠ gc → gWf G2 → gMo m g2 G2 → gMo (sI m3 113 9 0) g2 G2 := fun g2 G2 a b c => gMo_sm (f3 g2 G2 a b c) (zsm_sI (P := fun q => q = 113) (zsm_refl m3) rfl _) (fun p x y => by omega)
        have e20 : ∀ k, gI (sI m3 113 9 0) 20 k = gI m 20 k := fun k => by rw [gIs, if_neg (by omega), (t1.1 20 (by omega)).1, (hM 20 (by unfold rdP; omega)).1]
        have e21 : ∀ k, gI (sI m3 113 9 0) 21 k = gI m 21 k := fun k => by rw [gIs, if_neg (by omega), (t1.1 21 (by omega)).1, (hM 21 (by unfold rdP; omega)).1]
        have eG : gG (sI m3 113 9 0) 21 = gG m 21 := ((t1.1 21 (by omega)).2.2).trans ((hM 21 (by unfold rdP; omega)).2.2)
        have e113 : ∀ k, ¬ rK k → k ≠ 9 → gI (sI m3 113 9 0) 113 k = gI m 113 k := fun k a b => by rw [gIs, if_neg (by omega), t1.2.1 k a, (hM 113 (by unfold rdP; omega)).1]
        refine Rel_ga q b1 b2 b3 hL hTap hAct hLow f1' (rHedge_gn q hH f1' e21 eG hvg2 f2' f3' (e113 8 (by unfold rK; omega) (by omega))) rfl hvg (rImg_ga q hI f1' (e20 2) f2' (Nat.le_refl _) (fun _ _ => rfl)) (rGar_gn hG2 q f2' f3' (e20 4) (e113 7 (by unfold rK; omega) (by omega))) (n := 0) (tx := tx) ⟨by omega, ?_, ?_, fun j hj => absurd hj (Nat.not_lt_zero _)⟩
        · rw [gIs, if_neg (by omega), (t1.1 88 (by omega)).1]; exact e88
        · rw [gIs, if_pos ⟨rfl, rfl⟩]; rfl
    · rw [hx] at h1 hwf
      obtain ⟨hW, hen⟩ := hwf
      have hn := hT.1
      obtain ⟨mm, c1, rfl⟩ := h1
      have hM0 : zsm (rdP gc) m (sI mm 88 0 0) := zsm_sI c1.1 (Or.inl rfl) 0
      have e88 : gI (sI mm 88 0 0) 88 0 = nI 0 := by rw [gIs, if_pos ⟨rfl, rfl⟩]; rfl
      have xG : gX (sI mm 88 0 0) (58 + 5 * gc) G := gX_sm (P := fun q => q = 88) c1.2.2.2.2.1 (zsm_sI (P := fun q => q = 88) (zsm_refl mm) rfl _) (fun q b c z => by omega)
      generalize sI mm 88 0 0 = M0 at hM0 e88 xG
      have u0 : ∀ p, ¬ rdP gc p → ∀ k, gI M0 p k = gI m p k := fun p hp => (hM0 p hp).1
      refine ip (show (-1 : Int32) < 0 by decide) ?_
      rw [u0 20 (by unfold rdP; omega), g20]
      refine ⟨vp_in_nI q (by omega), ?_⟩
      have gM : gI (sG M0 21 (some (58 + 5 * gc))) 20 4 = nI gc := by rw [gI_sG, u0 20 (by unfold rdP; omega), g20]
      rw [nI_clamp (by omega), zsh_g q, gM, nI_1]
      have hM : zsm (fun q => rdP gc q ∨ q = 20 ∨ q = 21) m (sI (sG M0 21 (some (58 + 5 * gc))) 20 4 (nI (gc + 1))) := zsm_sI (P := fun q => rdP gc q ∨ q = 20 ∨ q = 21) (zsm_sG (P := fun q => rdP gc q ∨ q = 20 ∨ q = 21) (zsm_mo (fun q z => Or.inl z) hM0) (Or.inr (Or.inr rfl)) _) (Or.inr (Or.inl rfl)) _
      have a20 : gI (sI (sG M0 21 (some (58 + 5 * gc))) 20 4 (nI (gc + 1))) 20 4 = nI (gc + 1) := by rw [gIs, if_pos ⟨rfl, rfl⟩]
      have a202 : gI (sI (sG M0 21 (some (58 + 5 * gc))) 20 4 (nI (gc + 1))) 20 2 = gI m 20 2 := by rw [gIs, if_neg (by omega), gI_sG, u0 20 (by unfold rdP; omega)]
      have a21 : ∀ k, gI (sI (sG M0 21 (some (58 + 5 * gc))) 20 4 (nI (gc + 1))) 21 k = gI m 21 k := fun k => by rw [gIs, if_neg (by omega), gI_sG, u0 21 (by unfold rdP; omega)]
      have aG : gG (sI (sG M0 21 (some (58 + 5 * gc))) 20 4 (nI (gc + 1))) 21 = some (58 + 5 * gc) := rfl
      have a88 : gI (sI (sG M0 21 (some (58 + 5 * gc))) 20 4 (nI (gc + 1))) 88 0 = nI 0 := by rw [gIs, if_neg (by omega), gI_sG]; exact e88
      have aX : gX (sI (sG M0 21 (some (58 + 5 * gc))) 20 4 (nI (gc + 1))) (58 + 5 * gc) G := gX_sm (P := fun q => q = 20 ∨ q = 21) xG (zsm_sI (P := fun q => q = 20 ∨ q = 21) (zsm_sG (P := fun q => q = 20 ∨ q = 21) (zsm_refl M0) (Or.inr rfl) _) (Or.inl rfl) _) (fun q b c z => by omega)
      generalize sI (sG M0 21 (some (58 + 5 * gc))) 20 4 (nI (gc + 1)) = M at hM a20 a202 a21 aG a88 aX
      rw [a20, nI_n1]
      have uM : ∀ p, ¬ (rdP gc p ∨ p = 20 ∨ p = 21) → ∀ k, gI M p k = gI m p k := fun p hp => (hM p hp).1
      change ∃ x, some (Value.int (nI gc)) = some (Value.int x) ∧ _
      refine ⟨_, rfl, en_Mod_garden 49 M (sg_Mod_garden_0 (zCall_m _) M ?_)⟩
      rw [uM 113 (by unfold rdP; omega), g7]
      refine ip (nI_ne (b := 6) (by omega) (by omega) (by omega)) (y_goesM (n := n) (tx := tx) 42 q ⟨hT.1, (uM 113 (by unfold rdP; omega) 9).trans hT.2.2.1, fun j hj => ⟨(uM 118 (by unfold rdP; omega) j).trans (hT.2.2.2 j hj).2.1, (hT.2.2.2 j hj).2.2⟩⟩ (fun j hj => (uM 126 (by unfold rdP; omega) j).trans (hLow.2.2.2 j hj)) (fun m3 h3 => ⟨_, rfl, ?_⟩))
      rw [hx] at h3 ⊢
      obtain ⟨⟨t1, t2, t3, t4⟩, t5⟩ := h3
      refine ip i10 ?_
      have e7a : gI (sI m3 113 9 0) 113 7 = nI gc := by rw [gIs, if_neg (by omega), t1.2.1 7 (by unfold rK; omega), uM 113 (by unfold rdP; omega), g7]
      have e7b : gI (sI (sI m3 113 9 0) 113 8 (nI gc)) 113 7 = nI gc := by rw [gIs, if_neg (by omega), e7a]
      rw [e7a, e7b, nI_1]
      have hz : zsm (fun q => q = 113) m3 (sI (sI (sI m3 113 9 0) 113 8 (nI gc)) 113 7 (nI (gc + 1))) := zsm_sI (P := fun q => q = 113) (zsm_sI (P := fun q => q = 113) (zsm_sI (P := fun q => q = 113) (zsm_refl m3) rfl _) rfl _) rfl _
      obtain ⟨f1, f2, f3⟩ := ga_s q hM t1
      have f1' : zfr (gaP gc) gaK m (sI (sI (sI m3 113 9 0) 113 8 (nI gc)) 113 7 (nI (gc + 1))) := zfr_k (zfr_k (zfr_k f1 (by unfold gaK; omega) _) (by unfold gaK; omega) _) (by unfold gaK; omega) _
      have k7 : gI (sI (sI (sI m3 113 9 0) 113 8 (nI gc)) 113 7 (nI (gc + 1))) 113 7 = nI (gc + 1) := by rw [gIs, if_pos ⟨rfl, rfl⟩]
      have k8 : gI (sI (sI (sI m3 113 9 0) 113 8 (nI gc)) 113 7 (nI (gc + 1))) 113 8 = nI gc := by rw [gIs, if_neg (by omega), gIs, if_pos ⟨rfl, rfl⟩]
      have k9 : gI (sI (sI (sI m3 113 9 0) 113 8 (nI gc)) 113 7 (nI (gc + 1))) 113 9 = nI 0 := by rw [gIs, if_neg (by omega), gIs, if_neg (by omega), gIs, if_pos ⟨rfl, rfl⟩]; rfl
      generalize sI (sI (sI m3 113 9 0) 113 8 (nI gc)) 113 7 (nI (gc + 1)) = m4 at hz f1' k7 k8 k9
      have hz2 : zsm (fun q => q = 113 ∨ (119 ≤ q ∧ q ≤ 125)) M m4 := zsm_tr t1.1 (zsm_mo (fun q z => Or.inl z) hz)
      have f2' : zsm (fun q => rdP gc q ∨ q = 20 ∨ q = 21 ∨ (113 ≤ q ∧ q ≤ 125)) m m4 := zsm_tr f2 (zsm_mo (fun q z => by omega) hz)
      have f3' : ∀ g2 G2, g2 ≠ gc → gWf G2 → gMo m g2 G2 → gMo m4 g2 G2 := fun g2 G2 a b c => gMo_sm (f3 g2 G2 a b c) hz (fun p x y => by omega)
      have x4 : gX m4 (58 + 5 * gc) G := gX_sm aX hz2 (fun q b c z => by omega)
      have o4 : gMo m4 gc G := gMo_sm (gMo_i hW t4 t5) hz (fun p x y => by omega)
      have w20 : ∀ k, gI m4 20 k = gI M 20 k := (hz2 20 (by omega)).1
      have w21 : ∀ k, gI m4 21 k = gI m 21 k := fun k => ((hz2 21 (by omega)).1 k).trans (a21 k)
      have wG : gG m4 21 = some (58 + 5 * gc) := ((hz2 21 (by omega)).2.2).trans aG
      have w88 : gI m4 88 0 = nI 0 := ((hz2 88 (by omega)).1 0).trans a88
      have hvg' : vGs (gc + 1) (fun i => if i = gc then G else gs i) (vN V, vK V, vV V, vT V, vR V, vD V, vHr V, some (gc, G)) := fun g2 G2 z => by
        have z : some (gc, G) = some (g2, G2) := z
        cases z
        exact ⟨Nat.lt_succ_self _, (if_pos rfl).symm⟩
      refine ⟨_, rfl, k8.symm, hQ _ ?_⟩
      exact Rel_ga q b1 b2 b3 hL hTap hAct hLow f1' (rHedge_ga q hH f1' w21 wG hW x4 o4 k8) rfl hvg' (rImg_ga q hI f1' ((w20 2).trans a202) f2' (Nat.le_succ _) (fun i hi => if_neg (by omega))) (rGar_ga hG2 q f2' f3' ((w20 4).trans a20) k7 hW x4 o4) (n := 0) (tx := tx) ⟨by omega, w88, k9, fun j hj => absurd hj (Nat.not_lt_zero _)⟩
  · refine iq (n_nlt (b := 6) (by omega) (by omega)) ⟨_, rfl, en_Mod_garden 49 m (sg_Mod_garden_0 (zCall_m _) m ?_)⟩
    rw [g7]
    exact iq (fun z => z (by rw [show gc = 6 by omega]; rfl)) ⟨_, rfl, rfl, hQ m hR⟩
