/-! a call of garden, of both -/
theorem ga_f {m M m3 : zM} {g : Nat} (hg : g < 6) (h : zsm (rdP g) m M) (t : mTF g M m3) : zfr (gaP g) gaK m m3 ∧ zsm (fun q => rdP g q ∨ q = 20 ∨ q = 21 ∨ (113 ≤ q ∧ q ≤ 125)) m m3 ∧ ∀ g2 G2, g2 ≠ g → gWf G2 → gMo m g2 G2 → gMo m3 g2 G2 :=
  ⟨⟨zsm_tr (zsm_mo (fun q z => Or.inl (Or.inl z)) h) (zsm_mo (fun q z => by unfold gaP; omega) t.1), fun k hk => (t.2.1 k (fun z => hk (Or.inl z))).trans ((h 113 (by unfold rdP; omega)).1 k)⟩,
    zsm_tr (zsm_mo (fun q z => Or.inl z) h) (zsm_mo (fun q z => by omega) t.1), fun g2 G2 hn hw hm => gMo_o (gMo_sm hm h (fun q a b => by unfold rdP; omega)) hw t hn⟩
theorem ok_garden {m : zM} (hR : Rel m) : okI m_Box_garden m_Mod_garden [] m := by
  intro Q hQ
  obtain ⟨V, hH, S, R, B, gc, gs, n, tx, b1, b2, b3, hL, hvg, hI, hGar, hT, hTap, hAct, hLow⟩ := Rel_o hR
  have hG2 := hGar
  obtain ⟨g6, g20, g7, _⟩ := hGar
  refine en_Box_garden 49 m (sg_Box_garden_0 (zCall_m _) m ?_)
  rw [g20]
  by_cases q : gc < 6
  · have hv : rGv m n tx := ⟨hT.1, fun j hj => ⟨(hT.2.2.2 j hj).1, (hT.2.2.2 j hj).2.2⟩, hLow.2.2.1⟩
    refine ip (nI_lt (b := 6) q (by omega)) ⟨vp_in_nI q (by omega), ?_⟩
    rw [nI_clamp (by omega)]
    refine y_readG 27 q hv hT.2.1 (fun m1 h1 => ⟨_, rfl, ?_⟩)
    sorry
  · refine iq (n_nlt (b := 6) (by omega) (by omega)) ⟨_, rfl, en_Mod_garden 49 m (sg_Mod_garden_0 (zCall_m _) m ?_)⟩
    rw [g7]
    exact iq (fun z => z (by rw [show gc = 6 by omega]; rfl)) ⟨_, rfl, rfl, hQ m hR⟩
