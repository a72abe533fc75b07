/-! image, undo of both -/
theorem vI_of {m m2 : zM} {V : zV} (hM : vM m V) (h0 : gI m2 113 46 = gI m 113 0) (h1 : gI m2 113 47 = gI m 113 1) (h2 : gI m2 113 48 = gI m 113 2) (h3 : gI m2 113 45 = gI m 113 8) (hA : ∀ j, j < 8 → gI m2 144 j = gI m 114 j ∧ gI m2 145 j = gI m 115 j ∧ gI m2 146 j = gI m 116 j) (hB : ∀ j, j < 32 → gI m2 147 j = gI m 117 j) : vI m2 V := by
  obtain ⟨w, a1, a2, a3, a4, a5, a6, _⟩ := hM
  have h8 := w.1
  refine ⟨h0.trans a1, fun j hj => ?_, fun j hj => (hB j (by omega)).trans (a3 j hj), h2.trans a4, h1.trans a5, h3.trans a6⟩
  obtain ⟨x, y, z⟩ := hA j (by omega)
  obtain ⟨u, v, w⟩ := a2 j hj
  exact ⟨x.trans u, y.trans v, z.trans w⟩
theorem rM_cp {K ci pa pb pe ci2 qa qb qe L : Nat} {m m2 : zM} {R : zRw} (h : rM K ci pa pb pe m R) (hL : rC R ≤ L) (hc : gI m2 113 ci2 = gI m 113 ci) (h1 : ∀ j, j < L → gI m2 qa j = gI m pa j) (h2 : ∀ j, j < L → gI m2 qb j = gI m pb j) (h3 : qe ≠ 0 → pe ≠ 0 ∧ ∀ j, j < L → gI m2 qe j = gI m pe j) : rM K ci2 qa qb qe m2 R :=
  ⟨hc.trans h.1, fun j hj => ⟨(h1 j (by omega)).trans (h.2 j hj).1, fun z => (h2 j (by omega)).trans ((h.2 j hj).2.1 z), fun z => ((h3 z).2 j (by omega)).trans ((h.2 j hj).2.2 (h3 z).1)⟩⟩
theorem ok_image {m : zM} (hR : Rel m) : okI m_Box_image m_Mod_image [] m := by
  intro Q hQ
  obtain ⟨V, hH, hr⟩ := Rel_o hR
  have hH' := hH
  obtain ⟨hX, hM, hh, hz1, hz2⟩ := hH
  have h8 := hX.1.1
  have hr' := hr
  obtain ⟨S0, R0, B0, gc0, gs0, n0, tx0, b1, b2, b3, hL, hg0, _⟩ := hr'
  refine en_Box_image 49 m (sg_Box_image_0 (zCall_m _) m (y_become_33 47 (gG_21 hX) fun m1 s1 bx => ⟨rfl, Or.inr rfl, _, rfl, ?_⟩))
  have o1 : ∀ q, ¬ (33 ≤ q ∧ q ≤ 44) → q ≠ 20 → ∀ k, gI (sI m1 20 2 1) q k = gI m q k := fun q h1 h2 k => by
    rw [gIs, if_neg (fun z => h2 z.1), (s1 q h1).1]
  rw [o1 21 (by omega) (by omega), hX.2.1]
  refine y_mimage 49 fun m2 s2 k2 f2 A2 B2 C2 => ⟨_, rfl, ?_, hQ _ ?_⟩
  · rw [o1 113 (by omega) (by omega), hM.2.1]
  · have F : zfr imgP imgK m m2 := by
      refine zfr_tr (zfr_sI (zfr_of s1 (fun q z => by unfold imgP; omega) (by omega)) (by unfold imgP; omega) (by omega) _) ⟨zsm_mo (fun q z => ?_) s2, fun k hk => k2 k ?_⟩
      · unfold imgP; omega
      · unfold imgK at hk; omega
    obtain ⟨f44, f45, f46, f47, f48, f49, f50, f51⟩ := f2
    have o113 : ∀ k, gI (sI m1 20 2 1) 113 k = gI m 113 k := fun k => o1 113 (by omega) (by omega) k
    have A3 : ∀ j, j < 8 → gI m2 144 j = gI m 114 j ∧ gI m2 145 j = gI m 115 j ∧ gI m2 146 j = gI m 116 j ∧ gI m2 151 j = gI m 139 j ∧ gI m2 152 j = gI m 140 j ∧ gI m2 153 j = gI m 141 j ∧ gI m2 154 j = gI m 142 j ∧ gI m2 155 j = gI m 143 j := fun j hj => by
      obtain ⟨a, b, c, d, e, f, g, i⟩ := A2 j hj
      exact ⟨a.trans (o1 _ (by omega) (by omega) j), b.trans (o1 _ (by omega) (by omega) j), c.trans (o1 _ (by omega) (by omega) j), d.trans (o1 _ (by omega) (by omega) j), e.trans (o1 _ (by omega) (by omega) j), f.trans (o1 _ (by omega) (by omega) j), g.trans (o1 _ (by omega) (by omega) j), i.trans (o1 _ (by omega) (by omega) j)⟩
    have B3 : ∀ j, j < 32 → gI m2 147 j = gI m 117 j := fun j hj => (B2 j hj).trans (o1 _ (by omega) (by omega) j)
    have C3 : ∀ j, j < 5 → gI m2 148 j = gI m 136 j ∧ gI m2 149 j = gI m 137 j ∧ gI m2 150 j = gI m 138 j := fun j hj => by
      obtain ⟨a, b, c⟩ := C2 j hj
      exact ⟨a.trans (o1 _ (by omega) (by omega) j), b.trans (o1 _ (by omega) (by omega) j), c.trans (o1 _ (by omega) (by omega) j)⟩
    have n2 : ∀ q, ¬ (q = 113 ∨ (144 ≤ q ∧ q ≤ 155)) → q ≠ 20 → (∀ k, gI m2 q k = gI m1 q k) := fun q h1 h2 k => by
      rw [(s2 q h1).1, gIs, if_neg (fun z => h2 z.1)]
    have X1 := bX_vX hX bx s1 (fun q a b z => by omega)
    have X2 : vX m2 33 V := vX_sm (vX_sm X1 (zsm_sI (P := fun q => q = 20) (zsm_refl m1) (show (20 : Nat) = 20 from rfl) _) (fun q a b z => by omega) (fun q a b z => by omega)) s2 (fun q a b z => by omega) (fun q a b z => by omega)
    obtain ⟨_, _, _, _, x5, x6, r1, r2, r3⟩ := bx
    have lims : rLim m2 := by
      obtain ⟨⟨l1, l2, l3⟩, l4, l5, l6⟩ := hL
      have o := fun q (h1 : ¬ (33 ≤ q ∧ q ≤ 44)) (h2 : q ≠ 20) (h3 : ¬ (q = 113 ∨ (144 ≤ q ∧ q ≤ 155))) => ((s2 q h3).1 1).trans (o1 q h1 h2 1)
      exact ⟨⟨(o 27 (by omega) (by omega) (by omega)).trans l1, (o 29 (by omega) (by omega) (by omega)).trans l2, (o 31 (by omega) (by omega) (by omega)).trans l3⟩, (n2 39 (by omega) (by omega) 1).trans (r1.2.1.trans l4), (n2 41 (by omega) (by omega) 1).trans (r2.2.1.trans l5), (n2 43 (by omega) (by omega) 1).trans (r3.2.1.trans l6)⟩
    refine Rel_img hH' hr F (fun S R B gc gs hS hP hB hg hI => ?_) lims ?_
    · have e20 : gI m2 20 2 = 1 := by rw [(s2 20 (by omega)).1, gIs, if_pos ⟨rfl, rfl⟩]
      refine ⟨true, e20, f44, fun _ => ⟨V, S, R, B, ⟨⟨X2, vI_of hM (f46.trans (o113 _)) (f47.trans (o113 _)) (f48.trans (o113 _)) (f45.trans (o113 _)) (fun j hj => ⟨(A3 j hj).1, (A3 j hj).2.1, (A3 j hj).2.2.1⟩) B3, hh, fun j h1 h2 => ?_, fun j h1 h2 => ?_⟩, ⟨?_, rM_cp hS.2.1 hS.2.2.1 (f49.trans (o113 _)) (fun j hj => (C3 j hj).1) (fun j hj => (C3 j hj).2.1) (fun _ => ⟨by decide, fun j hj => (C3 j hj).2.2⟩), hS.2.2⟩, ⟨?_, rM_cp hP.2.1 hP.2.2.1 (f50.trans (o113 _)) (fun j hj => (A3 j hj).2.2.2.1) (fun j hj => (A3 j hj).2.2.2.2.1) (fun z => absurd rfl z), hP.2.2⟩, ?_, rM_cp hB.2.1 hB.2.2.1 (f51.trans (o113 _)) (fun j hj => (A3 j hj).2.2.2.2.2.1) (fun j hj => (A3 j hj).2.2.2.2.2.2.1) (fun _ => ⟨by decide, fun j hj => (A3 j hj).2.2.2.2.2.2.2⟩), hB.2.2⟩, hg⟩⟩
      · rw [n2 36 (by omega) (by omega)]; exact (x5 j h2).2.2.trans (hz1 j h1 h2)
      · rw [n2 37 (by omega) (by omega)]; exact (x6 j h2).trans (hz2 j h1 h2)
      · exact rX_sm (rX_sm (rbX_rX hS.1 r1 hL.2.1 hS.2.2.1 (by decide) (by decide)) (zsm_sI (P := fun q => q = 20) (zsm_refl m1) (show (20 : Nat) = 20 from rfl) 1 (k := 2)) (by omega) (by omega)) s2 (by omega) (by omega)
      · exact rX_sm (rX_sm (rbX_rX hP.1 r2 hL.2.2.1 hP.2.2.1 (by decide) (by decide)) (zsm_sI (P := fun q => q = 20) (zsm_refl m1) (show (20 : Nat) = 20 from rfl) 1 (k := 2)) (by omega) (by omega)) s2 (by omega) (by omega)
      · exact rX_sm (rX_sm (rbX_rX hB.1 r3 hL.2.2.2 hB.2.2.1 (by decide) (by decide)) (zsm_sI (P := fun q => q = 20) (zsm_refl m1) (show (20 : Nat) = 20 from rfl) 1 (k := 2)) (by omega) (by omega)) s2 (by omega) (by omega)
    · rw [(s2 20 (by omega)).1, gIs, if_neg (fun z => absurd z.2 (by decide)), (s1 20 (by omega)).1]
def unP (q : Nat) : Prop := (21 ≤ q ∧ q ≤ 32) ∨ (114 ≤ q ∧ q ≤ 117) ∨ (136 ≤ q ∧ q ≤ 143)
def unK (k : Nat) : Prop := k ≤ 2 ∨ k = 8 ∨ k = 33 ∨ k = 37 ∨ k = 38
theorem ok_undo {m : zM} (hR : Rel m) : okI m_Box_undo m_Mod_undo [] m := by
  intro Q hQ
  have h0 := hQ m hR
  obtain ⟨V0, hH, S0, R0, B0, gc, gs, n, tx, b1, b2, b3, hL, hg0, hI, hG, hT, hU, hA, hW⟩ := Rel_o hR
  have hI' := hI
  obtain ⟨b, i1, i2, i3⟩ := hI
  refine en_Box_undo 49 m (sg_Box_undo_0 (zCall_m _) m ?_)
  rw [i1]
  cases hb : b with
  | false =>
    rw [hb] at i2
    refine iq (fun z => z rfl) ⟨_, rfl, en_Mod_undo 49 m (sg_Mod_undo_0 (zCall_m _) m (iq (fun z => z i2) ⟨_, rfl, rfl, h0⟩))⟩
  | true =>
    rw [hb] at i2
    obtain ⟨V, S, R, B, ⟨⟨hX, ⟨v1, v2, v3, v4, v5, v6⟩, hh, hz1, hz2⟩, ⟨s1, s2, s3⟩, ⟨p1, p2, p3⟩, q1, q2, q3⟩, hgs⟩ := i3 hb
    have h8 := hX.1.1
    refine ip (by decide) (y_become_21 47 (gG_h hX) fun m1 z1 bx => ⟨rfl, _, rfl, ?_⟩)
    have o1 : ∀ q, ¬ (21 ≤ q ∧ q ≤ 32) → ∀ k, gI m1 q k = gI m q k := fun q h k => (z1 q h).1 k
    have X1 := bX_vX hX bx z1 (fun q a b z => by omega)
    rw [X1.2.1]
    refine y_mundo 49 (by rw [o1 113 (by omega), i2]; decide) fun m2 z2 k2 f2 A2 B2 C2 => ⟨_, rfl, ?_, hQ _ ?_⟩
    · rw [o1 113 (by omega), v1]
    · have F : zfr unP unK m m2 := by
        refine zfr_tr (zfr_of z1 (fun q z => by unfold unP; omega) (by omega)) ⟨zsm_mo (fun q z => ?_) z2, fun k hk => k2 k ?_⟩
        · unfold unP; omega
        · unfold unK at hk; omega
      obtain ⟨f45, f46, f47, f48, f49, f50, f51⟩ := f2
      have o113 : ∀ k, gI m1 113 k = gI m 113 k := fun k => o1 113 (by omega) k
      have X2 : vX m2 21 V := vX_sm X1 z2 (fun q a b z => by omega) (fun q a b z => by omega)
      obtain ⟨_, _, _, _, x5, x6, r1, r2, r3⟩ := bx
      have G2 : ∀ g G, vG V = some (g, G) → gMo m2 g G := fun g G e => by
        obtain ⟨e1, e2⟩ := hgs g G e
        rw [e2]
        exact gMo_f (hG.2.2.2 g e1).2.2 F (fun q a b z => by unfold unP at z; omega)
      have M2 : vM m2 V := by
        refine ⟨hX.1, f46.trans ((o113 _).trans v1), fun j hj => ?_, fun j hj => (B2 j (by omega)).trans ((o1 _ (by omega) j).trans (v3 j hj)), f48.trans ((o113 _).trans v4), f47.trans ((o113 _).trans v5), f45.trans ((o113 _).trans v6), G2⟩
        obtain ⟨a, b, c, _⟩ := A2 j (by omega)
        obtain ⟨x, y, z⟩ := v2 j hj
        exact ⟨a.trans ((o1 _ (by omega) j).trans x), b.trans ((o1 _ (by omega) j).trans y), c.trans ((o1 _ (by omega) j).trans z)⟩
      have A3 : ∀ j, j < 8 → gI m2 139 j = gI m 151 j ∧ gI m2 140 j = gI m 152 j ∧ gI m2 141 j = gI m 153 j ∧ gI m2 142 j = gI m 154 j ∧ gI m2 143 j = gI m 155 j := fun j hj => by
        obtain ⟨_, _, _, d, e, f, g, i⟩ := A2 j hj
        exact ⟨d.trans (o1 _ (by omega) j), e.trans (o1 _ (by omega) j), f.trans (o1 _ (by omega) j), g.trans (o1 _ (by omega) j), i.trans (o1 _ (by omega) j)⟩
      have C3 : ∀ j, j < 5 → gI m2 136 j = gI m 148 j ∧ gI m2 137 j = gI m 149 j ∧ gI m2 138 j = gI m 150 j := fun j hj => by
        obtain ⟨a, b, c⟩ := C2 j hj
        exact ⟨a.trans (o1 _ (by omega) j), b.trans (o1 _ (by omega) j), c.trans (o1 _ (by omega) j)⟩
      obtain ⟨⟨l1, l2, l3⟩, l4, l5, l6⟩ := hL
      have n2 : ∀ q, ¬ (q = 113 ∨ (114 ≤ q ∧ q ≤ 117) ∨ (136 ≤ q ∧ q ≤ 143)) → (∀ k, gI m2 q k = gI m1 q k) := fun q h1 k => (z2 q h1).1 k
      have L2 : rLim m2 := by
        have o := fun q (h1 : ¬ (21 ≤ q ∧ q ≤ 32)) (h3 : ¬ (q = 113 ∨ (114 ≤ q ∧ q ≤ 117) ∨ (136 ≤ q ∧ q ≤ 143))) => (n2 q h3 1).trans (o1 q h1 1)
        exact ⟨⟨(n2 27 (by omega) 1).trans (r1.2.1.trans l1), (n2 29 (by omega) 1).trans (r2.2.1.trans l2), (n2 31 (by omega) 1).trans (r3.2.1.trans l3)⟩, (o 39 (by omega) (by omega)).trans l4, (o 41 (by omega) (by omega)).trans l5, (o 43 (by omega) (by omega)).trans l6⟩
      refine Rel_i (V := V) (S := S) (R := R) (B := B) ⟨X2, M2, hh, fun j h1 h2 => ?_, fun j h1 h2 => ?_⟩
        ⟨rX_sm (rbX_rX s1 r1 l1 s3.1 (by decide) (by decide)) z2 (by omega) (by omega), rM_cp s2 s3.1 (f49.trans (o113 _)) (fun j hj => (C3 j hj).1) (fun j hj => (C3 j hj).2.1) (fun _ => ⟨by decide, fun j hj => (C3 j hj).2.2⟩), s3⟩
        ⟨rX_sm (rbX_rX p1 r2 l2 p3.1 (by decide) (by decide)) z2 (by omega) (by omega), rM_cp p2 p3.1 (f50.trans (o113 _)) (fun j hj => (A3 j hj).1) (fun j hj => (A3 j hj).2.1) (fun z => absurd rfl z), p3⟩
        ⟨rX_sm (rbX_rX q1 r3 l3 q3.1 (by decide) (by decide)) z2 (by omega) (by omega), rM_cp q2 q3.1 (f51.trans (o113 _)) (fun j hj => (A3 j hj).2.2.1) (fun j hj => (A3 j hj).2.2.2.1) (fun _ => ⟨by decide, fun j hj => (A3 j hj).2.2.2.2⟩), q3⟩
        L2 hgs (rImg_f hI' F (zfr_g F (by unfold unP; omega) (by omega) 2) ?_ ?_ ?_ ?_) (rGar_f hG F (zfr_g F (by unfold unP; omega) (by omega) 4) ?_ ?_ ?_) (rTxt_f hT F ?_ ?_ ?_ ?_) (rTap_f hU F ?_ ?_) (rAct_f hA F ?_ ?_ ?_ ?_) (rLow_f hW F ?_ ?_)
      · rw [n2 24 (by omega)]; exact (x5 j h2).2.2.trans (hz1 j h1 h2)
      · rw [n2 25 (by omega)]; exact (x6 j h2).trans (hz2 j h1 h2)
      all_goals (try unfold unP) <;> (try unfold unK) <;> first | decide | omega | (intro q a b; omega) | (intro q a; omega)
