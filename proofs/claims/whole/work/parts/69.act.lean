/-! act of both -/
theorem fA_z {m m' : zM} (h : fA m m') : zfr actP actK m m' := zfr_of h.1 (fun q z => by unfold actP; omega) (by omega)
theorem fB_z {m m' : zM} (h : fB m m') : zfr actP actK m m' := ⟨zsm_mo (fun q z => by unfold actP; omega) h.1, fun k hk => h.2 k hk⟩
theorem zr_3 {x : Int32} {A D : Prop} (hf : zr x 3 = false → A) (ht : zr x 3 = true → D) : if x < 0 then A else if x < 3 then D else A := by
  by_cases h1 : x < 0
  · exact ip h1 (hf (zr_lo h1))
  · refine iq h1 ?_
    by_cases h2 : x < 3
    · exact ip h2 (ht (zr_in (n := 3) (c := 3) (by decide) h1 (fun z => by rw [Int32.le_iff_toInt_le] at z; rw [Int32.lt_iff_toInt_lt] at h2; omega)))
    · exact iq h2 (hf (zr_hi (n := 3) (c := 3) (by decide) (by rw [Int32.le_iff_toInt_le]; rw [Int32.lt_iff_toInt_lt] at h2; omega)))
theorem ok_act {m : zM} (hR : Rel m) (a b c : Int32) : okI m_Box_act m_Mod_act [.int a, .int b, .int c] m := by
  intro Q hQ
  obtain ⟨V, hH, hr⟩ := Rel_o hR
  have hH' := hH
  obtain ⟨hX, hM, _⟩ := hH
  have h8 := hX.1.1
  have hr' := hr
  obtain ⟨S, R, B, gc, gs, n, tx, b1, b2, b3, cc, d, e, f, g, i, j, ⟨k1, k2, _⟩⟩ := hr'
  have hz : Q (sI (sI m 98 1 0) 113 64 0) := by
    have F : zfr actP actK m (sI (sI m 98 1 0) 113 64 0) := zfr_k (zfr_sI (zfr_refl m) (by unfold actP; omega) (by decide) _) (show actK 64 from rfl) _
    refine hQ _ (Rel_act hH' hr F ⟨0, by omega, ?_, ?_, fun j _ hj => absurd hj (Nat.not_lt_zero _)⟩)
    · rw [gIs, if_neg (fun z => by omega), gIs, if_pos ⟨rfl, rfl⟩]; rfl
    · rw [gIs, if_pos ⟨rfl, rfl⟩]; rfl
  have hV1 : vX (sI m 98 1 0) 21 V := vX_sm hX (zsm_sI (P := fun q => q = 98) (zsm_refl m) (show (98 : Nat) = 98 from rfl) _) (fun q a b z => by omega) (fun q a b z => by omega)
  refine en_Box_act 49 _ _ _ m (sg_Box_act_0 (zCall_m _) _ _ _ m (en_Acts_forget 48 m (sg_Acts_forget_0 (zCall_m _) m ⟨rfl, y_Hedge_has _ a hV1.2.1 (by omega) ⟨_, rfl, zb_c (fun ha => ?_) (fun ha => zr_3 (fun hb => ?_) (fun hb => ?_))⟩⟩)))
  · refine ⟨_, rfl, en_Mod_act 49 _ _ _ _ (sg_Mod_act_0 (zCall_m _) _ _ _ _ (y_Mod_isPlant _ a (n := vN V) ?_ (by omega) ⟨_, rfl, ?_⟩))⟩
    · rw [gIs, if_neg (fun z => by omega), gIs, if_neg (fun z => by omega)]; exact hM.2.1
    · rw [ha]; exact ip rfl ⟨_, rfl, rfl, hz⟩
  · refine ⟨_, rfl, en_Mod_act 49 _ _ _ _ (sg_Mod_act_0 (zCall_m _) _ _ _ _ (y_Mod_isPlant _ a (n := vN V) ?_ (by omega) ⟨_, rfl, ?_⟩))⟩
    · rw [gIs, if_neg (fun z => by omega), gIs, if_neg (fun z => by omega)]; exact hM.2.1
    · rw [ha]
      refine iq (by decide) (y_Mod_in _ b _ (n := 3) (by decide) ⟨_, rfl, ?_⟩)
      rw [hb]; exact iq (fun z => z rfl) ⟨_, rfl, rfl, hz⟩
  · have ha' := ha
    have hb' := hb
    obtain ⟨a1, a2⟩ := zr_k ha
    obtain ⟨c1, c2⟩ := zr_k hb
    generalize a.toNatClampNeg = p at a1 a2
    generalize b.toNatClampNeg = w at c1 c2
    subst a2 c2
    have hk7 := (hX.1.2.1 p a1).1
    have hin : vp_in (nI p) 8 := vp_in_nI (by omega) (by decide)
    refine en_Acts_perform 48 _ _ _ _ (sg_Acts_perform_0 (zCall_m _) _ _ _ _ ⟨hin, hin, ?_⟩)
    have e22 : gI m 22 p = nI (vK V p) := (hX.2.2.1 p a1).1
    have e23 : gI m 23 p = nI (vV V p) := (hX.2.2.1 p a1).2.1
    simp only [gIs, Nat.reduceEqDiff, false_and, if_false, true_and, and_self, if_true]
    try rw [nI_clamp (by omega)]
    rw [e22, e23]
    generalize hm1 : sI (sI (sI (sI m 98 1 0) 98 2 (nI (vK V p))) 98 3 (nI p)) 98 4 (nI (vV V p)) = m1
    have g1 : gI m1 98 1 = 0 := by rw [← hm1]; simp only [gIs, Nat.reduceEqDiff, and_false, if_false, and_self, if_true]
    have g2 : gI m1 98 2 = nI (vK V p) := by rw [← hm1]; simp only [gIs, Nat.reduceEqDiff, and_false, if_false, and_self, if_true]
    have g3 : gI m1 98 3 = nI p := by rw [← hm1]; simp only [gIs, Nat.reduceEqDiff, and_false, if_false, and_self, if_true]
    have g4 : gI m1 98 4 = nI (vV V p) := by rw [← hm1]; simp only [gIs, and_self, if_true]
    have go : ∀ q, q ≠ 98 → ∀ k, gI m1 q k = gI m q k := fun q hq k => by
      rw [← hm1, gIs, if_neg (fun z => hq z.1), gIs, if_neg (fun z => hq z.1), gIs, if_neg (fun z => hq z.1), gIs, if_neg (fun z => hq z.1)]
    have F1 : zfr actP actK m m1 := by
      rw [← hm1]
      exact zfr_sI (zfr_sI (zfr_sI (zfr_sI (zfr_refl m) (by unfold actP; omega) (by decide) _) (by unfold actP; omega) (by decide) _) (by unfold actP; omega) (by decide) _) (by unfold actP; omega) (by decide) _
    clear hm1
    have hl := mAct_l (I := nI p) (W := nI (vV V p)) (x := c) hk7 c1
    refine y_run (I := nI p) (W := nI (vV V p)) hk7 39 8 (L := []) (dep := 0) (T := (mAct (vK V p) w (nI p) (nI (vV V p)) c).1) (v := (mAct (vK V p) w (nI p) (nI (vV V p)) c).2) (act_eq hk7 c1) c1 hk7 (by omega) (by decide) ⟨fun k hk => (go 2 (by decide) k).trans (k1 k hk), fun k hk => (go 3 (by decide) k).trans (k2 k hk)⟩ ⟨g1, fun j x hj => by cases hj⟩ g2 g3 g4 fun m2 f2 X2 => ⟨_, rfl, _, rfl, _, rfl, ?_⟩
    have F2 := zfr_tr F1 (fA_z f2)
    have hM2 : vM (sI m2 113 64 0) V := vM_f hM (zfr_k F2 (show actK 64 from rfl) _) (fun q a b c => by unfold actP; omega) (by unfold actK; omega) (by unfold actK; omega) (by unfold actK; omega) (by unfold actK; omega)
    refine en_Mod_act 49 _ _ _ _ (sg_Mod_act_0 (zCall_m _) _ _ _ _ (y_Mod_isPlant _ _ hM2.2.1 (by omega) ⟨_, rfl, ?_⟩))
    rw [ha']
    refine iq (by decide) (y_Mod_in _ _ _ (n := 3) (by decide) ⟨_, rfl, ?_⟩)
    rw [hb']
    refine ip (by decide) ?_
    have hS : aSet (sI m2 113 64 0) p (vK V p) (nI (vV V p)) := ⟨by omega, hk7, (hM2.2.2.1 p a1).1, (hM2.2.2.1 p a1).2.1⟩
    have hA : aM (sI m2 113 64 0) [] := ⟨by rw [gIs, if_pos ⟨rfl, rfl⟩]; rfl, fun j x hj => by cases hj⟩
    have fin : ∀ m3, fB (sI m2 113 64 0) m3 → aM m3 ([] ++ (mAct (vK V p) w (nI p) (nI (vV V p)) c).1) → Q m3 := fun m3 f3 M3 => by
      refine hQ _ (Rel_act hH' hr (zfr_tr (zfr_k F2 (show actK 64 from rfl) _) (fB_z f3)) ⟨(mAct (vK V p) w (nI p) (nI (vV V p)) c).1.length, by omega, ?_, M3.1, fun j hj hj2 => ?_⟩)
      · rw [(f3.1 98 (by omega)).1, gIs, if_neg (fun z => by omega)]; exact X2.1
      · obtain ⟨x, hx⟩ : ∃ x, (mAct (vK V p) w (nI p) (nI (vV V p)) c).1[j]? = some x := ⟨_, List.getElem?_eq_getElem hj2⟩
        rw [M3.2 j x hx hj, (f3.1 99 (by omega)).1, gIs, if_neg (fun z => by omega)]
        exact X2.2 j x hx hj
    unfold mAct at fin hl ⊢
    rcases (show w = 0 ∨ w = 1 ∨ w = 2 by omega) with rfl | rfl | rfl
    · exact iq (fun z => z rfl) (y_mH 46 hS hA c (by rw [List.length_nil]; simp only [if_true] at hl; omega) fun m3 f3 M3 => ⟨_, rfl, _, rfl, rfl, fin m3 f3 M3⟩)
    · exact ip (by decide) (iq (fun z => z rfl) (y_mSy 43 hS hA c (by rw [List.length_nil]; simp only [Nat.one_ne_zero, if_false, if_true] at hl; omega) fun m3 f3 M3 => ⟨_, rfl, _, rfl, rfl, fin m3 f3 M3⟩))
    · exact ip (by decide) (ip (by decide) (y_mTl 41 hS hA c (by rw [List.length_nil]; simp only [Nat.reduceEqDiff, if_false] at hl; omega) fun m3 f3 M3 => ⟨_, rfl, _, rfl, rfl, fin m3 f3 M3⟩))
