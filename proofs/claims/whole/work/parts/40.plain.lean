/-! says, of, told -/
def aSays (V : zV) (a b : Int32) : Int32 := if zr a (vN V) = true then (if zr b 10000 = true then nI (vSays V a.toNatClampNeg b.toNatClampNeg) else -2) else -1
theorem yX_says (d : Nat) {Q : zQ} {m : zM} {V : zV} (hV : vX m 21 V) (a b : Int32) (h : Q (some (.int (aSays V a b))) m) : zCall (d + 4) m_Box_says [.ref 20, .int a, .int b] m Q := by
  have h8 := hV.1.1
  unfold aSays at h
  refine en_Box_says (d + 3) _ _ m (sg_Box_says_0 (zCall_m _) _ _ m (y_Hedge_has _ a hV.2.1 (by omega) ⟨_, rfl, zb_d (fun ha => ?_) (fun ha => y_Box_isWord _ b ⟨_, rfl, zb_d (fun hb => ?_) (fun hb => ?_)⟩)⟩))
  · rw [ha] at h; exact h
  · rw [ha, hb] at h; exact h
  · rw [ha, hb] at h
    simp only [if_true] at h
    obtain ⟨a1, a2⟩ := zr_k ha
    obtain ⟨b1, b2⟩ := zr_k hb
    generalize a.toNatClampNeg = one at a1 a2 h
    generalize b.toNatClampNeg = w at b1 b2 h
    subst a2 b2
    exact y_says_21 d hV a1 b1 ⟨_, rfl, h⟩
theorem yM_says (d : Nat) {Q : zQ} {m : zM} {V : zV} (hV : vM m V) (a b : Int32) (h : Q (some (.int (aSays V a b))) m) : zCall (d + 5) m_Mod_says [.ref 113, .int a, .int b] m Q := by
  have h8 := hV.1.1
  unfold aSays at h
  refine en_Mod_says (d + 4) _ _ m (sg_Mod_says_0 (zCall_m _) _ _ m (y_Mod_isPlant _ a hV.2.1 (by omega) ⟨_, rfl, zb_d (fun ha => ?_) (fun ha => y_Mod_isWord _ b ⟨_, rfl, zb_c (fun hb => ?_) (fun hb => ?_)⟩)⟩))
  · rw [ha] at h; exact h
  · rw [ha, hb] at h; exact h
  · rw [ha, hb] at h
    simp only [if_true] at h
    obtain ⟨a1, a2⟩ := zr_k ha
    obtain ⟨b1, b2⟩ := zr_k hb
    generalize a.toNatClampNeg = one at a1 a2 h
    generalize b.toNatClampNeg = w at b1 b2 h
    subst a2 b2
    exact y_msays d hV a1 b1 ⟨_, rfl, h⟩
def aTold (V : zV) (a : Int32) : Int32 := if a = 0 then nI (vHr V) else if a = 1 then nI (vFrost V) else if a = 2 then nI (vLose V) else if a = 3 then vD V else -1
theorem yX_told (d : Nat) {Q : zQ} {m : zM} {V : zV} (hV : vX m 21 V) (a : Int32) (h : Q (some (.int (aTold V a))) m) : zCall (d + 2) m_Box_told [.ref 20, .int a] m Q := by
  unfold aTold at h
  refine en_Box_told (d + 1) _ m (sg_Box_told_0 (zCall_m _) _ m ?_)
  rw [hV.2.2.2.2.1, hV.2.2.2.2.2.1]
  by_cases h0 : a = 0
  · rw [if_pos h0] at h; exact ip h0 h
  · rw [if_neg h0] at h
    refine iq h0 ?_
    by_cases h1 : a = 1
    · rw [if_pos h1] at h; exact ip h1 (y_frost_21 d hV ⟨_, rfl, h⟩)
    · rw [if_neg h1] at h
      refine iq h1 ?_
      by_cases h2 : a = 2
      · rw [if_pos h2] at h; exact ip h2 (y_lose_21 d hV ⟨_, rfl, h⟩)
      · rw [if_neg h2] at h
        refine iq h2 ?_
        by_cases h3 : a = 3
        · rw [if_pos h3] at h; exact ip h3 h
        · rw [if_neg h3] at h; exact iq h3 h
theorem yM_told (d : Nat) {Q : zQ} {m : zM} {V : zV} (hV : vM m V) (a : Int32) (h : Q (some (.int (aTold V a))) m) : zCall (d + 4) m_Mod_told [.ref 113, .int a] m Q := by
  unfold aTold at h
  refine en_Mod_told (d + 3) _ m (sg_Mod_told_0 (zCall_m _) _ m ?_)
  rw [hV.2.2.2.2.1, hV.2.2.2.2.2.1]
  by_cases h0 : a = 0
  · rw [if_pos h0] at h; exact iq (fun z => z h0) h
  · rw [if_neg h0] at h
    refine ip h0 ?_
    by_cases h1 : a = 1
    · rw [if_pos h1] at h; exact iq (fun z => z h1) (y_mfrost d hV ⟨_, rfl, h⟩)
    · rw [if_neg h1] at h
      refine ip h1 ?_
      by_cases h2 : a = 2
      · rw [if_pos h2] at h; exact iq (fun z => z h2) (y_mlose d hV ⟨_, rfl, h⟩)
      · rw [if_neg h2] at h
        refine ip h2 ?_
        by_cases h3 : a = 3
        · rw [if_pos h3] at h; exact iq (fun z => z h3) h
        · rw [if_neg h3] at h; exact ip h3 h
def aOf (V : zV) (a b : Int32) : Int32 := if zr a (vN V) = true then (if b = 0 then nI (vK V a.toNatClampNeg) else if b = 1 then nI (vV V a.toNatClampNeg) else if b = 2 then vT V a.toNatClampNeg else if b = 3 then zb (bt (vD V) a.toNatClampNeg) else if b = 4 then nI (vPace V a.toNatClampNeg) else if b = 5 then nI (vTakes V a.toNatClampNeg) else -1) else -1
theorem yX_of (d : Nat) {Q : zQ} {m : zM} {V : zV} (hV : vX m 21 V) (a b : Int32) (h : ∀ m', zsm hP3 m m' → Q (some (.int (aOf V a b))) m') : zCall (d + 5) m_Box_of [.ref 20, .int a, .int b] m Q := by
  have h8 := hV.1.1
  have h0 := h m (zsm_refl m)
  unfold aOf at h h0
  refine en_Box_of (d + 4) _ _ m (sg_Box_of_0 (zCall_m _) _ _ m (y_Hedge_has _ a hV.2.1 (by omega) ⟨_, rfl, zb_d (fun ha => ?_) (fun ha => ?_)⟩))
  · rw [ha] at h0; exact h0
  · rw [ha] at h h0
    simp only [if_true] at h h0
    obtain ⟨a1, a2⟩ := zr_k ha
    generalize a.toNatClampNeg = p at a1 a2 h h0
    subst a2
    have hin : vp_in (nI p) 8 := vp_in_nI (by omega) (by omega)
    have b1 : gI m 22 p = nI (vK V p) := (hV.2.2.1 p a1).1
    have b2 : gI m 23 p = nI (vV V p) := (hV.2.2.1 p a1).2.1
    have b3 : gI m 24 p = vT V p := (hV.2.2.1 p a1).2.2
    try rw [nI_clamp (by omega)]
    rw [b1, b2, b3]
    by_cases h1 : b = 0
    · rw [if_pos h1] at h0; exact ip h1 ⟨hin, h0⟩
    · simp only [if_neg h1] at h h0
      refine iq h1 ?_
      by_cases h2 : b = 1
      · rw [if_pos h2] at h0; exact ip h2 ⟨hin, h0⟩
      · simp only [if_neg h2] at h h0
        refine iq h2 ?_
        by_cases h3 : b = 2
        · rw [if_pos h3] at h0; exact ip h3 ⟨hin, h0⟩
        · simp only [if_neg h3] at h h0
          refine iq h3 ?_
          by_cases h4 : b = 3
          · rw [if_pos h4] at h0
            refine ip h4 (y_isDead_21 _ hV (by omega) ⟨_, rfl, zb_c (fun z => ?_) (fun z => ?_)⟩)
            · rw [z] at h0; exact h0
            · rw [z] at h0; exact h0
          · simp only [if_neg h4] at h h0
            refine iq h4 ?_
            by_cases h5 : b = 4
            · simp only [if_pos h5] at h
              exact ip h5 (y_pace_21 _ hV a1 fun m' hs => ⟨_, rfl, h m' (zsm_mo (fun q z => by unfold hP3; omega) hs)⟩)
            · simp only [if_neg h5] at h h0
              refine iq h5 ?_
              by_cases h6 : b = 5
              · simp only [if_pos h6] at h
                exact ip h6 (y_takes_21 _ hV a1 fun m' hs => ⟨_, rfl, h m' (zsm_mo (fun q z => by unfold hP3; omega) hs)⟩)
              · rw [if_neg h6] at h0
                exact iq h6 h0
theorem yM_of (d : Nat) {Q : zQ} {m : zM} {V : zV} (hV : vM m V) (a b : Int32) (h : ∀ m', zsm mP m m' → Q (some (.int (aOf V a b))) m') : zCall (d + 6) m_Mod_of [.ref 113, .int a, .int b] m Q := by
  have h8 := hV.1.1
  have h0 := h m (zsm_refl m)
  unfold aOf at h h0
  refine en_Mod_of (d + 5) _ _ m (sg_Mod_of_0 (zCall_m _) _ _ m (y_Mod_isPlant _ a hV.2.1 (by omega) ⟨_, rfl, zb_d (fun ha => ?_) (fun ha => ?_)⟩))
  · rw [ha] at h0; exact h0
  · rw [ha] at h h0
    simp only [if_true] at h h0
    obtain ⟨a1, a2⟩ := zr_k ha
    generalize a.toNatClampNeg = p at a1 a2 h h0
    subst a2
    have hin : vp_in (nI p) 8 := vp_in_nI (by omega) (by omega)
    have b1 : gI m 114 p = nI (vK V p) := (hV.2.2.1 p a1).1
    have b2 : gI m 115 p = nI (vV V p) := (hV.2.2.1 p a1).2.1
    have b3 : gI m 116 p = vT V p := (hV.2.2.1 p a1).2.2
    try rw [nI_clamp (by omega)]
    rw [b1, b2, b3, hV.2.2.2.2.1]
    by_cases h1 : b = 0
    · rw [if_pos h1] at h0; exact ip h1 ⟨hin, h0⟩
    · simp only [if_neg h1] at h h0
      refine iq h1 ?_
      by_cases h2 : b = 1
      · rw [if_pos h2] at h0; exact ip h2 ⟨hin, h0⟩
      · simp only [if_neg h2] at h h0
        refine iq h2 ?_
        by_cases h3 : b = 2
        · rw [if_pos h3] at h0; exact ip h3 ⟨hin, h0⟩
        · simp only [if_neg h3] at h h0
          refine iq h3 ?_
          by_cases h4 : b = 3
          · rw [if_pos h4] at h0
            refine ip h4 (y_Mod_has _ _ (by omega) ⟨_, rfl, zb_c (fun z => ?_) (fun z => ?_)⟩)
            · rw [z] at h0; exact h0
            · rw [z] at h0; exact h0
          · simp only [if_neg h4] at h h0
            refine iq h4 ?_
            by_cases h5 : b = 4
            · simp only [if_pos h5] at h
              exact ip h5 (y_mpaceC _ hV a1 fun m' hs => ⟨_, rfl, h m' (zsm_mo (fun q z => by unfold mP; omega) hs)⟩)
            · simp only [if_neg h5] at h h0
              refine iq h5 ?_
              by_cases h6 : b = 5
              · simp only [if_pos h6] at h
                exact ip h6 (y_mtakes _ hV a1 fun m' hs => ⟨_, rfl, h m' (zsm_mo (fun q z => by unfold mP; omega) hs)⟩)
              · rw [if_neg h6] at h0
                exact iq h6 h0
