/-! image, undo (gen70.py) -/
theorem gG_h {m : zM} {h : Nat} {V : zV} (hV : vX m h V) : ∀ q, gG m h = some q → zsh q = 1 := fun q e => by
  rw [hV.2.2.2.2.2.2.1] at e
  cases hg : vG V with
  | none => rw [hg] at e; cases e
  | some x =>
    obtain ⟨g, G⟩ := x
    have h6 := (hV.1.2.2.2.2.2 g G hg).1
    rw [hg] at e
    cases e
    match g, h6 with
      | 0, _ => rfl
      | 1, _ => rfl
      | 2, _ => rfl
      | 3, _ => rfl
      | 4, _ => rfl
      | 5, _ => rfl
theorem y_imA (d : Nat) {Q : zQ} {mm : zM} (K : (∀ m2, zsm (fun q => q = 144 ∨ q = 145 ∨ q = 146 ∨ q = 151 ∨ q = 152 ∨ q = 153 ∨ q = 154 ∨ q = 155) mm m2 → (∀ j, j < 8 → gI m2 144 j = gI mm 114 j ∧ gI m2 145 j = gI mm 115 j ∧ gI m2 146 j = gI mm 116 j ∧ gI m2 151 j = gI mm 139 j ∧ gI m2 152 j = gI mm 140 j ∧ gI m2 153 j = gI mm 141 j ∧ gI m2 154 j = gI mm 142 j ∧ gI m2 155 j = gI mm 143 j) → zRun (zCall d) 9 (some .int) zc_Mod_image Q 173 [.ref 113, .int 0] [] m2)) : ∀ j k m', k + j = 8 → zsm (fun q => q = 144 ∨ q = 145 ∨ q = 146 ∨ q = 151 ∨ q = 152 ∨ q = 153 ∨ q = 154 ∨ q = 155) mm m' → (∀ j, j < k → gI m' 144 j = gI mm 114 j ∧ gI m' 145 j = gI mm 115 j ∧ gI m' 146 j = gI mm 116 j ∧ gI m' 151 j = gI mm 139 j ∧ gI m' 152 j = gI mm 140 j ∧ gI m' 153 j = gI mm 141 j ∧ gI m' 154 j = gI mm 142 j ∧ gI m' 155 j = gI mm 143 j) → zRun (zCall d) 9 (some .int) zc_Mod_image Q 63 [.ref 113, .int (nI k)] [] m'
  | 0, k, m', hk, hs, h => sg_Mod_image_63 (zCall_m _) _ m' (ip (nI_le (a := 8) (by omega) (by omega)) (K m' hs (fun j hj => h j (by omega))))
  | j + 1, k, m', hk, hs, h => by
    refine sg_Mod_image_63 (zCall_m _) _ m' (iq (nI_ge (b := 8) (by omega) (by decide)) ?_)
    have hin : vp_in (nI k) 8 := vp_in_nI (by omega) (by decide)
    try simp only [gIs, Nat.reduceEqDiff, false_and, true_and, if_false]
    rw [nI_clamp (by omega), nI_1]
    refine ⟨hin, hin, hin, hin, hin, hin, hin, hin, hin, hin, hin, hin, hin, hin, hin, hin, y_imA d K j (k + 1) _ (by omega) ?_ (fun i hi => ?_)⟩
    · refine zsm_tr hs ?_
      exact zsm_sI (P := (fun q => q = 144 ∨ q = 145 ∨ q = 146 ∨ q = 151 ∨ q = 152 ∨ q = 153 ∨ q = 154 ∨ q = 155)) (zsm_sI (P := (fun q => q = 144 ∨ q = 145 ∨ q = 146 ∨ q = 151 ∨ q = 152 ∨ q = 153 ∨ q = 154 ∨ q = 155)) (zsm_sI (P := (fun q => q = 144 ∨ q = 145 ∨ q = 146 ∨ q = 151 ∨ q = 152 ∨ q = 153 ∨ q = 154 ∨ q = 155)) (zsm_sI (P := (fun q => q = 144 ∨ q = 145 ∨ q = 146 ∨ q = 151 ∨ q = 152 ∨ q = 153 ∨ q = 154 ∨ q = 155)) (zsm_sI (P := (fun q => q = 144 ∨ q = 145 ∨ q = 146 ∨ q = 151 ∨ q = 152 ∨ q = 153 ∨ q = 154 ∨ q = 155)) (zsm_sI (P := (fun q => q = 144 ∨ q = 145 ∨ q = 146 ∨ q = 151 ∨ q = 152 ∨ q = 153 ∨ q = 154 ∨ q = 155)) (zsm_sI (P := (fun q => q = 144 ∨ q = 145 ∨ q = 146 ∨ q = 151 ∨ q = 152 ∨ q = 153 ∨ q = 154 ∨ q = 155)) (zsm_sI (P := (fun q => q = 144 ∨ q = 145 ∨ q = 146 ∨ q = 151 ∨ q = 152 ∨ q = 153 ∨ q = 154 ∨ q = 155)) (zsm_refl m') (show 144 = 144 ∨ 144 = 145 ∨ 144 = 146 ∨ 144 = 151 ∨ 144 = 152 ∨ 144 = 153 ∨ 144 = 154 ∨ 144 = 155 by decide) _) (show 145 = 144 ∨ 145 = 145 ∨ 145 = 146 ∨ 145 = 151 ∨ 145 = 152 ∨ 145 = 153 ∨ 145 = 154 ∨ 145 = 155 by decide) _) (show 146 = 144 ∨ 146 = 145 ∨ 146 = 146 ∨ 146 = 151 ∨ 146 = 152 ∨ 146 = 153 ∨ 146 = 154 ∨ 146 = 155 by decide) _) (show 151 = 144 ∨ 151 = 145 ∨ 151 = 146 ∨ 151 = 151 ∨ 151 = 152 ∨ 151 = 153 ∨ 151 = 154 ∨ 151 = 155 by decide) _) (show 152 = 144 ∨ 152 = 145 ∨ 152 = 146 ∨ 152 = 151 ∨ 152 = 152 ∨ 152 = 153 ∨ 152 = 154 ∨ 152 = 155 by decide) _) (show 153 = 144 ∨ 153 = 145 ∨ 153 = 146 ∨ 153 = 151 ∨ 153 = 152 ∨ 153 = 153 ∨ 153 = 154 ∨ 153 = 155 by decide) _) (show 154 = 144 ∨ 154 = 145 ∨ 154 = 146 ∨ 154 = 151 ∨ 154 = 152 ∨ 154 = 153 ∨ 154 = 154 ∨ 154 = 155 by decide) _) (show 155 = 144 ∨ 155 = 145 ∨ 155 = 146 ∨ 155 = 151 ∨ 155 = 152 ∨ 155 = 153 ∨ 155 = 154 ∨ 155 = 155 by decide) _
    · simp only [gIs, Nat.reduceEqDiff, false_and, true_and, if_false]
      by_cases e : i = k
      · subst e
        simp only [if_true]
        exact ⟨(hs 114 (by decide)).1 i, (hs 115 (by decide)).1 i, (hs 116 (by decide)).1 i, (hs 139 (by decide)).1 i, (hs 140 (by decide)).1 i, (hs 141 (by decide)).1 i, (hs 142 (by decide)).1 i, (hs 143 (by decide)).1 i⟩
      · simp only [if_neg e]
        exact h i (by omega)
theorem y_imB (d : Nat) {Q : zQ} {mm : zM} (K : (∀ m2, zsm (fun q => q = 147) mm m2 → (∀ j, j < 32 → gI m2 147 j = gI mm 117 j) → zRun (zCall d) 9 (some .int) zc_Mod_image Q 199 [.ref 113, .int 0] [] m2)) : ∀ j k m', k + j = 32 → zsm (fun q => q = 147) mm m' → (∀ j, j < k → gI m' 147 j = gI mm 117 j) → zRun (zCall d) 9 (some .int) zc_Mod_image Q 173 [.ref 113, .int (nI k)] [] m'
  | 0, k, m', hk, hs, h => sg_Mod_image_173 (zCall_m _) _ m' (ip (nI_le (a := 32) (by omega) (by omega)) (K m' hs (fun j hj => h j (by omega))))
  | j + 1, k, m', hk, hs, h => by
    refine sg_Mod_image_173 (zCall_m _) _ m' (iq (nI_ge (b := 32) (by omega) (by decide)) ?_)
    have hin : vp_in (nI k) 32 := vp_in_nI (by omega) (by decide)
    try simp only [gIs, Nat.reduceEqDiff, false_and, true_and, if_false]
    rw [nI_clamp (by omega), nI_1]
    refine ⟨hin, hin, y_imB d K j (k + 1) _ (by omega) ?_ (fun i hi => ?_)⟩
    · refine zsm_tr hs ?_
      exact zsm_sI (P := (fun q => q = 147)) (zsm_refl m') (show 147 = 147 by decide) _
    · simp only [gIs, Nat.reduceEqDiff, false_and, true_and, if_false]
      by_cases e : i = k
      · subst e
        simp only [if_true]
        exact (hs 117 (by decide)).1 i
      · simp only [if_neg e]
        exact h i (by omega)
theorem y_imC (d : Nat) {Q : zQ} {mm : zM} (K : (∀ m2, zsm (fun q => q = 148 ∨ q = 149 ∨ q = 150) mm m2 → (∀ j, j < 5 → gI m2 148 j = gI mm 136 j ∧ gI m2 149 j = gI mm 137 j ∧ gI m2 150 j = gI mm 138 j) → Q (some (.int (gI m2 113 0))) m2)) : ∀ j k m', k + j = 5 → zsm (fun q => q = 148 ∨ q = 149 ∨ q = 150) mm m' → (∀ j, j < k → gI m' 148 j = gI mm 136 j ∧ gI m' 149 j = gI mm 137 j ∧ gI m' 150 j = gI mm 138 j) → zRun (zCall d) 9 (some .int) zc_Mod_image Q 199 [.ref 113, .int (nI k)] [] m'
  | 0, k, m', hk, hs, h => sg_Mod_image_199 (zCall_m _) _ m' (ip (nI_le (a := 5) (by omega) (by omega)) (K m' hs (fun j hj => h j (by omega))))
  | j + 1, k, m', hk, hs, h => by
    refine sg_Mod_image_199 (zCall_m _) _ m' (iq (nI_ge (b := 5) (by omega) (by decide)) ?_)
    have hin : vp_in (nI k) 5 := vp_in_nI (by omega) (by decide)
    try simp only [gIs, Nat.reduceEqDiff, false_and, true_and, if_false]
    rw [nI_clamp (by omega), nI_1]
    refine ⟨hin, hin, hin, hin, hin, hin, y_imC d K j (k + 1) _ (by omega) ?_ (fun i hi => ?_)⟩
    · refine zsm_tr hs ?_
      exact zsm_sI (P := (fun q => q = 148 ∨ q = 149 ∨ q = 150)) (zsm_sI (P := (fun q => q = 148 ∨ q = 149 ∨ q = 150)) (zsm_sI (P := (fun q => q = 148 ∨ q = 149 ∨ q = 150)) (zsm_refl m') (show 148 = 148 ∨ 148 = 149 ∨ 148 = 150 by decide) _) (show 149 = 148 ∨ 149 = 149 ∨ 149 = 150 by decide) _) (show 150 = 148 ∨ 150 = 149 ∨ 150 = 150 by decide) _
    · simp only [gIs, Nat.reduceEqDiff, false_and, true_and, if_false]
      by_cases e : i = k
      · subst e
        simp only [if_true]
        exact ⟨(hs 136 (by decide)).1 i, (hs 137 (by decide)).1 i, (hs 138 (by decide)).1 i⟩
      · simp only [if_neg e]
        exact h i (by omega)
theorem y_unA (d : Nat) {Q : zQ} {mm : zM} (K : (∀ m2, zsm (fun q => q = 114 ∨ q = 115 ∨ q = 116 ∨ q = 139 ∨ q = 140 ∨ q = 141 ∨ q = 142 ∨ q = 143) mm m2 → (∀ j, j < 8 → gI m2 114 j = gI mm 144 j ∧ gI m2 115 j = gI mm 145 j ∧ gI m2 116 j = gI mm 146 j ∧ gI m2 139 j = gI mm 151 j ∧ gI m2 140 j = gI mm 152 j ∧ gI m2 141 j = gI mm 153 j ∧ gI m2 142 j = gI mm 154 j ∧ gI m2 143 j = gI mm 155 j) → zRun (zCall d) 9 (some .int) zc_Mod_undo Q 178 [.ref 113, .int 0] [] m2)) : ∀ j k m', k + j = 8 → zsm (fun q => q = 114 ∨ q = 115 ∨ q = 116 ∨ q = 139 ∨ q = 140 ∨ q = 141 ∨ q = 142 ∨ q = 143) mm m' → (∀ j, j < k → gI m' 114 j = gI mm 144 j ∧ gI m' 115 j = gI mm 145 j ∧ gI m' 116 j = gI mm 146 j ∧ gI m' 139 j = gI mm 151 j ∧ gI m' 140 j = gI mm 152 j ∧ gI m' 141 j = gI mm 153 j ∧ gI m' 142 j = gI mm 154 j ∧ gI m' 143 j = gI mm 155 j) → zRun (zCall d) 9 (some .int) zc_Mod_undo Q 68 [.ref 113, .int (nI k)] [] m'
  | 0, k, m', hk, hs, h => sg_Mod_undo_68 (zCall_m _) _ m' (ip (nI_le (a := 8) (by omega) (by omega)) (K m' hs (fun j hj => h j (by omega))))
  | j + 1, k, m', hk, hs, h => by
    refine sg_Mod_undo_68 (zCall_m _) _ m' (iq (nI_ge (b := 8) (by omega) (by decide)) ?_)
    have hin : vp_in (nI k) 8 := vp_in_nI (by omega) (by decide)
    try simp only [gIs, Nat.reduceEqDiff, false_and, true_and, if_false]
    rw [nI_clamp (by omega), nI_1]
    refine ⟨hin, hin, hin, hin, hin, hin, hin, hin, hin, hin, hin, hin, hin, hin, hin, hin, y_unA d K j (k + 1) _ (by omega) ?_ (fun i hi => ?_)⟩
    · refine zsm_tr hs ?_
      exact zsm_sI (P := (fun q => q = 114 ∨ q = 115 ∨ q = 116 ∨ q = 139 ∨ q = 140 ∨ q = 141 ∨ q = 142 ∨ q = 143)) (zsm_sI (P := (fun q => q = 114 ∨ q = 115 ∨ q = 116 ∨ q = 139 ∨ q = 140 ∨ q = 141 ∨ q = 142 ∨ q = 143)) (zsm_sI (P := (fun q => q = 114 ∨ q = 115 ∨ q = 116 ∨ q = 139 ∨ q = 140 ∨ q = 141 ∨ q = 142 ∨ q = 143)) (zsm_sI (P := (fun q => q = 114 ∨ q = 115 ∨ q = 116 ∨ q = 139 ∨ q = 140 ∨ q = 141 ∨ q = 142 ∨ q = 143)) (zsm_sI (P := (fun q => q = 114 ∨ q = 115 ∨ q = 116 ∨ q = 139 ∨ q = 140 ∨ q = 141 ∨ q = 142 ∨ q = 143)) (zsm_sI (P := (fun q => q = 114 ∨ q = 115 ∨ q = 116 ∨ q = 139 ∨ q = 140 ∨ q = 141 ∨ q = 142 ∨ q = 143)) (zsm_sI (P := (fun q => q = 114 ∨ q = 115 ∨ q = 116 ∨ q = 139 ∨ q = 140 ∨ q = 141 ∨ q = 142 ∨ q = 143)) (zsm_sI (P := (fun q => q = 114 ∨ q = 115 ∨ q = 116 ∨ q = 139 ∨ q = 140 ∨ q = 141 ∨ q = 142 ∨ q = 143)) (zsm_refl m') (show 114 = 114 ∨ 114 = 115 ∨ 114 = 116 ∨ 114 = 139 ∨ 114 = 140 ∨ 114 = 141 ∨ 114 = 142 ∨ 114 = 143 by decide) _) (show 115 = 114 ∨ 115 = 115 ∨ 115 = 116 ∨ 115 = 139 ∨ 115 = 140 ∨ 115 = 141 ∨ 115 = 142 ∨ 115 = 143 by decide) _) (show 116 = 114 ∨ 116 = 115 ∨ 116 = 116 ∨ 116 = 139 ∨ 116 = 140 ∨ 116 = 141 ∨ 116 = 142 ∨ 116 = 143 by decide) _) (show 139 = 114 ∨ 139 = 115 ∨ 139 = 116 ∨ 139 = 139 ∨ 139 = 140 ∨ 139 = 141 ∨ 139 = 142 ∨ 139 = 143 by decide) _) (show 140 = 114 ∨ 140 = 115 ∨ 140 = 116 ∨ 140 = 139 ∨ 140 = 140 ∨ 140 = 141 ∨ 140 = 142 ∨ 140 = 143 by decide) _) (show 141 = 114 ∨ 141 = 115 ∨ 141 = 116 ∨ 141 = 139 ∨ 141 = 140 ∨ 141 = 141 ∨ 141 = 142 ∨ 141 = 143 by decide) _) (show 142 = 114 ∨ 142 = 115 ∨ 142 = 116 ∨ 142 = 139 ∨ 142 = 140 ∨ 142 = 141 ∨ 142 = 142 ∨ 142 = 143 by decide) _) (show 143 = 114 ∨ 143 = 115 ∨ 143 = 116 ∨ 143 = 139 ∨ 143 = 140 ∨ 143 = 141 ∨ 143 = 142 ∨ 143 = 143 by decide) _
    · simp only [gIs, Nat.reduceEqDiff, false_and, true_and, if_false]
      by_cases e : i = k
      · subst e
        simp only [if_true]
        exact ⟨(hs 144 (by decide)).1 i, (hs 145 (by decide)).1 i, (hs 146 (by decide)).1 i, (hs 151 (by decide)).1 i, (hs 152 (by decide)).1 i, (hs 153 (by decide)).1 i, (hs 154 (by decide)).1 i, (hs 155 (by decide)).1 i⟩
      · simp only [if_neg e]
        exact h i (by omega)
theorem y_unB (d : Nat) {Q : zQ} {mm : zM} (K : (∀ m2, zsm (fun q => q = 117) mm m2 → (∀ j, j < 32 → gI m2 117 j = gI mm 147 j) → zRun (zCall d) 9 (some .int) zc_Mod_undo Q 204 [.ref 113, .int 0] [] m2)) : ∀ j k m', k + j = 32 → zsm (fun q => q = 117) mm m' → (∀ j, j < k → gI m' 117 j = gI mm 147 j) → zRun (zCall d) 9 (some .int) zc_Mod_undo Q 178 [.ref 113, .int (nI k)] [] m'
  | 0, k, m', hk, hs, h => sg_Mod_undo_178 (zCall_m _) _ m' (ip (nI_le (a := 32) (by omega) (by omega)) (K m' hs (fun j hj => h j (by omega))))
  | j + 1, k, m', hk, hs, h => by
    refine sg_Mod_undo_178 (zCall_m _) _ m' (iq (nI_ge (b := 32) (by omega) (by decide)) ?_)
    have hin : vp_in (nI k) 32 := vp_in_nI (by omega) (by decide)
    try simp only [gIs, Nat.reduceEqDiff, false_and, true_and, if_false]
    rw [nI_clamp (by omega), nI_1]
    refine ⟨hin, hin, y_unB d K j (k + 1) _ (by omega) ?_ (fun i hi => ?_)⟩
    · refine zsm_tr hs ?_
      exact zsm_sI (P := (fun q => q = 117)) (zsm_refl m') (show 117 = 117 by decide) _
    · simp only [gIs, Nat.reduceEqDiff, false_and, true_and, if_false]
      by_cases e : i = k
      · subst e
        simp only [if_true]
        exact (hs 147 (by decide)).1 i
      · simp only [if_neg e]
        exact h i (by omega)
theorem y_unC (d : Nat) {Q : zQ} {mm : zM} (K : (∀ m2, zsm (fun q => q = 136 ∨ q = 137 ∨ q = 138) mm m2 → (∀ j, j < 5 → gI m2 136 j = gI mm 148 j ∧ gI m2 137 j = gI mm 149 j ∧ gI m2 138 j = gI mm 150 j) → Q (some (.int (gI m2 113 0))) m2)) : ∀ j k m', k + j = 5 → zsm (fun q => q = 136 ∨ q = 137 ∨ q = 138) mm m' → (∀ j, j < k → gI m' 136 j = gI mm 148 j ∧ gI m' 137 j = gI mm 149 j ∧ gI m' 138 j = gI mm 150 j) → zRun (zCall d) 9 (some .int) zc_Mod_undo Q 204 [.ref 113, .int (nI k)] [] m'
  | 0, k, m', hk, hs, h => sg_Mod_undo_204 (zCall_m _) _ m' (ip (nI_le (a := 5) (by omega) (by omega)) (K m' hs (fun j hj => h j (by omega))))
  | j + 1, k, m', hk, hs, h => by
    refine sg_Mod_undo_204 (zCall_m _) _ m' (iq (nI_ge (b := 5) (by omega) (by decide)) ?_)
    have hin : vp_in (nI k) 5 := vp_in_nI (by omega) (by decide)
    try simp only [gIs, Nat.reduceEqDiff, false_and, true_and, if_false]
    rw [nI_clamp (by omega), nI_1]
    refine ⟨hin, hin, hin, hin, hin, hin, y_unC d K j (k + 1) _ (by omega) ?_ (fun i hi => ?_)⟩
    · refine zsm_tr hs ?_
      exact zsm_sI (P := (fun q => q = 136 ∨ q = 137 ∨ q = 138)) (zsm_sI (P := (fun q => q = 136 ∨ q = 137 ∨ q = 138)) (zsm_sI (P := (fun q => q = 136 ∨ q = 137 ∨ q = 138)) (zsm_refl m') (show 136 = 136 ∨ 136 = 137 ∨ 136 = 138 by decide) _) (show 137 = 136 ∨ 137 = 137 ∨ 137 = 138 by decide) _) (show 138 = 136 ∨ 138 = 137 ∨ 138 = 138 by decide) _
    · simp only [gIs, Nat.reduceEqDiff, false_and, true_and, if_false]
      by_cases e : i = k
      · subst e
        simp only [if_true]
        exact ⟨(hs 148 (by decide)).1 i, (hs 149 (by decide)).1 i, (hs 150 (by decide)).1 i⟩
      · simp only [if_neg e]
        exact h i (by omega)
theorem y_mimage (d : Nat) {Q : zQ} {m : zM} (K : ∀ m2, zsm (fun q => q = 113 ∨ (144 ≤ q ∧ q ≤ 155)) m m2 → (∀ k, k ≠ 45 ∧ k ≠ 46 ∧ k ≠ 47 ∧ k ≠ 48 ∧ k ≠ 49 ∧ k ≠ 50 ∧ k ≠ 51 ∧ k ≠ 44 → gI m2 113 k = gI m 113 k) → (gI m2 113 44 = 1 ∧ gI m2 113 45 = gI m 113 8 ∧ gI m2 113 46 = gI m 113 0 ∧ gI m2 113 47 = gI m 113 1 ∧ gI m2 113 48 = gI m 113 2 ∧ gI m2 113 49 = gI m 113 33 ∧ gI m2 113 50 = gI m 113 37 ∧ gI m2 113 51 = gI m 113 38) → (∀ j, j < 8 → (gI m2 144 j = gI m 114 j ∧ gI m2 145 j = gI m 115 j ∧ gI m2 146 j = gI m 116 j ∧ gI m2 151 j = gI m 139 j ∧ gI m2 152 j = gI m 140 j ∧ gI m2 153 j = gI m 141 j ∧ gI m2 154 j = gI m 142 j ∧ gI m2 155 j = gI m 143 j)) → (∀ j, j < 32 → (gI m2 147 j = gI m 117 j)) → (∀ j, j < 5 → (gI m2 148 j = gI m 136 j ∧ gI m2 149 j = gI m 137 j ∧ gI m2 150 j = gI m 138 j)) → Q (some (.int (gI m 113 0))) m2) : zCall (d + 1) m_Mod_image [.ref 113] m Q := by
  refine en_Mod_image d m (sg_Mod_image_0 (zCall_m _) m ?_)
  refine ⟨Or.inr rfl, ?_⟩
  have red : ∀ (x y : Nat) (p q : Int32), x ≠ y → (if (113 = 113 ∧ x = y) then p else q) = q := fun x y p q h => if_neg (fun z => h z.2)
  have goal : zRun (zCall d) 9 (some .int) zc_Mod_image Q 63 [.ref 113, .int (nI 0)] [] (sI (sI (sI (sI (sI (sI (sI (sI m 113 44 1) 113 45 (gI m 113 8)) 113 46 (gI m 113 0)) 113 47 (gI m 113 1)) 113 48 (gI m 113 2)) 113 49 (gI m 113 33)) 113 50 (gI m 113 37)) 113 51 (gI m 113 38)) := by
    have q113 : ∀ k, gI (sI (sI (sI (sI (sI (sI (sI (sI m 113 44 1) 113 45 (gI m 113 8)) 113 46 (gI m 113 0)) 113 47 (gI m 113 1)) 113 48 (gI m 113 2)) 113 49 (gI m 113 33)) 113 50 (gI m 113 37)) 113 51 (gI m 113 38)) 113 k = if k = 51 then gI m 113 38 else if k = 50 then gI m 113 37 else if k = 49 then gI m 113 33 else if k = 48 then gI m 113 2 else if k = 47 then gI m 113 1 else if k = 46 then gI m 113 0 else if k = 45 then gI m 113 8 else if k = 44 then 1 else gI m 113 k := fun k => by
      simp only [gIs, true_and]
    have qo : ∀ q, q ≠ 113 → ∀ k, gI (sI (sI (sI (sI (sI (sI (sI (sI m 113 44 1) 113 45 (gI m 113 8)) 113 46 (gI m 113 0)) 113 47 (gI m 113 1)) 113 48 (gI m 113 2)) 113 49 (gI m 113 33)) 113 50 (gI m 113 37)) 113 51 (gI m 113 38)) q k = gI m q k := fun q hq k => by
      simp only [gIs, hq, false_and, if_false]
    have z0 : zsm (fun q => q = 113 ∨ (144 ≤ q ∧ q ≤ 155)) m (sI (sI (sI (sI (sI (sI (sI (sI m 113 44 1) 113 45 (gI m 113 8)) 113 46 (gI m 113 0)) 113 47 (gI m 113 1)) 113 48 (gI m 113 2)) 113 49 (gI m 113 33)) 113 50 (gI m 113 37)) 113 51 (gI m 113 38)) := zsm_sI (P := (fun q => q = 113 ∨ (144 ≤ q ∧ q ≤ 155))) (zsm_sI (P := (fun q => q = 113 ∨ (144 ≤ q ∧ q ≤ 155))) (zsm_sI (P := (fun q => q = 113 ∨ (144 ≤ q ∧ q ≤ 155))) (zsm_sI (P := (fun q => q = 113 ∨ (144 ≤ q ∧ q ≤ 155))) (zsm_sI (P := (fun q => q = 113 ∨ (144 ≤ q ∧ q ≤ 155))) (zsm_sI (P := (fun q => q = 113 ∨ (144 ≤ q ∧ q ≤ 155))) (zsm_sI (P := (fun q => q = 113 ∨ (144 ≤ q ∧ q ≤ 155))) (zsm_sI (P := (fun q => q = 113 ∨ (144 ≤ q ∧ q ≤ 155))) (zsm_refl m) (Or.inl rfl) _) (Or.inl rfl) _) (Or.inl rfl) _) (Or.inl rfl) _) (Or.inl rfl) _) (Or.inl rfl) _) (Or.inl rfl) _) (Or.inl rfl) _
    generalize (sI (sI (sI (sI (sI (sI (sI (sI m 113 44 1) 113 45 (gI m 113 8)) 113 46 (gI m 113 0)) 113 47 (gI m 113 1)) 113 48 (gI m 113 2)) 113 49 (gI m 113 33)) 113 50 (gI m 113 37)) 113 51 (gI m 113 38)) = m0 at q113 qo z0 ⊢
    refine y_imA d (fun m1 z1 w1 => y_imB d (fun m2 z2 w2 => y_imC d (fun m3 z3 w3 => ?_) 5 0 m2 rfl (zsm_refl m2) (fun j hj => absurd hj (Nat.not_lt_zero _))) 32 0 m1 rfl (zsm_refl m1) (fun j hj => absurd hj (Nat.not_lt_zero _))) 8 0 m0 rfl (zsm_refl m0) (fun j hj => absurd hj (Nat.not_lt_zero _))
    have e113 : ∀ k, gI m3 113 k = gI m0 113 k := fun k => ((z3 113 (by decide)).1 k).trans (((z2 113 (by decide)).1 k).trans ((z1 113 (by decide)).1 k))
    rw [e113, q113]
    refine K m3 (zsm_tr z0 (zsm_tr (zsm_mo (fun q z => ?_) z1) (zsm_tr (zsm_mo (fun q z => ?_) z2) (zsm_mo (fun q z => ?_) z3)))) (fun k hk => ?_) ?_ (fun j hj => ?_) (fun j hj => ?_) (fun j hj => ?_)
    · omega
    · omega
    · omega
    · rw [e113, q113]
      simp only [hk, if_false]
    · refine ⟨?_, ?_, ?_, ?_, ?_, ?_, ?_, ?_⟩ <;> (rw [e113, q113]; rfl)
    · obtain ⟨a0, a1, a2, a3, a4, a5, a6, a7⟩ := w1 j hj
      exact ⟨((z3 144 (by decide)).1 j).trans (((z2 144 (by decide)).1 j).trans (a0.trans (qo 114 (by decide) j))), ((z3 145 (by decide)).1 j).trans (((z2 145 (by decide)).1 j).trans (a1.trans (qo 115 (by decide) j))), ((z3 146 (by decide)).1 j).trans (((z2 146 (by decide)).1 j).trans (a2.trans (qo 116 (by decide) j))), ((z3 151 (by decide)).1 j).trans (((z2 151 (by decide)).1 j).trans (a3.trans (qo 139 (by decide) j))), ((z3 152 (by decide)).1 j).trans (((z2 152 (by decide)).1 j).trans (a4.trans (qo 140 (by decide) j))), ((z3 153 (by decide)).1 j).trans (((z2 153 (by decide)).1 j).trans (a5.trans (qo 141 (by decide) j))), ((z3 154 (by decide)).1 j).trans (((z2 154 (by decide)).1 j).trans (a6.trans (qo 142 (by decide) j))), ((z3 155 (by decide)).1 j).trans (((z2 155 (by decide)).1 j).trans (a7.trans (qo 143 (by decide) j)))⟩
    · exact ((z3 147 (by decide)).1 j).trans ((w2 j hj).trans (((z1 117 (by decide)).1 j).trans (qo 117 (by decide) j)))
    · obtain ⟨a0, a1, a2⟩ := w3 j hj
      exact ⟨a0.trans (((z2 136 (by decide)).1 j).trans (((z1 136 (by decide)).1 j).trans (qo 136 (by decide) j))), a1.trans (((z2 137 (by decide)).1 j).trans (((z1 137 (by decide)).1 j).trans (qo 137 (by decide) j))), a2.trans (((z2 138 (by decide)).1 j).trans (((z1 138 (by decide)).1 j).trans (qo 138 (by decide) j)))⟩
  simp only [gIs, true_and, Nat.reduceEqDiff, if_false, reduceCtorEq]
  exact goal
theorem y_mundo (d : Nat) {Q : zQ} {m : zM} (h44 : ¬ gI m 113 44 = 0) (K : ∀ m2, zsm (fun q => q = 113 ∨ (114 ≤ q ∧ q ≤ 117) ∨ (136 ≤ q ∧ q ≤ 143)) m m2 → (∀ k, k ≠ 8 ∧ k ≠ 0 ∧ k ≠ 1 ∧ k ≠ 2 ∧ k ≠ 33 ∧ k ≠ 37 ∧ k ≠ 38 → gI m2 113 k = gI m 113 k) → (gI m2 113 8 = gI m 113 45 ∧ gI m2 113 0 = gI m 113 46 ∧ gI m2 113 1 = gI m 113 47 ∧ gI m2 113 2 = gI m 113 48 ∧ gI m2 113 33 = gI m 113 49 ∧ gI m2 113 37 = gI m 113 50 ∧ gI m2 113 38 = gI m 113 51) → (∀ j, j < 8 → (gI m2 114 j = gI m 144 j ∧ gI m2 115 j = gI m 145 j ∧ gI m2 116 j = gI m 146 j ∧ gI m2 139 j = gI m 151 j ∧ gI m2 140 j = gI m 152 j ∧ gI m2 141 j = gI m 153 j ∧ gI m2 142 j = gI m 154 j ∧ gI m2 143 j = gI m 155 j)) → (∀ j, j < 32 → (gI m2 117 j = gI m 147 j)) → (∀ j, j < 5 → (gI m2 136 j = gI m 148 j ∧ gI m2 137 j = gI m 149 j ∧ gI m2 138 j = gI m 150 j)) → Q (some (.int (gI m 113 46))) m2) : zCall (d + 1) m_Mod_undo [.ref 113] m Q := by
  refine en_Mod_undo d m (sg_Mod_undo_0 (zCall_m _) m ?_)
  refine ip h44 ?_
  have red : ∀ (x y : Nat) (p q : Int32), x ≠ y → (if (113 = 113 ∧ x = y) then p else q) = q := fun x y p q h => if_neg (fun z => h z.2)
  have goal : zRun (zCall d) 9 (some .int) zc_Mod_undo Q 68 [.ref 113, .int (nI 0)] [] (sI (sI (sI (sI (sI (sI (sI m 113 8 (gI m 113 45)) 113 0 (gI m 113 46)) 113 1 (gI m 113 47)) 113 2 (gI m 113 48)) 113 33 (gI m 113 49)) 113 37 (gI m 113 50)) 113 38 (gI m 113 51)) := by
    have q113 : ∀ k, gI (sI (sI (sI (sI (sI (sI (sI m 113 8 (gI m 113 45)) 113 0 (gI m 113 46)) 113 1 (gI m 113 47)) 113 2 (gI m 113 48)) 113 33 (gI m 113 49)) 113 37 (gI m 113 50)) 113 38 (gI m 113 51)) 113 k = if k = 38 then gI m 113 51 else if k = 37 then gI m 113 50 else if k = 33 then gI m 113 49 else if k = 2 then gI m 113 48 else if k = 1 then gI m 113 47 else if k = 0 then gI m 113 46 else if k = 8 then gI m 113 45 else gI m 113 k := fun k => by
      simp only [gIs, true_and]
    have qo : ∀ q, q ≠ 113 → ∀ k, gI (sI (sI (sI (sI (sI (sI (sI m 113 8 (gI m 113 45)) 113 0 (gI m 113 46)) 113 1 (gI m 113 47)) 113 2 (gI m 113 48)) 113 33 (gI m 113 49)) 113 37 (gI m 113 50)) 113 38 (gI m 113 51)) q k = gI m q k := fun q hq k => by
      simp only [gIs, hq, false_and, if_false]
    have z0 : zsm (fun q => q = 113 ∨ (114 ≤ q ∧ q ≤ 117) ∨ (136 ≤ q ∧ q ≤ 143)) m (sI (sI (sI (sI (sI (sI (sI m 113 8 (gI m 113 45)) 113 0 (gI m 113 46)) 113 1 (gI m 113 47)) 113 2 (gI m 113 48)) 113 33 (gI m 113 49)) 113 37 (gI m 113 50)) 113 38 (gI m 113 51)) := zsm_sI (P := (fun q => q = 113 ∨ (114 ≤ q ∧ q ≤ 117) ∨ (136 ≤ q ∧ q ≤ 143))) (zsm_sI (P := (fun q => q = 113 ∨ (114 ≤ q ∧ q ≤ 117) ∨ (136 ≤ q ∧ q ≤ 143))) (zsm_sI (P := (fun q => q = 113 ∨ (114 ≤ q ∧ q ≤ 117) ∨ (136 ≤ q ∧ q ≤ 143))) (zsm_sI (P := (fun q => q = 113 ∨ (114 ≤ q ∧ q ≤ 117) ∨ (136 ≤ q ∧ q ≤ 143))) (zsm_sI (P := (fun q => q = 113 ∨ (114 ≤ q ∧ q ≤ 117) ∨ (136 ≤ q ∧ q ≤ 143))) (zsm_sI (P := (fun q => q = 113 ∨ (114 ≤ q ∧ q ≤ 117) ∨ (136 ≤ q ∧ q ≤ 143))) (zsm_sI (P := (fun q => q = 113 ∨ (114 ≤ q ∧ q ≤ 117) ∨ (136 ≤ q ∧ q ≤ 143))) (zsm_refl m) (Or.inl rfl) _) (Or.inl rfl) _) (Or.inl rfl) _) (Or.inl rfl) _) (Or.inl rfl) _) (Or.inl rfl) _) (Or.inl rfl) _
    generalize (sI (sI (sI (sI (sI (sI (sI m 113 8 (gI m 113 45)) 113 0 (gI m 113 46)) 113 1 (gI m 113 47)) 113 2 (gI m 113 48)) 113 33 (gI m 113 49)) 113 37 (gI m 113 50)) 113 38 (gI m 113 51)) = m0 at q113 qo z0 ⊢
    refine y_unA d (fun m1 z1 w1 => y_unB d (fun m2 z2 w2 => y_unC d (fun m3 z3 w3 => ?_) 5 0 m2 rfl (zsm_refl m2) (fun j hj => absurd hj (Nat.not_lt_zero _))) 32 0 m1 rfl (zsm_refl m1) (fun j hj => absurd hj (Nat.not_lt_zero _))) 8 0 m0 rfl (zsm_refl m0) (fun j hj => absurd hj (Nat.not_lt_zero _))
    have e113 : ∀ k, gI m3 113 k = gI m0 113 k := fun k => ((z3 113 (by decide)).1 k).trans (((z2 113 (by decide)).1 k).trans ((z1 113 (by decide)).1 k))
    rw [e113, q113]
    refine K m3 (zsm_tr z0 (zsm_tr (zsm_mo (fun q z => ?_) z1) (zsm_tr (zsm_mo (fun q z => ?_) z2) (zsm_mo (fun q z => ?_) z3)))) (fun k hk => ?_) ?_ (fun j hj => ?_) (fun j hj => ?_) (fun j hj => ?_)
    · omega
    · omega
    · omega
    · rw [e113, q113]
      simp only [hk, if_false]
    · refine ⟨?_, ?_, ?_, ?_, ?_, ?_, ?_⟩ <;> (rw [e113, q113]; rfl)
    · obtain ⟨a0, a1, a2, a3, a4, a5, a6, a7⟩ := w1 j hj
      exact ⟨((z3 114 (by decide)).1 j).trans (((z2 114 (by decide)).1 j).trans (a0.trans (qo 144 (by decide) j))), ((z3 115 (by decide)).1 j).trans (((z2 115 (by decide)).1 j).trans (a1.trans (qo 145 (by decide) j))), ((z3 116 (by decide)).1 j).trans (((z2 116 (by decide)).1 j).trans (a2.trans (qo 146 (by decide) j))), ((z3 139 (by decide)).1 j).trans (((z2 139 (by decide)).1 j).trans (a3.trans (qo 151 (by decide) j))), ((z3 140 (by decide)).1 j).trans (((z2 140 (by decide)).1 j).trans (a4.trans (qo 152 (by decide) j))), ((z3 141 (by decide)).1 j).trans (((z2 141 (by decide)).1 j).trans (a5.trans (qo 153 (by decide) j))), ((z3 142 (by decide)).1 j).trans (((z2 142 (by decide)).1 j).trans (a6.trans (qo 154 (by decide) j))), ((z3 143 (by decide)).1 j).trans (((z2 143 (by decide)).1 j).trans (a7.trans (qo 155 (by decide) j)))⟩
    · exact ((z3 117 (by decide)).1 j).trans ((w2 j hj).trans (((z1 147 (by decide)).1 j).trans (qo 147 (by decide) j)))
    · obtain ⟨a0, a1, a2⟩ := w3 j hj
      exact ⟨a0.trans (((z2 148 (by decide)).1 j).trans (((z1 148 (by decide)).1 j).trans (qo 148 (by decide) j))), a1.trans (((z2 149 (by decide)).1 j).trans (((z1 149 (by decide)).1 j).trans (qo 149 (by decide) j))), a2.trans (((z2 150 (by decide)).1 j).trans (((z1 150 (by decide)).1 j).trans (qo 150 (by decide) j)))⟩
  simp only [gIs, true_and, Nat.reduceEqDiff, if_false, reduceCtorEq]
  exact goal
