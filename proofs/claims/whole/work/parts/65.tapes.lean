/-! item, tape (gen65.py) -/
def narF (s : Int32) (x : Int64) : Int64 := if s = 0 then ((x.toInt32).toInt8.toInt32).toInt64 else if s = 1 then ((x.toInt32).toInt16.toInt32).toInt64 else if s = 2 then (x.toInt32).toInt64 else if s = 4 then (if (lg_cmp x (0 : Int64)) = (0 : Int32) then 0 else 1) else x
theorem narF_4 (x : Int64) : narF 4 x = 0 ∨ narF 4 x = 1 := by
  unfold narF
  rw [if_neg (by decide), if_neg (by decide), if_neg (by decide), if_pos rfl]
  split
  · exact Or.inl rfl
  · exact Or.inr rfl
theorem fit_q {Q : zQ} {m : zM} {s : Int32} {a : Int64} (h : Q (some (.long (narF s a))) m) : if s = (0 : Int32) then Q (some (.long (((a.toInt32).toInt8.toInt32).toInt64))) m
    else if s = (1 : Int32) then Q (some (.long (((a.toInt32).toInt16.toInt32).toInt64))) m
    else if s = (2 : Int32) then Q (some (.long ((a.toInt32).toInt64))) m
    else if s = (3 : Int32) then Q (some (.long a)) m
    else if s = (4 : Int32) then if (lg_cmp a (0 : Int64)) = (0 : Int32) then Q (some (.long (0 : Int64))) m
      else Q (some (.long (1 : Int64))) m
    else Q (some (.long a)) m := by
  unfold narF at h
  by_cases h0 : s = 0
  · rw [if_pos h0] at h; exact ip h0 h
  · rw [if_neg h0] at h
    refine iq h0 ?_
    by_cases h1 : s = 1
    · rw [if_pos h1] at h; exact ip h1 h
    · rw [if_neg h1] at h
      refine iq h1 ?_
      by_cases h2 : s = 2
      · rw [if_pos h2] at h; exact ip h2 h
      · rw [if_neg h2] at h
        refine iq h2 ?_
        by_cases h3 : s = 3
        · rw [if_neg (by rw [h3]; decide)] at h; exact ip h3 h
        · refine iq h3 ?_
          by_cases h4 : s = 4
          · rw [if_pos h4] at h
            refine ip h4 ?_
            by_cases h5 : lg_cmp a (0 : Int64) = (0 : Int32)
            · rw [if_pos h5] at h; exact ip h5 h
            · rw [if_neg h5] at h; exact iq h5 h
          · rw [if_neg h4] at h; exact iq h4 h
theorem y_narrow (d : Nat) {Q : zQ} {m : zM} (s : Int32) (b : Int64) (h : Q (some (.long (narF s b))) m) : zCall (d + 1) m_Mod_narrow [.ref 113, .int s, .long b] m Q := by
  refine en_Mod_narrow d _ _ m (sg_Mod_narrow_0 (zCall_m _) _ _ m ?_)
  unfold narF at h
  by_cases h0 : s = 0
  · rw [if_pos h0] at h; exact iq (fun z => z h0) h
  · rw [if_neg h0] at h
    refine ip h0 ?_
    by_cases h1 : s = 1
    · rw [if_pos h1] at h; exact iq (fun z => z h1) h
    · rw [if_neg h1] at h
      refine ip h1 ?_
      by_cases h2 : s = 2
      · rw [if_pos h2] at h; exact iq (fun z => z h2) h
      · rw [if_neg h2] at h
        refine ip h2 ?_
        by_cases h4 : s = 4
        · rw [if_pos h4] at h
          refine iq (fun z => z h4) ?_
          by_cases h5 : lg_cmp b (0 : Int64) = (0 : Int32)
          · rw [if_pos h5] at h; exact ip h5 h
          · rw [if_neg h5] at h; exact iq h5 h
        · rw [if_neg h4] at h; exact ip h4 h
theorem y_fit (d : Nat) {Q : zQ} {m : zM} {t : Nat} (ht : t < 6) (c : Int64) (h : Q (some (.long (narF (gI m (101 + 2 * t) 0) c))) m) : zCall (d + 1) m_Tape_fitted [.ref (101 + 2 * t), .long c] m Q := by
  match t, ht, h with
  | 0, _, h => exact en_Tape_fitted_101 d c m (sg_Tape_fitted_101_0 (zCall_m _) c m (fit_q h))
  | 1, _, h => exact en_Tape_fitted_103 d c m (sg_Tape_fitted_103_0 (zCall_m _) c m (fit_q h))
  | 2, _, h => exact en_Tape_fitted_105 d c m (sg_Tape_fitted_105_0 (zCall_m _) c m (fit_q h))
  | 3, _, h => exact en_Tape_fitted_107 d c m (sg_Tape_fitted_107_0 (zCall_m _) c m (fit_q h))
  | 4, _, h => exact en_Tape_fitted_109 d c m (sg_Tape_fitted_109_0 (zCall_m _) c m (fit_q h))
  | 5, _, h => exact en_Tape_fitted_111 d c m (sg_Tape_fitted_111_0 (zCall_m _) c m (fit_q h))
theorem tp_fit {t : Nat} (h : t < 6) (c : Int64) : zrc 67 [.ref (101 + 2 * t), .long c] = true := by
  match t, h with
  | 0, _ => rfl
  | 1, _ => rfl
  | 2, _ => rfl
  | 3, _ => rfl
  | 4, _ => rfl
  | 5, _ => rfl
theorem tp_bec {t : Nat} (h : t < 6) (a b : Int32) : zrc 66 [.ref (101 + 2 * t), .int a, .int b] = true := by
  match t, h with
  | 0, _ => rfl
  | 1, _ => rfl
  | 2, _ => rfl
  | 3, _ => rfl
  | 4, _ => rfl
  | 5, _ => rfl
theorem tp_spn {t : Nat} (h : t < 6) (a b : Int32) : zrc 68 [.ref (101 + 2 * t), .int a, .int b] = true := by
  match t, h with
  | 0, _ => rfl
  | 1, _ => rfl
  | 2, _ => rfl
  | 3, _ => rfl
  | 4, _ => rfl
  | 5, _ => rfl
theorem rTape_o {m m' : zM} {t : Nat} (h : rTape m t) (h1 : ∀ k, gI m' (101 + 2 * t) k = gI m (101 + 2 * t) k) (h2 : gI m' 157 t = gI m 157 t) (h3 : gI m' 158 t = gI m 158 t) (h4 : ∀ j, j < 60 → gL m' (102 + 2 * t) j = gL m (102 + 2 * t) j) (h5 : ∀ j, j < 60 → gL m' 159 (60 * t + j) = gL m 159 (60 * t + j)) : rTape m' t := by
  obtain ⟨s, n, a, b, c, d, e, f, g, i⟩ := h
  refine ⟨s, n, (h1 0).trans a, h2.trans b, c, (h1 1).trans d, h3.trans e, f, g, fun j hj => ?_⟩
  rw [h4 j hj, h5 j hj]
  exact i j hj
theorem gLs (m : zM) (p k q j : Nat) (v : Int64) : gL (sL m p k v) q j = if q = p ∧ j = k then v else gL m q j := by rw [gL_sL]
theorem gIl (m : zM) (p k q j : Nat) (v : Int64) : gI (sL m p k v) q j = gI m q j := by rw [gI_sL]
theorem gLi (m : zM) (p k q j : Nat) (v : Int32) : gL (sI m p k v) q j = gL m q j := by rw [gL_sI]
theorem rTap_item {m : zM} (h : rTap m) {t u : Nat} (ht : t < 6) (hu : u < 60) {y : Int64} (hy : gI m 157 t = 4 → y = 0 ∨ y = 1) : rTap (sL (sL m (102 + 2 * t) u y) 159 (60 * t + u) y) := fun t' ht' => by
  by_cases e : t' = t
  · subst e
    obtain ⟨s, n, a, b, c, d, e, f, g, i⟩ := h t' ht
    refine ⟨s, n, by rw [gIl, gIl]; exact a, by rw [gIl, gIl]; exact b, c, by rw [gIl, gIl]; exact d, by rw [gIl, gIl]; exact e, f, g, fun j hj => ?_⟩
    rw [gLs, if_neg (fun z => by omega), gLs, gLs, gLs]
    by_cases e : j = u
    · rw [if_pos ⟨rfl, e⟩, if_pos ⟨rfl, by omega⟩]
      exact ⟨rfl, fun z => hy (b.trans z)⟩
    · rw [if_neg (fun z => e z.2), if_neg (fun z => by omega), if_neg (fun z => by omega)]
      exact i j hj
  · refine rTape_o (h t' ht') (fun k => by rw [gIl, gIl]) (by rw [gIl, gIl]) (by rw [gIl, gIl]) (fun j hj => ?_) (fun j hj => ?_)
    · rw [gLs, if_neg (fun z => by omega), gLs, if_neg (fun z => by omega)]
    · rw [gLs, if_neg (fun z => by omega), gLs, if_neg (fun z => by omega)]
theorem ok_item {m : zM} (hR : Rel m) (a b : Int32) (c : Int64) : okI m_Box_item m_Mod_item [.int a, .int b, .long c] m := by
  intro Q hQ
  have h0 := hQ m hR
  obtain ⟨V, hH, hr⟩ := Rel_o hR
  have hr' := hr
  obtain ⟨S, R, B, gc, gs, n, tx, b1, b2, b3, cc, d, e, f, g, i, j, k⟩ := hr'
  refine en_Box_item 49 _ _ _ m (sg_Box_item_0 (zCall_m _) _ _ _ m (y_Box_isTape _ a ⟨_, rfl, zb_d (fun ha => ?_) (fun ha => ?_)⟩))
  · refine ⟨_, rfl, en_Mod_item 49 _ _ _ m (sg_Mod_item_0 (zCall_m _) _ _ _ m (y_Mod_isTape _ a ⟨_, rfl, ?_⟩))⟩
    rw [ha]; exact iq (fun z => z rfl) ⟨_, rfl, rfl, h0⟩
  · have ha' := ha
    obtain ⟨a1, a2⟩ := zr_k ha
    generalize a.toNatClampNeg = t at a1 a2
    subst a2
    obtain ⟨s, len, t1, t2, t3, t4, t5, t6, t7, t8⟩ := i t a1
    obtain ⟨q1, q2, q3, q4⟩ := tp_sh a1
    obtain ⟨n1, n2⟩ := srt_neg t3
    have hin : vp_in (nI t) 6 := vp_in_nI a1 (by decide)
    have MR : ∀ {m' : zM} {Q' : zQ}, gI m' 157 t = s → gI m' 158 t = nI len → (if s = -1 then Q' (some (.int (-11))) m' else if zr b len = true then Q' (some (.int 1)) (sL m' 159 (60 * t + b.toNatClampNeg) (narF s c)) else Q' (some (.int (-13))) m') → zCall 50 m_Mod_item [.ref 113, .int (nI t), .int b, .long c] m' Q' := fun {m' Q'} g1 g2 h => by
      refine en_Mod_item 49 _ _ _ _ (sg_Mod_item_0 (zCall_m _) _ _ _ _ (y_Mod_isTape _ _ ⟨_, rfl, ?_⟩))
      rw [ha']
      refine ip (by decide) ⟨hin, ?_⟩
      rw [nI_clamp (by omega), g1, g2]
      by_cases e : s = -1
      · rw [if_pos e] at h
        exact iq (n1 e).2 h
      · rw [if_neg e] at h
        refine ip (n2 e).2 ⟨hin, y_Mod_in _ b _ (n := len) (nI_m1 (by omega)) ⟨_, rfl, zb_d (fun hb => ?_) (fun hb => ?_)⟩⟩
        · rw [hb] at h; exact h
        · rw [hb] at h
          simp only [if_true] at h
          obtain ⟨c1, c2⟩ := zr_k hb
          generalize b.toNatClampNeg = u at c1 c2 h
          subst c2
          refine ⟨hin, ?_⟩
          rw [g1]
          refine y_narrow _ s c ⟨_, rfl, ?_⟩
          rw [show (60 : Int32) = nI 60 from rfl, pk_mul, nI_add, nI_clamp (by omega)]
          exact ⟨vp_in_nI (by omega) (by decide), h⟩
    refine ⟨hin, ?_⟩
    try rw [nI_clamp (n := t) (by omega)]
    simp only [q1, cond_true, q2, q3, q4, t1, t4, tp_fit a1, Bool.true_and]
    by_cases e : s = -1
    · refine iq (fun z => z e) ⟨_, rfl, MR t2 t5 ?_⟩
      rw [if_pos e]; exact ⟨_, rfl, rfl, h0⟩
    · refine ip e ?_
      by_cases hb : zr b len = true
      · have hb' := hb
        obtain ⟨c1, c2⟩ := zr_k hb
        generalize b.toNatClampNeg = u at c1 c2 MR
        subst c2
        refine iq (nI_pos (n := u) (by omega)) (ip (nI_lt c1 (by omega)) (y_fit _ a1 c ⟨_, rfl, vp_in_nI (by omega) (by decide), _, rfl, MR (by rw [gIl]; exact t2) (by rw [gIl]; exact t5) ?_⟩))
        rw [if_neg e, hb', if_pos rfl, t1]
        try rw [nI_clamp (by omega)]
        refine ⟨_, rfl, rfl, hQ _ ?_⟩
        have F : zfr tapeP tapeK m (sL (sL m (102 + 2 * t) u (narF s c)) 159 (60 * t + u) (narF s c)) := zfr_sL (zfr_sL (zfr_refl m) (by unfold tapeP; omega) _) (by unfold tapeP; omega) _
        exact Rel_tape hH hr F (rTap_item i a1 (by omega) (fun z => by rw [show s = 4 from t2.symm.trans z]; exact narF_4 c))
      · have hb : zr b len = false := by
          cases hz : zr b len with
          | true => exact absurd hz hb
          | false => rfl
        simp only [hb, e, if_false, Bool.false_eq_true] at MR
        by_cases h1 : b < 0
        · exact ip h1 ⟨_, rfl, MR t2 t5 ⟨_, rfl, rfl, h0⟩⟩
        · refine iq h1 ?_
          obtain ⟨u, hu, rfl⟩ := nI_of h1
          have : ¬ u < len := fun z => by rw [zr_nI z hu] at hb; cases hb
          exact iq (nI_nlt (by omega) hu) ⟨_, rfl, MR t2 t5 ⟨_, rfl, rfl, h0⟩⟩
theorem y_bec_101 (d : Nat) {Q : zQ} (a b : Int32) : ∀ j k m', k + j = 60 → (∀ m'', zsm (fun q => q = 102) m' m'' → (∀ i, k ≤ i → i < 60 → gL m'' 102 i = 0) → (∀ i, i < k → gL m'' 102 i = gL m' 102 i) → Q (some (.int 1)) m'') → zRun (zCall d) 7 (some .int) zc_Tape_become Q 12 [.ref 101, .int a, .int b, .int (nI k)] [] m'
  | 0, k, m', hk, h => sg_Tape_become_101_12 (zCall_m _) _ _ _ m' (ip (nI_le (a := 60) (by omega) (by omega)) (h m' (zsm_refl m') (fun i x y => by omega) (fun i _ => rfl)))
  | j + 1, k, m', hk, h => by
    refine sg_Tape_become_101_12 (zCall_m _) _ _ _ m' (iq (nI_ge (b := 60) (by omega) (by decide)) ⟨vp_in_nI (by omega) (by decide), ?_⟩)
    rw [nI_clamp (by omega), nI_1]
    refine y_bec_101 d a b j (k + 1) _ (by omega) fun m2 hs h1 h2 => h m2 (zsm_tr (zsm_sL (P := fun q => q = 102) (zsm_refl m') (show (102 : Nat) = 102 from rfl) _) hs) (fun i x y => ?_) (fun i x => ?_)
    · by_cases e : i = k
      · rw [h2 i (by omega), gLs, if_pos ⟨rfl, e⟩]
      · exact h1 i (by omega) y
    · rw [h2 i (by omega), gLs, if_neg (fun z => by omega)]
theorem y_bec_103 (d : Nat) {Q : zQ} (a b : Int32) : ∀ j k m', k + j = 60 → (∀ m'', zsm (fun q => q = 104) m' m'' → (∀ i, k ≤ i → i < 60 → gL m'' 104 i = 0) → (∀ i, i < k → gL m'' 104 i = gL m' 104 i) → Q (some (.int 1)) m'') → zRun (zCall d) 7 (some .int) zc_Tape_become Q 12 [.ref 103, .int a, .int b, .int (nI k)] [] m'
  | 0, k, m', hk, h => sg_Tape_become_103_12 (zCall_m _) _ _ _ m' (ip (nI_le (a := 60) (by omega) (by omega)) (h m' (zsm_refl m') (fun i x y => by omega) (fun i _ => rfl)))
  | j + 1, k, m', hk, h => by
    refine sg_Tape_become_103_12 (zCall_m _) _ _ _ m' (iq (nI_ge (b := 60) (by omega) (by decide)) ⟨vp_in_nI (by omega) (by decide), ?_⟩)
    rw [nI_clamp (by omega), nI_1]
    refine y_bec_103 d a b j (k + 1) _ (by omega) fun m2 hs h1 h2 => h m2 (zsm_tr (zsm_sL (P := fun q => q = 104) (zsm_refl m') (show (104 : Nat) = 104 from rfl) _) hs) (fun i x y => ?_) (fun i x => ?_)
    · by_cases e : i = k
      · rw [h2 i (by omega), gLs, if_pos ⟨rfl, e⟩]
      · exact h1 i (by omega) y
    · rw [h2 i (by omega), gLs, if_neg (fun z => by omega)]
theorem y_bec_105 (d : Nat) {Q : zQ} (a b : Int32) : ∀ j k m', k + j = 60 → (∀ m'', zsm (fun q => q = 106) m' m'' → (∀ i, k ≤ i → i < 60 → gL m'' 106 i = 0) → (∀ i, i < k → gL m'' 106 i = gL m' 106 i) → Q (some (.int 1)) m'') → zRun (zCall d) 7 (some .int) zc_Tape_become Q 12 [.ref 105, .int a, .int b, .int (nI k)] [] m'
  | 0, k, m', hk, h => sg_Tape_become_105_12 (zCall_m _) _ _ _ m' (ip (nI_le (a := 60) (by omega) (by omega)) (h m' (zsm_refl m') (fun i x y => by omega) (fun i _ => rfl)))
  | j + 1, k, m', hk, h => by
    refine sg_Tape_become_105_12 (zCall_m _) _ _ _ m' (iq (nI_ge (b := 60) (by omega) (by decide)) ⟨vp_in_nI (by omega) (by decide), ?_⟩)
    rw [nI_clamp (by omega), nI_1]
    refine y_bec_105 d a b j (k + 1) _ (by omega) fun m2 hs h1 h2 => h m2 (zsm_tr (zsm_sL (P := fun q => q = 106) (zsm_refl m') (show (106 : Nat) = 106 from rfl) _) hs) (fun i x y => ?_) (fun i x => ?_)
    · by_cases e : i = k
      · rw [h2 i (by omega), gLs, if_pos ⟨rfl, e⟩]
      · exact h1 i (by omega) y
    · rw [h2 i (by omega), gLs, if_neg (fun z => by omega)]
theorem y_bec_107 (d : Nat) {Q : zQ} (a b : Int32) : ∀ j k m', k + j = 60 → (∀ m'', zsm (fun q => q = 108) m' m'' → (∀ i, k ≤ i → i < 60 → gL m'' 108 i = 0) → (∀ i, i < k → gL m'' 108 i = gL m' 108 i) → Q (some (.int 1)) m'') → zRun (zCall d) 7 (some .int) zc_Tape_become Q 12 [.ref 107, .int a, .int b, .int (nI k)] [] m'
  | 0, k, m', hk, h => sg_Tape_become_107_12 (zCall_m _) _ _ _ m' (ip (nI_le (a := 60) (by omega) (by omega)) (h m' (zsm_refl m') (fun i x y => by omega) (fun i _ => rfl)))
  | j + 1, k, m', hk, h => by
    refine sg_Tape_become_107_12 (zCall_m _) _ _ _ m' (iq (nI_ge (b := 60) (by omega) (by decide)) ⟨vp_in_nI (by omega) (by decide), ?_⟩)
    rw [nI_clamp (by omega), nI_1]
    refine y_bec_107 d a b j (k + 1) _ (by omega) fun m2 hs h1 h2 => h m2 (zsm_tr (zsm_sL (P := fun q => q = 108) (zsm_refl m') (show (108 : Nat) = 108 from rfl) _) hs) (fun i x y => ?_) (fun i x => ?_)
    · by_cases e : i = k
      · rw [h2 i (by omega), gLs, if_pos ⟨rfl, e⟩]
      · exact h1 i (by omega) y
    · rw [h2 i (by omega), gLs, if_neg (fun z => by omega)]
theorem y_bec_109 (d : Nat) {Q : zQ} (a b : Int32) : ∀ j k m', k + j = 60 → (∀ m'', zsm (fun q => q = 110) m' m'' → (∀ i, k ≤ i → i < 60 → gL m'' 110 i = 0) → (∀ i, i < k → gL m'' 110 i = gL m' 110 i) → Q (some (.int 1)) m'') → zRun (zCall d) 7 (some .int) zc_Tape_become Q 12 [.ref 109, .int a, .int b, .int (nI k)] [] m'
  | 0, k, m', hk, h => sg_Tape_become_109_12 (zCall_m _) _ _ _ m' (ip (nI_le (a := 60) (by omega) (by omega)) (h m' (zsm_refl m') (fun i x y => by omega) (fun i _ => rfl)))
  | j + 1, k, m', hk, h => by
    refine sg_Tape_become_109_12 (zCall_m _) _ _ _ m' (iq (nI_ge (b := 60) (by omega) (by decide)) ⟨vp_in_nI (by omega) (by decide), ?_⟩)
    rw [nI_clamp (by omega), nI_1]
    refine y_bec_109 d a b j (k + 1) _ (by omega) fun m2 hs h1 h2 => h m2 (zsm_tr (zsm_sL (P := fun q => q = 110) (zsm_refl m') (show (110 : Nat) = 110 from rfl) _) hs) (fun i x y => ?_) (fun i x => ?_)
    · by_cases e : i = k
      · rw [h2 i (by omega), gLs, if_pos ⟨rfl, e⟩]
      · exact h1 i (by omega) y
    · rw [h2 i (by omega), gLs, if_neg (fun z => by omega)]
theorem y_bec_111 (d : Nat) {Q : zQ} (a b : Int32) : ∀ j k m', k + j = 60 → (∀ m'', zsm (fun q => q = 112) m' m'' → (∀ i, k ≤ i → i < 60 → gL m'' 112 i = 0) → (∀ i, i < k → gL m'' 112 i = gL m' 112 i) → Q (some (.int 1)) m'') → zRun (zCall d) 7 (some .int) zc_Tape_become Q 12 [.ref 111, .int a, .int b, .int (nI k)] [] m'
  | 0, k, m', hk, h => sg_Tape_become_111_12 (zCall_m _) _ _ _ m' (ip (nI_le (a := 60) (by omega) (by omega)) (h m' (zsm_refl m') (fun i x y => by omega) (fun i _ => rfl)))
  | j + 1, k, m', hk, h => by
    refine sg_Tape_become_111_12 (zCall_m _) _ _ _ m' (iq (nI_ge (b := 60) (by omega) (by decide)) ⟨vp_in_nI (by omega) (by decide), ?_⟩)
    rw [nI_clamp (by omega), nI_1]
    refine y_bec_111 d a b j (k + 1) _ (by omega) fun m2 hs h1 h2 => h m2 (zsm_tr (zsm_sL (P := fun q => q = 112) (zsm_refl m') (show (112 : Nat) = 112 from rfl) _) hs) (fun i x y => ?_) (fun i x => ?_)
    · by_cases e : i = k
      · rw [h2 i (by omega), gLs, if_pos ⟨rfl, e⟩]
      · exact h1 i (by omega) y
    · rw [h2 i (by omega), gLs, if_neg (fun z => by omega)]
theorem y_bec (d : Nat) {Q : zQ} {m : zM} {t : Nat} (ht : t < 6) (a b : Int32) (h : ∀ m2, zsm (fun q => q = 102 + 2 * t) (sI (sI m (101 + 2 * t) 0 a) (101 + 2 * t) 1 b) m2 → (∀ i, i < 60 → gL m2 (102 + 2 * t) i = 0) → Q (some (.int 1)) m2) : zCall (d + 1) m_Tape_become [.ref (101 + 2 * t), .int a, .int b] m Q := by
  match t, ht, h with
  | 0, _, h => exact en_Tape_become_101 d a b m (sg_Tape_become_101_0 (zCall_m _) a b m (y_bec_101 d a b 60 0 _ rfl fun m2 hs h1 _ => h m2 hs (fun i hi => h1 i (Nat.zero_le _) hi)))
  | 1, _, h => exact en_Tape_become_103 d a b m (sg_Tape_become_103_0 (zCall_m _) a b m (y_bec_103 d a b 60 0 _ rfl fun m2 hs h1 _ => h m2 hs (fun i hi => h1 i (Nat.zero_le _) hi)))
  | 2, _, h => exact en_Tape_become_105 d a b m (sg_Tape_become_105_0 (zCall_m _) a b m (y_bec_105 d a b 60 0 _ rfl fun m2 hs h1 _ => h m2 hs (fun i hi => h1 i (Nat.zero_le _) hi)))
  | 3, _, h => exact en_Tape_become_107 d a b m (sg_Tape_become_107_0 (zCall_m _) a b m (y_bec_107 d a b 60 0 _ rfl fun m2 hs h1 _ => h m2 hs (fun i hi => h1 i (Nat.zero_le _) hi)))
  | 4, _, h => exact en_Tape_become_109 d a b m (sg_Tape_become_109_0 (zCall_m _) a b m (y_bec_109 d a b 60 0 _ rfl fun m2 hs h1 _ => h m2 hs (fun i hi => h1 i (Nat.zero_le _) hi)))
  | 5, _, h => exact en_Tape_become_111 d a b m (sg_Tape_become_111_0 (zCall_m _) a b m (y_bec_111 d a b 60 0 _ rfl fun m2 hs h1 _ => h m2 hs (fun i hi => h1 i (Nat.zero_le _) hi)))
theorem y_mbec (d : Nat) {Q : zQ} {t : Nat} (ht : t < 6) (b c : Int32) : ∀ j k m', k + j = 60 → (∀ m'', zsm (fun q => q = 159) m' m'' → (∀ i, 60 * t + k ≤ i → i < 60 * t + 60 → gL m'' 159 i = 0) → (∀ i, (i < 60 * t + k ∨ 60 * t + 60 ≤ i) → gL m'' 159 i = gL m' 159 i) → Q (some (.int 1)) m'') → zRun (zCall d) 9 (some .int) zc_Mod_tape Q 69 [.ref 113, .int (nI t), .int b, .int c, .int (nI k)] [] m'
  | 0, k, m', hk, h => sg_Mod_tape_69 (zCall_m _) _ _ _ _ m' (ip (nI_le (a := 60) (by omega) (by omega)) (h m' (zsm_refl m') (fun i x y => by omega) (fun i _ => rfl)))
  | j + 1, k, m', hk, h => by
    refine sg_Mod_tape_69 (zCall_m _) _ _ _ _ m' (iq (nI_ge (b := 60) (by omega) (by decide)) ?_)
    rw [show (60 : Int32) = nI 60 from rfl, pk_mul, nI_add, nI_clamp (by omega), nI_1]
    refine ⟨vp_in_nI (by omega) (by decide), y_mbec d ht b c j (k + 1) _ (by omega) fun m2 hs h1 h2 => h m2 (zsm_tr (zsm_sL (P := fun q => q = 159) (zsm_refl m') (show (159 : Nat) = 159 from rfl) _) hs) (fun i x y => ?_) (fun i x => ?_)⟩
    · by_cases e : i = 60 * t + k
      · rw [h2 i (by omega), gLs, if_pos ⟨rfl, e⟩]
      · exact h1 i (by omega) y
    · rw [h2 i (by omega), gLs, if_neg (fun z => by omega)]
theorem tape_both {m : zM} {Q : zM → Prop} {V : zV} (hH : rHedge m V) (hr : Rest m V) (i : rTap m) (hQ : ∀ m', Rel m' → Q m') {t : Nat} (ht : t < 6) {s : Int32} {len : Nat} (hs : s = -1 ∨ s = 0 ∨ s = 1 ∨ s = 2 ∨ s = 3 ∨ s = 4) (hl : len ≤ 60) (h1 : s = -1 → len = 0) (b c : Int32) {Z : zQ}
    (hM : ∀ m1, (∀ q, q < 101 ∨ 112 < q → ∀ k, gI m1 q k = gI m q k) → zRun (zCall 49) 9 (some .int) zc_Mod_tape (fun o2 m2 => ∃ y, o2 = some (.int y) ∧ ((1 : Int32) = y ∧ Q m2)) 69 [.ref 113, .int (nI t), .int b, .int c, .int 0] [] (sI (sI m1 157 t s) 158 t (nI len)) → Z (some (.int 1)) m1) : zCall 49 m_Tape_become [.ref (101 + 2 * t), .int s, .int (nI len)] m Z := by
  refine y_bec 48 ht s (nI len) fun m1 z1 z2 => hM m1 (fun q hq k => ?_) ?_
  · rw [(z1 q (by omega)).1, gIs, if_neg (fun z => by omega), gIs, if_neg (fun z => by omega)]
  · refine y_mbec 49 ht b c 60 0 _ rfl fun m2 w1 w2 w3 => ⟨_, rfl, rfl, hQ _ ?_⟩
    have F : zfr tapeP tapeK m m2 := zfr_tr (zfr_tr (zfr_sI (zfr_sI (zfr_refl m) (by unfold tapeP; omega) (by omega) _) (by unfold tapeP; omega) (by omega) _) (zfr_of z1 (fun q z => by unfold tapeP; omega) (by omega))) (zfr_tr (zfr_sI (zfr_sI (zfr_refl m1) (by unfold tapeP; omega) (by omega) _) (by unfold tapeP; omega) (by omega) _) (zfr_of w1 (fun q z => by unfold tapeP; omega) (by omega)))
    refine Rel_tape hH hr F fun t' ht' => ?_
    have wI := fun q (hq : q ≠ 159) => (w1 q hq).1
    have zI := fun q (hq : q ≠ 102 + 2 * t) => (z1 q hq).1
    by_cases e : t' = t
    · subst e
      refine ⟨s, len, ?_, ?_, hs, ?_, ?_, hl, h1, fun j hj => ?_⟩
      · rw [wI _ (by omega), gIs, if_neg (fun z => by omega), gIs, if_neg (fun z => by omega), zI _ (by omega), gIs, if_neg (fun z => by omega), gIs, if_pos ⟨rfl, rfl⟩]
      · rw [wI _ (by omega), gIs, if_neg (fun z => by omega), gIs, if_pos ⟨rfl, rfl⟩]
      · rw [wI _ (by omega), gIs, if_neg (fun z => by omega), gIs, if_neg (fun z => by omega), zI _ (by omega), gIs, if_pos ⟨rfl, rfl⟩]
      · rw [wI _ (by omega), gIs, if_pos ⟨rfl, rfl⟩]
      · rw [w2 _ (by omega) (by omega), (w1 _ (by omega)).2.1, gLi, gLi, z2 j hj]
        exact ⟨rfl, fun _ => Or.inl rfl⟩
    · refine rTape_o (i t' ht') (fun k => ?_) ?_ ?_ (fun j hj => ?_) (fun j hj => ?_)
      · rw [wI _ (by omega), gIs, if_neg (fun z => by omega), gIs, if_neg (fun z => by omega), zI _ (by omega), gIs, if_neg (fun z => by omega), gIs, if_neg (fun z => by omega)]
      · rw [wI _ (by omega), gIs, if_neg (fun z => by omega), gIs, if_neg (fun z => e z.2), zI _ (by omega), gIs, if_neg (fun z => by omega), gIs, if_neg (fun z => by omega)]
      · rw [wI _ (by omega), gIs, if_neg (fun z => e z.2), gIs, if_neg (fun z => by omega), zI _ (by omega), gIs, if_neg (fun z => by omega), gIs, if_neg (fun z => by omega)]
      · rw [(w1 _ (by omega)).2.1, gLi, gLi, (z1 _ (by omega)).2.1, gLi, gLi]
      · rw [w3 _ (by omega), gLi, gLi, (z1 _ (by omega)).2.1, gLi, gLi]
theorem ok_tape {m : zM} (hR : Rel m) (a b c : Int32) : okI m_Box_tape m_Mod_tape [.int a, .int b, .int c] m := by
  intro Q hQ
  have h0 := hQ m hR
  obtain ⟨V, hH, hr⟩ := Rel_o hR
  have hr' := hr
  obtain ⟨S, R, B, gc, gs, n, tx, b1, b2, b3, cc, d, e, f, g, i, j, k⟩ := hr'
  refine en_Box_tape 49 _ _ _ m (sg_Box_tape_0 (zCall_m _) _ _ _ m (y_Box_isTape _ a ⟨_, rfl, zb_d (fun ha => ?_) (fun ha => ?_)⟩))
  · refine ⟨_, rfl, en_Mod_tape 49 _ _ _ m (sg_Mod_tape_0 (zCall_m _) _ _ _ m (y_Mod_isTape _ a ⟨_, rfl, ?_⟩))⟩
    rw [ha]; exact iq (fun z => z rfl) ⟨_, rfl, rfl, h0⟩
  · have ha' := ha
    obtain ⟨a1, a2⟩ := zr_k ha
    generalize a.toNatClampNeg = t at a1 a2
    subst a2
    have hin : vp_in (nI t) 6 := vp_in_nI a1 (by decide)
    have bin : ∀ {Q' : zQ} {m' : zM}, (if b < -1 ∨ (4 : Int32) < b then Q' (some (.int 0)) m' else Q' (some (.int 1)) m') → zCall 49 m_Mod_in [.ref 113, .int b, .int (-1), .int 4] m' Q' := fun {Q' m'} h => by
      refine en_Mod_in 48 _ _ _ _ (sg_Mod_in_0 (zCall_m _) _ _ _ _ ?_)
      by_cases z1 : b < -1
      · rw [if_pos (Or.inl z1)] at h; exact ip z1 ⟨rfl, h⟩
      · refine iq z1 ?_
        by_cases z2 : (4 : Int32) < b
        · rw [if_pos (Or.inr z2)] at h; exact ip z2 ⟨rfl, h⟩
        · rw [if_neg (fun z => z.elim z1 z2)] at h; exact iq z2 ⟨rfl, h⟩
    -- the reference up to where it writes
    have ME : ∀ {m' : zM} {Q' : zQ}, (b < -1 ∨ (4 : Int32) < b → Q' (some (.int (-2))) m') → (¬ b < -1 → ¬ (4 : Int32) < b → b < 0 → zRun (zCall 49) 9 (some .int) zc_Mod_tape Q' 69 [.ref 113, .int (nI t), .int b, .int c, .int 0] [] (sI (sI m' 157 t b) 158 t 0)) → (¬ b < -1 → ¬ (4 : Int32) < b → ¬ b < 0 → ¬ c ≤ 60 → Q' (some (.int (-2))) m') → (¬ b < -1 → ¬ (4 : Int32) < b → ¬ b < 0 → c ≤ 60 → ¬ (0 : Int32) ≤ c → Q' (some (.int (-14))) m') → (¬ b < -1 → ¬ (4 : Int32) < b → ¬ b < 0 → c ≤ 60 → (0 : Int32) ≤ c → zRun (zCall 49) 9 (some .int) zc_Mod_tape Q' 69 [.ref 113, .int (nI t), .int b, .int c, .int 0] [] (sI (sI m' 157 t b) 158 t c)) → zCall 50 m_Mod_tape [.ref 113, .int (nI t), .int b, .int c] m' Q' := fun {m' Q'} k1 k2 k3 k4 k5 => by
      refine en_Mod_tape 49 _ _ _ _ (sg_Mod_tape_0 (zCall_m _) _ _ _ _ (y_Mod_isTape _ _ ⟨_, rfl, ?_⟩))
      rw [ha']
      refine ip (by decide) (bin ?_)
      by_cases z : b < -1 ∨ (4 : Int32) < b
      · rw [if_pos z]; exact ⟨_, rfl, ip rfl (k1 z)⟩
      · rw [if_neg z]
        refine ⟨_, rfl, iq (by decide) ?_⟩
        rw [nI_clamp (by omega)]
        have z1 := fun y => z (Or.inl y)
        have z2 := fun y => z (Or.inr y)
        by_cases w : b < 0
        · have w0 : ¬ (0 : Int32) ≤ b := fun y => by rw [Int32.le_iff_toInt_le] at y; rw [Int32.lt_iff_toInt_lt] at w; omega
          exact ip w (ip w ⟨hin, iq w0 ⟨hin, k2 z1 z2 w⟩⟩)
        · have w0 : (0 : Int32) ≤ b := by rw [Int32.le_iff_toInt_le]; rw [Int32.lt_iff_toInt_lt] at w; omega
          refine iq w ?_
          by_cases v : c ≤ 60
          · refine ip v (iq w ?_)
            by_cases v0 : (0 : Int32) ≤ c
            · exact ip v0 ⟨hin, ip w0 ⟨hin, k5 z1 z2 w v v0⟩⟩
            · exact iq v0 (k4 z1 z2 w v v0)
          · exact iq v (k3 z1 z2 w v)
    have hb0 : ¬ b = -1 → ¬ b < -1 → b < 0 → False := fun y1 y2 y3 => by
      apply y1
      apply Int32.toInt_inj.mp
      rw [Int32.lt_iff_toInt_lt] at y2 y3
      have : (-1 : Int32).toInt = -1 := by decide
      have : (0 : Int32).toInt = 0 := by decide
      omega
    by_cases e : b = -1
    · subst e
      refine iq (fun z => z rfl) ⟨hin, ?_⟩
      try rw [nI_clamp (n := t) (by omega)]
      rw [tp_bec a1, Bool.true_and, Bool.true_and, cond_true]
      refine tape_both hH hr i hQ a1 (s := -1) (len := 0) (Or.inl rfl) (by omega) (fun _ => rfl) (-1) c fun m1 g1 g2 => ⟨_, rfl, _, rfl, ME (fun y => absurd y (by decide)) (fun _ _ _ => g2) (fun _ _ y => absurd y (by decide)) (fun _ _ y => absurd y (by decide)) (fun _ _ y => absurd y (by decide))⟩
    · refine ip e ?_
      by_cases w : b < 0
      · refine ip w ⟨_, rfl, ME (fun _ => ⟨_, rfl, rfl, h0⟩) (fun y1 _ _ => (hb0 e y1 w).elim) (fun _ _ y => absurd w y) (fun _ _ y => absurd w y) (fun _ _ y => absurd w y)⟩
      · refine iq w ?_
        by_cases v4 : (4 : Int32) < b
        · exact ip v4 ⟨_, rfl, ME (fun _ => ⟨_, rfl, rfl, h0⟩) (fun _ y => absurd v4 y) (fun _ y => absurd v4 y) (fun _ y => absurd v4 y) (fun _ y => absurd v4 y)⟩
        · refine iq v4 ?_
          have hn : ¬ b < -1 := fun y => by
            rw [Int32.lt_iff_toInt_lt] at y w
            have : (-1 : Int32).toInt = -1 := by decide
            have : (0 : Int32).toInt = 0 := by decide
            omega
          by_cases v : c ≤ 60
          · refine ip v ?_
            by_cases v0 : (0 : Int32) ≤ c
            · refine ip v0 ⟨hin, ?_⟩
              have hc0 : ¬ c < 0 := fun y => by rw [Int32.le_iff_toInt_le] at v0; rw [Int32.lt_iff_toInt_lt] at y; omega
              obtain ⟨len, l1, rfl⟩ := nI_of2 (M := 60) (n := 60) (by decide) hc0 v
              obtain ⟨s, s1, rfl⟩ := nI_of2 (M := 4) (n := 4) (x := b) (by decide) w (by rw [Int32.le_iff_toInt_le]; rw [Int32.lt_iff_toInt_lt] at v4; omega)
              try rw [nI_clamp (n := t) (by omega)]
              rw [tp_bec a1, Bool.true_and, Bool.true_and, cond_true]
              have hs : nI s = -1 ∨ nI s = 0 ∨ nI s = 1 ∨ nI s = 2 ∨ nI s = 3 ∨ nI s = 4 := by
                rcases (show s = 0 ∨ s = 1 ∨ s = 2 ∨ s = 3 ∨ s = 4 by omega) with rfl | rfl | rfl | rfl | rfl <;> decide
              exact tape_both hH hr i hQ a1 hs l1 (fun y => absurd y (nI_nn (by omega) (by decide))) (nI s) (nI len) fun m1 g1 g2 => ⟨_, rfl, _, rfl, ME (fun y => absurd y (fun y => y.elim hn v4)) (fun _ _ y => absurd y w) (fun _ _ _ y => absurd v y) (fun _ _ _ _ y => absurd v0 y) (fun _ _ _ _ _ => g2)⟩
            · exact iq v0 ⟨_, rfl, ME (fun y => absurd y (fun y => y.elim hn v4)) (fun _ _ y => absurd y w) (fun _ _ _ y => absurd v y) (fun _ _ _ _ _ => ⟨_, rfl, rfl, h0⟩) (fun _ _ _ _ y => absurd y v0)⟩
          · exact iq v ⟨_, rfl, ME (fun y => absurd y (fun y => y.elim hn v4)) (fun _ _ y => absurd y w) (fun _ _ _ _ => ⟨_, rfl, rfl, h0⟩) (fun _ _ _ y => absurd y v) (fun _ _ _ y => absurd y v)⟩
