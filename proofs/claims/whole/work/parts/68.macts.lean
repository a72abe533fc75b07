/-! act: the reference, and both -/
def aM (m : zM) (L : List Nat) : Prop := gI m 113 64 = nI L.length ∧ ∀ j x, L[j]? = some x → j < 20 → gI m 156 j = nI x
def fB (m m' : zM) : Prop := zsm (fun q => q = 113 ∨ q = 156) m m' ∧ ∀ k, k ≠ 64 → gI m' 113 k = gI m 113 k
theorem fB_refl (m : zM) : fB m m := ⟨zsm_refl m, fun _ _ => rfl⟩
theorem fB_tr {m m1 m2 : zM} (h : fB m m1) (h2 : fB m1 m2) : fB m m2 := ⟨zsm_tr h.1 h2.1, fun k hk => (h2.2 k hk).trans (h.2 k hk)⟩
def aSet (m : zM) (i K : Nat) (W : Int32) : Prop := i < 8 ∧ K < 7 ∧ gI m 114 i = nI K ∧ gI m 115 i = W
theorem aSet_f {m m' : zM} {i K : Nat} {W : Int32} (h : aSet m i K W) (hf : fB m m') : aSet m' i K W := ⟨h.1, h.2.1, ((hf.1 114 (by omega)).1 i).trans h.2.2.1, ((hf.1 115 (by omega)).1 i).trans h.2.2.2⟩
theorem y_mbody (d : Nat) {Q : zQ} {m : zM} {L : List Nat} (h : aM m L) (hl : L.length < 2 ^ 30) (b : Nat) (K : ∀ m', fB m m' → aM m' (L ++ [b]) → Q none m') : zCall (d + 1) m_Mod_body [.ref 113, .int (nI b)] m Q := by
  refine en_Mod_body d _ m (sg_Mod_body_0 (zCall_m _) _ m ?_)
  simp only [gIs, Nat.reduceEqDiff, false_and, if_false, h.1]
  rw [nI_1]
  by_cases l : 20 ≤ L.length
  · refine ip (nI_le (a := 20) l (by omega)) (K _ ⟨zsm_sI (zsm_refl m) (Or.inl rfl) _, fun k hk => by rw [gIs, if_neg (fun z => hk z.2)]⟩ ⟨?_, fun j x hj hj2 => ?_⟩)
    · rw [gIs, if_pos ⟨rfl, rfl⟩, len_snoc]
    · rw [gIs, if_neg (fun z => by omega)]
      rcases get_snoc hj with ⟨_, z⟩ | ⟨z, _⟩
      · exact h.2 j x z hj2
      · omega
  · refine iq (nI_ge (b := 20) (by omega) (by decide)) ⟨vp_in_nI (by omega) (by decide), ?_⟩
    rw [nI_clamp (by omega)]
    refine K _ ⟨zsm_sI (zsm_sI (zsm_refl m) (Or.inr rfl) _) (Or.inl rfl) _, fun k hk => by rw [gIs, if_neg (fun z => hk z.2), gIs, if_neg (fun z => by omega)]⟩ ⟨?_, fun j x hj hj2 => ?_⟩
    · rw [gIs, if_pos ⟨rfl, rfl⟩, len_snoc]
    · rw [gIs, if_neg (fun z => by omega), gIs]
      rcases get_snoc hj with ⟨y, z⟩ | ⟨y, z⟩
      · rw [if_neg (fun w => by omega)]
        exact h.2 j x z hj2
      · rw [if_pos ⟨rfl, y⟩, z]
def mH (K : Nat) (I W x : Int32) : List Nat × Int32 := if K = 2 then ([30, 10], x * 3 + I) else if K = 4 then ([50, 10], -(x + I)) else if K = 5 then ([30, 10], x * 3 + I) else if K = 6 then ([71, 10], (x + I) ^^^ W) else ([10], x + I)
def mPS (K : Nat) (I W x : Int32) : List Nat × Int32 := (11 :: (mH K I W x).1, (mH K I W x).2 - W)
def mPr (K : Nat) (I W x : Int32) : List Nat × Int32 := (20 :: (mPS K I W x).1, (mPS K I W x).2 ^^^ 6)
def mSy (K : Nat) (I W x : Int32) : List Nat × Int32 := if K = 1 then mPr K I W x else if K = 4 then (51 :: (mPr K I W (x + 1)).1, (mPr K I W (x + 1)).2) else if K = 6 then (70 :: ((mPS K I W x).1 ++ [10]), (mPS K I W x).2 + (2 + I)) else mPS K I W x
def mPT (K : Nat) (I W x : Int32) : List Nat × Int32 := (12 :: (mSy K I W x).1, (mSy K I W x).2 * 2)
def mTl (K : Nat) (I W x : Int32) : List Nat × Int32 := if K = 3 ∨ K = 6 then (40 :: ((mPT K I W x).1 ++ (mSy K I W 1).1), (mPT K I W x).2 + (mSy K I W 1).2) else if K = 5 then (60 :: (mPT K I W (x - I)).1, (mPT K I W (x - I)).2) else mPT K I W x
section
variable {i K : Nat} {W : Int32}
theorem y_pH (d : Nat) {Q : zQ} {m : zM} {L : List Nat} (hM : aM m L) (hl : L.length + 1 ≤ 1000) {i : Nat} (x : Int32) (h : ∀ m', fB m m' → aM m' (L ++ [10]) → Q (some (.int (x + nI i))) m') : zCall (d + 2) m_Mod_plantHears [.ref 113, .int (nI i), .int x] m Q :=
  en_Mod_plantHears (d + 1) _ _ m (sg_Mod_plantHears_0 (zCall_m _) _ _ m (y_mbody d hM (by omega) 10 fun m1 f1 M1 => ⟨rfl, h m1 f1 M1⟩))
theorem y_mH (d : Nat) {Q : zQ} {m : zM} {L : List Nat} (hS : aSet m i K W) (hM : aM m L) (x : Int32) (hl : L.length + (mH K (nI i) W x).1.length ≤ 1000) (h : ∀ m', fB m m' → aM m' (L ++ (mH K (nI i) W x).1) → Q (some (.int (mH K (nI i) W x).2)) m') : zCall (d + 3) m_Mod_hearsAct [.ref 113, .int (nI i), .int x] m Q := by
  have hS' := hS
  obtain ⟨s1, s2, s3, s4⟩ := hS
  have hin : vp_in (nI i) 8 := vp_in_nI s1 (by decide)
  refine en_Mod_hearsAct (d + 2) _ _ m (sg_Mod_hearsAct_0 (zCall_m _) _ _ m ⟨hin, ?_⟩)
  rw [nI_clamp (by omega), s3]
  have two : ∀ {b : Nat} {x' : Int32} {Q' : zQ}, L.length + 2 ≤ 1000 → (∀ m', fB m m' → aM m' (L ++ [b, 10]) → Q' (some (.int (x' + nI i))) m') → zCall (d + 2) m_Mod_body [.ref 113, .int (nI b)] m (fun o1 m2 => o1 = none ∧ zCall (d + 2) m_Mod_plantHears [.ref 113, .int (nI i), .int x'] m2 Q') := fun {b x' Q'} hl2 h2 => by
    refine y_mbody (d + 1) hM (by omega) b fun m1 f1 M1 => ⟨rfl, y_pH d M1 (by rw [len_snoc]; omega) _ fun m2 f2 M2 => h2 m2 (fB_tr f1 f2) ?_⟩
    rw [List.append_assoc] at M2
    exact M2
  unfold mH at h hl
  by_cases c2 : K = 2
  · simp only [if_pos c2] at h hl
    exact ip (by rw [c2]; rfl) (two (b := 30) hl fun m2 f2 M2 => ⟨_, rfl, h m2 f2 M2⟩)
  · simp only [if_neg c2] at h hl
    refine iq (nI_ne (b := 2) (by omega) (by decide) c2) ?_
    by_cases c3 : K = 3
    · simp only [if_neg (show ¬ K = 4 by omega), if_neg (show ¬ K = 5 by omega), if_neg (show ¬ K = 6 by omega)] at h hl
      exact ip (by rw [c3]; rfl) (y_pH d hM hl _ fun m2 f2 M2 => ⟨_, rfl, h m2 f2 M2⟩)
    · refine iq (nI_ne (b := 3) (by omega) (by decide) c3) ?_
      by_cases c4 : K = 4
      · simp only [if_pos c4] at h hl
        exact ip (by rw [c4]; rfl) (two (b := 50) hl fun m2 f2 M2 => ⟨_, rfl, h m2 f2 M2⟩)
      · simp only [if_neg c4] at h hl
        refine iq (nI_ne (b := 4) (by omega) (by decide) c4) ?_
        by_cases c5 : K = 5
        · simp only [if_pos c5] at h hl
          exact ip (by rw [c5]; rfl) (two (b := 30) hl fun m2 f2 M2 => ⟨_, rfl, h m2 f2 M2⟩)
        · simp only [if_neg c5] at h hl
          refine iq (nI_ne (b := 5) (by omega) (by decide) c5) ?_
          by_cases c6 : K = 6
          · simp only [if_pos c6] at h hl
            refine ip (by rw [c6]; rfl) (two (b := 71) hl fun m2 f2 M2 => ⟨_, rfl, hin, ?_⟩)
            rw [(aSet_f hS' f2).2.2.2]
            exact h m2 f2 M2
          · simp only [if_neg c6] at h hl
            exact iq (nI_ne (b := 6) (by omega) (by decide) c6) (y_pH d hM hl _ fun m2 f2 M2 => ⟨_, rfl, h m2 f2 M2⟩)
theorem y_mPS (d : Nat) {Q : zQ} {m : zM} {L : List Nat} (hS : aSet m i K W) (hM : aM m L) (x : Int32) (hl : L.length + (mPS K (nI i) W x).1.length ≤ 1000) (h : ∀ m', fB m m' → aM m' (L ++ (mPS K (nI i) W x).1) → Q (some (.int (mPS K (nI i) W x).2)) m') : zCall (d + 4) m_Mod_plantSays [.ref 113, .int (nI i), .int x] m Q := by
  have hl' : L.length + ((mH K (nI i) W x).1.length + 1) ≤ 1000 := hl
  refine en_Mod_plantSays (d + 3) _ _ m (sg_Mod_plantSays_0 (zCall_m _) _ _ m (y_mbody (d + 2) hM (by omega) 11 fun m1 f1 M1 => ⟨rfl, y_mH d (aSet_f hS f1) M1 x (by rw [len_snoc]; omega) fun m2 f2 M2 => ⟨_, rfl, vp_in_nI hS.1 (by decide), ?_⟩⟩))
  rw [nI_clamp (by have := hS.1; omega), (aSet_f hS (fB_tr f1 f2)).2.2.2]
  refine h m2 (fB_tr f1 f2) ?_
  rw [List.append_assoc] at M2
  exact M2
theorem y_mPr (d : Nat) {Q : zQ} {m : zM} {L : List Nat} (hS : aSet m i K W) (hM : aM m L) (x : Int32) (hl : L.length + (mPr K (nI i) W x).1.length ≤ 1000) (h : ∀ m', fB m m' → aM m' (L ++ (mPr K (nI i) W x).1) → Q (some (.int (mPr K (nI i) W x).2)) m') : zCall (d + 5) m_Mod_privetSays [.ref 113, .int (nI i), .int x] m Q := by
  have hl' : L.length + ((mPS K (nI i) W x).1.length + 1) ≤ 1000 := hl
  refine en_Mod_privetSays (d + 4) _ _ m (sg_Mod_privetSays_0 (zCall_m _) _ _ m (y_mbody (d + 3) hM (by omega) 20 fun m1 f1 M1 => ⟨rfl, y_mPS d (aSet_f hS f1) M1 x (by rw [len_snoc]; omega) fun m2 f2 M2 => ⟨_, rfl, h m2 (fB_tr f1 f2) ?_⟩⟩))
  rw [List.append_assoc] at M2
  exact M2
theorem y_mSy (d : Nat) {Q : zQ} {m : zM} {L : List Nat} (hS : aSet m i K W) (hM : aM m L) (x : Int32) (hl : L.length + (mSy K (nI i) W x).1.length ≤ 1000) (h : ∀ m', fB m m' → aM m' (L ++ (mSy K (nI i) W x).1) → Q (some (.int (mSy K (nI i) W x).2)) m') : zCall (d + 6) m_Mod_saysAct [.ref 113, .int (nI i), .int x] m Q := by
  have hk7 := hS.2.1
  refine en_Mod_saysAct (d + 5) _ _ m (sg_Mod_saysAct_0 (zCall_m _) _ _ m ⟨vp_in_nI hS.1 (by decide), ?_⟩)
  rw [nI_clamp (by have := hS.1; omega), hS.2.2.1]
  unfold mSy at h hl
  by_cases c1 : K = 1
  · simp only [if_pos c1] at h hl
    exact ip (by rw [c1]; rfl) (y_mPr d hS hM x hl fun m2 f2 M2 => ⟨_, rfl, h m2 f2 M2⟩)
  · simp only [if_neg c1] at h hl
    refine iq (nI_ne (b := 1) (by omega) (by decide) c1) ?_
    by_cases c4 : K = 4
    · simp only [if_pos c4] at h hl
      have hl' : L.length + ((mPr K (nI i) W (x + 1)).1.length + 1) ≤ 1000 := hl
      refine ip (by rw [c4]; rfl) (y_mbody (d + 4) hM (by omega) 51 fun m1 f1 M1 => ⟨rfl, y_mPr d (aSet_f hS f1) M1 _ (by rw [len_snoc]; omega) fun m2 f2 M2 => ⟨_, rfl, h m2 (fB_tr f1 f2) ?_⟩⟩)
      rw [List.append_assoc] at M2
      exact M2
    · simp only [if_neg c4] at h hl
      refine iq (nI_ne (b := 4) (by omega) (by decide) c4) ?_
      by_cases c6 : K = 6
      · simp only [if_pos c6] at h hl
        have hl' : L.length + (((mPS K (nI i) W x).1 ++ [10]).length + 1) ≤ 1000 := hl
        rw [len_snoc] at hl'
        refine ip (by rw [c6]; rfl) (y_mbody (d + 4) hM (by omega) 70 fun m1 f1 M1 => ⟨rfl, y_mPS (d + 1) (aSet_f hS f1) M1 x (by rw [len_snoc]; omega) fun m2 f2 M2 => ⟨_, rfl, y_pH (d + 3) M2 (by rw [List.length_append, len_snoc]; omega) _ fun m3 f3 M3 => ⟨_, rfl, h m3 (fB_tr f1 (fB_tr f2 f3)) ?_⟩⟩⟩)
        rw [List.append_assoc, List.append_assoc] at M3
        exact M3
      · simp only [if_neg c6] at h hl
        exact iq (nI_ne (b := 6) (by omega) (by decide) c6) (y_mPS (d + 1) hS hM x hl fun m2 f2 M2 => ⟨_, rfl, h m2 f2 M2⟩)
theorem y_mPT (d : Nat) {Q : zQ} {m : zM} {L : List Nat} (hS : aSet m i K W) (hM : aM m L) (x : Int32) (hl : L.length + (mPT K (nI i) W x).1.length ≤ 1000) (h : ∀ m', fB m m' → aM m' (L ++ (mPT K (nI i) W x).1) → Q (some (.int (mPT K (nI i) W x).2)) m') : zCall (d + 7) m_Mod_plantTells [.ref 113, .int (nI i), .int x] m Q := by
  have hl' : L.length + ((mSy K (nI i) W x).1.length + 1) ≤ 1000 := hl
  refine en_Mod_plantTells (d + 6) _ _ m (sg_Mod_plantTells_0 (zCall_m _) _ _ m (y_mbody (d + 5) hM (by omega) 12 fun m1 f1 M1 => ⟨rfl, y_mSy d (aSet_f hS f1) M1 x (by rw [len_snoc]; omega) fun m2 f2 M2 => ⟨_, rfl, h m2 (fB_tr f1 f2) ?_⟩⟩))
  rw [List.append_assoc] at M2
  exact M2
theorem y_mTl (d : Nat) {Q : zQ} {m : zM} {L : List Nat} (hS : aSet m i K W) (hM : aM m L) (x : Int32) (hl : L.length + (mTl K (nI i) W x).1.length ≤ 1000) (h : ∀ m', fB m m' → aM m' (L ++ (mTl K (nI i) W x).1) → Q (some (.int (mTl K (nI i) W x).2)) m') : zCall (d + 8) m_Mod_tellsAct [.ref 113, .int (nI i), .int x] m Q := by
  have hk7 := hS.2.1
  refine en_Mod_tellsAct (d + 7) _ _ m (sg_Mod_tellsAct_0 (zCall_m _) _ _ m ⟨vp_in_nI hS.1 (by decide), ?_⟩)
  rw [nI_clamp (by have := hS.1; omega), hS.2.2.1]
  unfold mTl at h hl
  have big : (K = 3 ∨ K = 6) → zCall (d + 7) m_Mod_body [.ref 113, .int 40] m (fun o20 m21 => o20 = none ∧ zCall (d + 7) m_Mod_plantTells [.ref 113, .int (nI i), .int x] m21 (fun o22 m23 => ∃ x24, o22 = some (.int x24) ∧ zCall (d + 7) m_Mod_saysAct [.ref 113, .int (nI i), .int 1] m23 (fun o25 m26 => ∃ x27, o25 = some (.int x27) ∧ Q (some (.int (x24 + x27))) m26))) := fun c => by
    simp only [if_pos c] at h hl
    have hl' : L.length + (((mPT K (nI i) W x).1 ++ (mSy K (nI i) W 1).1).length + 1) ≤ 1000 := hl
    rw [List.length_append] at hl'
    refine y_mbody (d + 6) hM (by omega) 40 fun m1 f1 M1 => ⟨rfl, y_mPT d (aSet_f hS f1) M1 x (by rw [len_snoc]; omega) fun m2 f2 M2 => ⟨_, rfl, y_mSy (d + 1) (aSet_f hS (fB_tr f1 f2)) M2 1 (by rw [List.length_append, len_snoc]; omega) fun m3 f3 M3 => ⟨_, rfl, h m3 (fB_tr f1 (fB_tr f2 f3)) ?_⟩⟩⟩
    rw [List.append_assoc, List.append_assoc] at M3
    exact M3
  by_cases c3 : K = 3
  · exact ip (by rw [c3]; rfl) (big (Or.inl c3))
  · refine iq (nI_ne (b := 3) (by omega) (by decide) c3) ?_
    by_cases c4 : K = 4
    · simp only [if_neg (show ¬ (K = 3 ∨ K = 6) by omega), if_neg (show ¬ K = 5 by omega)] at h hl
      exact ip (by rw [c4]; rfl) (y_mPT d hS hM x hl fun m2 f2 M2 => ⟨_, rfl, h m2 f2 M2⟩)
    · refine iq (nI_ne (b := 4) (by omega) (by decide) c4) ?_
      by_cases c5 : K = 5
      · simp only [if_neg (show ¬ (K = 3 ∨ K = 6) by omega), if_pos c5] at h hl
        have hl' : L.length + ((mPT K (nI i) W (x - nI i)).1.length + 1) ≤ 1000 := hl
        refine ip (by rw [c5]; rfl) (y_mbody (d + 6) hM (by omega) 60 fun m1 f1 M1 => ⟨rfl, y_mPT d (aSet_f hS f1) M1 _ (by rw [len_snoc]; omega) fun m2 f2 M2 => ⟨_, rfl, h m2 (fB_tr f1 f2) ?_⟩⟩)
        rw [List.append_assoc] at M2
        exact M2
      · refine iq (nI_ne (b := 5) (by omega) (by decide) c5) ?_
        by_cases c6 : K = 6
        · exact ip (by rw [c6]; rfl) (big (Or.inr c6))
        · simp only [if_neg (show ¬ (K = 3 ∨ K = 6) by omega), if_neg c5] at h hl
          exact iq (nI_ne (b := 6) (by omega) (by decide) c6) (y_mPT d hS hM x hl fun m2 f2 M2 => ⟨_, rfl, h m2 f2 M2⟩)
end
def mAct (K a : Nat) (I W x : Int32) : List Nat × Int32 := if a = 0 then mH K I W x else if a = 1 then mSy K I W x else mTl K I W x
theorem mAct_l {K a : Nat} {I W x : Int32} (hK : K < 7) (ha : a < 3) : (mAct K a I W x).1.length ≤ 20 := by
  rcases (show K = 0 ∨ K = 1 ∨ K = 2 ∨ K = 3 ∨ K = 4 ∨ K = 5 ∨ K = 6 by omega) with rfl | rfl | rfl | rfl | rfl | rfl | rfl <;>
  rcases (show a = 0 ∨ a = 1 ∨ a = 2 by omega) with rfl | rfl | rfl <;> exact Nat.le_of_ble_eq_true rfl
/-- both run the same bodies, with one answer -/
theorem act_eq {K a : Nat} {I W x : Int32} (hK : K < 7) (ha : a < 3) : rF K I W 8 a K x = some (mAct K a I W x) := by
  rcases (show K = 0 ∨ K = 1 ∨ K = 2 ∨ K = 3 ∨ K = 4 ∨ K = 5 ∨ K = 6 by omega) with rfl | rfl | rfl | rfl | rfl | rfl | rfl <;>
  rcases (show a = 0 ∨ a = 1 ∨ a = 2 by omega) with rfl | rfl | rfl <;> rfl
