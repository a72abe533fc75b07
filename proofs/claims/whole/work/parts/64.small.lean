/-! trace, count, taken, read -/
theorem ok_trace {m : zM} (hR : Rel m) (a : Int32) : okI m_Box_trace m_Mod_trace [.int a] m := by
  intro Q hQ
  have h0 := hQ m hR
  obtain ⟨V, hH, S, R, B, gc, gs, n, tx, b1, b2, b3, c, d, e, f, g, i, ⟨r, r1, r2, r3, r4⟩, k⟩ := Rel_o hR
  have MT : ∀ {Q' : zQ}, (if zr a 20 = true then (if a.toNatClampNeg < r then Q' (some (.int (gI m 156 a.toNatClampNeg))) m else Q' (some (.int (-1))) m) else Q' (some (.int (-1))) m) → zCall 50 m_Mod_trace [.ref 113, .int a] m Q' := fun {Q'} h => by
    refine en_Mod_trace 49 _ m (sg_Mod_trace_0 (zCall_m _) _ m (y_Mod_in _ a _ (n := 20) (by decide) ⟨_, rfl, zb_c (fun ha => ?_) (fun ha => ?_)⟩))
    · rw [ha] at h; exact h
    · rw [ha] at h
      simp only [if_true] at h
      obtain ⟨a1, a2⟩ := zr_k ha
      generalize a.toNatClampNeg = j at a1 a2 h
      subst a2
      rw [r3]
      try rw [nI_clamp (by omega)]
      by_cases l : j < r
      · rw [if_pos l] at h
        exact iq (nI_ge l (by omega)) ⟨vp_in_nI a1 (by decide), h⟩
      · rw [if_neg l] at h
        exact ip (nI_le (by omega) (by omega)) h
  refine en_Box_trace 49 _ m (sg_Box_trace_0 (zCall_m _) _ m ?_)
  rw [r2]
  by_cases h1 : a < 0
  · refine ip h1 ⟨_, rfl, MT ?_⟩
    rw [zr_lo (n := 20) h1]
    exact ⟨_, rfl, rfl, h0⟩
  · refine iq h1 ?_
    obtain ⟨j, hj, rfl⟩ := nI_of h1
    by_cases h2 : r ≤ j
    · refine ip (nI_le h2 hj) ⟨_, rfl, MT ?_⟩
      rw [nI_clamp hj, if_neg (show ¬ j < r by omega)]
      split <;> exact ⟨_, rfl, rfl, h0⟩
    · refine iq (nI_ge (by omega) (by omega)) ?_
      by_cases h3 : j < 20
      · refine ip (nI_lt (b := 20) h3 (by decide)) ⟨vp_in_nI h3 (by decide), _, rfl, MT ?_⟩
        rw [zr_nI h3 hj, if_pos rfl, nI_clamp hj, if_pos (show j < r by omega)]
        exact ⟨_, rfl, r4 j h3 (by omega), h0⟩
      · refine iq (nI_nlt (b := 20) (by omega) hj) ⟨_, rfl, MT ?_⟩
        have : zr (nI j) 20 = false := decide_eq_false (by rw [nI_toInt hj]; omega)
        rw [this]
        exact ⟨_, rfl, rfl, h0⟩
theorem ok_count {m : zM} (hR : Rel m) (a : Int32) : okI m_Box_count m_Mod_count [.int a] m := by
  intro Q hQ
  have h0 := hQ m hR
  obtain ⟨V, ⟨hX, hM, _⟩, S, R, B, gc, gs, n, tx, ⟨b1, b1', _⟩, ⟨b2, b2', _⟩, ⟨b3, b3', _⟩, c, d, e, ⟨_, f1, f2, _⟩, ⟨_, g1, g2, _⟩, i, ⟨r, r1, r2, r3, r4⟩, k⟩ := Rel_o hR
  refine en_Box_count 49 _ m (sg_Box_count_0 (zCall_m _) _ m ?_)
  rw [hX.2.1, f1, b1.1, b2.1, b3.1, g1, r2]
  have MT : ∀ {Q' : zQ}, (if a = 0 then Q' (some (.int (nI (vN V)))) m else if a = 1 then Q' (some (.int (nI gc))) m else if a = 2 then Q' (some (.int (nI (rC S)))) m else if a = 3 then Q' (some (.int (nI (rC R)))) m else if a = 4 then Q' (some (.int (nI (rC B)))) m else if a = 5 then Q' (some (.int (nI n))) m else if a = 6 then Q' (some (.int (nI r))) m else Q' (some (.int (-2))) m) → zCall 50 m_Mod_count [.ref 113, .int a] m Q' := fun {Q'} h => by
    refine en_Mod_count 49 _ m (sg_Mod_count_0 (zCall_m _) _ m ?_)
    rw [hM.2.1, f2, b1'.1, b2'.1, b3'.1, g2, r3]
    exact h
  repeat' split
  all_goals
    refine ⟨_, rfl, MT ?_⟩
    repeat (first | (rw [if_pos (by assumption)]; exact ⟨_, rfl, rfl, h0⟩) | rw [if_neg (by assumption)])
    try exact ⟨_, rfl, rfl, h0⟩
/-- whether the second is the first's kind or one above -/
def unF : Nat → Nat → Nat → Bool
  | 0, at_, k => decide (at_ = k)
  | f + 1, at_, k => if at_ = 0 ∨ at_ = k then decide (at_ = k) else unF f ([0, 0, 0, 0, 1, 2, 3].getD at_ 0) k
theorem y_under (d : Nat) {Q : zQ} {m : zM} (hl : ∀ k, k < 7 → gI m 2 k = aboveL.getD k 0) (v0 : Int32) {k : Nat} (hk : k < 7) :
    ∀ j s x, s + j = 7 → x < 7 → Q (some (.int (zb (unF j x k)))) m → zRun (zCall d) 8 (some .boolean) zc_Box_isUnder Q 4 [.int v0, .int (nI k), .int (nI x), .int (nI s)] [] m
  | 0, s, x, hs, hx, h => by
    refine sg_Box_isUnder_4 (zCall_m _) _ _ _ _ m (ip (nI_le (a := 7) (by omega) (by omega)) ?_)
    unfold unF at h
    by_cases e : x = k
    · rw [decide_eq_true e] at h
      exact iq (fun z => z (by rw [e])) ⟨rfl, h⟩
    · rw [decide_eq_false e] at h
      exact ip (nI_ne (by omega) (by omega) e) ⟨rfl, h⟩
  | j + 1, s, x, hs, hx, h => by
    refine sg_Box_isUnder_4 (zCall_m _) _ _ _ _ m (iq (nI_ge (b := 7) (by omega) (by decide)) ?_)
    unfold unF at h
    by_cases e0 : x = 0
    · rw [if_pos (Or.inl e0)] at h
      refine ip (by rw [e0]; decide) ?_
      by_cases e : x = k
      · rw [decide_eq_true e] at h
        exact iq (fun z => z (by rw [e])) ⟨rfl, h⟩
      · rw [decide_eq_false e] at h
        exact ip (nI_ne (by omega) (by omega) e) ⟨rfl, h⟩
    · refine iq (nI_nle (by omega) (by omega)) ?_
      by_cases e : x = k
      · rw [if_pos (Or.inr e), decide_eq_true e] at h
        exact ip (by rw [e]) (iq (fun z => z (by rw [e])) ⟨rfl, h⟩)
      · rw [if_neg (by omega)] at h
        refine iq (nI_ne (by omega) (by omega) e) ⟨vp_in_nI hx (by decide), ?_⟩
        rw [nI_clamp (by omega), hl x hx, nI_1]
        have ha : aboveL.getD x 0 = nI ([0, 0, 0, 0, 1, 2, 3].getD x 0) ∧ [0, 0, 0, 0, 1, 2, 3].getD x 0 < 7 := by
          rcases (show x = 1 ∨ x = 2 ∨ x = 3 ∨ x = 4 ∨ x = 5 ∨ x = 6 by omega) with rfl | rfl | rfl | rfl | rfl | rfl <;> decide
        rw [ha.1]
        exact y_under d hl v0 hk j (s + 1) _ (by omega) ha.2 h
theorem yM_taken {Q : zQ} {m : zM} {V : zV} (hM : vM m V) {p q : Nat} (hp : p < vN V) (hq : q < 7) (h : Q (some (.int (if unF 7 (vK V p) q = true then nI (vK V p) else -12))) m) : zCall 50 m_Mod_taken [.ref 113, .int (nI p), .int (nI q)] m Q := by
  have h8 := hM.1.1
  have hk := (hM.1.2.1 p hp).1
  refine en_Mod_taken 49 _ _ m (sg_Mod_taken_0 (zCall_m _) _ _ m (y_Mod_in _ _ _ (n := 7) (by decide) ⟨_, rfl, ?_⟩))
  rw [zr_nI hq (by omega)]
  refine ip (by decide) (y_Mod_isPlant _ _ hM.2.1 (by omega) ⟨_, rfl, ?_⟩)
  rw [zr_nI hp (by omega)]
  refine ip (by decide) ⟨vp_in_nI (by omega) (by decide), ?_⟩
  rw [nI_clamp (by omega), (hM.2.2.1 p hp).1]
  generalize vK V p = k at hk h
  rcases (show k = 0 ∨ k = 1 ∨ k = 2 ∨ k = 3 ∨ k = 4 ∨ k = 5 ∨ k = 6 by omega) with rfl | rfl | rfl | rfl | rfl | rfl | rfl <;>
  rcases (show q = 0 ∨ q = 1 ∨ q = 2 ∨ q = 3 ∨ q = 4 ∨ q = 5 ∨ q = 6 by omega) with rfl | rfl | rfl | rfl | rfl | rfl | rfl <;>
  (first | rw [if_pos (by decide)] at h | rw [if_neg (by decide)] at h) <;>
  repeat (first | exact h | refine ip (by decide) ?_ | refine iq (by decide) ?_)
theorem ok_taken {m : zM} (hR : Rel m) (a b : Int32) : okI m_Box_taken m_Mod_taken [.int a, .int b] m := by
  intro Q hQ
  have h0 := hQ m hR
  obtain ⟨V, ⟨hX, hM, _⟩, S, R, B, gc, gs, n, tx, b1, b2, b3, c, d, e, f, g, i, j, ⟨k1, _⟩⟩ := Rel_o hR
  have h8 := hX.1.1
  have M1 : zr b 7 = false → zCall 50 m_Mod_taken [.ref 113, .int a, .int b] m (fun o2 m2 => ∃ y, o2 = some (.int y) ∧ ((-2 : Int32) = y ∧ Q m2)) := fun hb => by
    refine en_Mod_taken 49 _ _ m (sg_Mod_taken_0 (zCall_m _) _ _ m (y_Mod_in _ b _ (n := 7) (by decide) ⟨_, rfl, ?_⟩))
    rw [hb]; exact iq (fun z => z rfl) ⟨_, rfl, rfl, h0⟩
  have hlt : ∀ {x : Int32} {A D : Prop}, (zr x 7 = false → A) → (zr x 7 = true → D) → if x < 0 then A else if x < 7 then D else A := fun {x A D} hf ht => by
    by_cases h1 : x < 0
    · exact ip h1 (hf (zr_lo h1))
    · refine iq h1 ?_
      by_cases h2 : x < 7
      · exact ip h2 (ht (zr_in (n := 7) (c := 7) (by decide) h1 (fun z => by rw [Int32.le_iff_toInt_le] at z; rw [Int32.lt_iff_toInt_lt] at h2; omega)))
      · exact iq h2 (hf (zr_hi (n := 7) (c := 7) (by decide) (by rw [Int32.le_iff_toInt_le]; rw [Int32.lt_iff_toInt_lt] at h2; omega)))
  refine en_Box_taken 49 _ _ m (sg_Box_taken_0 (zCall_m _) _ _ m (hlt (fun hb => ⟨_, rfl, M1 hb⟩) (fun hb => y_Hedge_has _ a hX.2.1 (by omega) ⟨_, rfl, zb_d (fun ha => ?_) (fun ha => ?_)⟩)))
  · refine ⟨_, rfl, en_Mod_taken 49 _ _ m (sg_Mod_taken_0 (zCall_m _) _ _ m (y_Mod_in _ b _ (n := 7) (by decide) ⟨_, rfl, ?_⟩))⟩
    rw [hb]
    refine ip (by decide) (y_Mod_isPlant _ a hM.2.1 (by omega) ⟨_, rfl, ?_⟩)
    rw [ha]; exact iq (fun z => z rfl) ⟨_, rfl, rfl, h0⟩
  · obtain ⟨a1, a2⟩ := zr_k ha
    obtain ⟨b1, b2⟩ := zr_k hb
    generalize a.toNatClampNeg = p at a1 a2
    generalize b.toNatClampNeg = q at b1 b2
    subst a2 b2
    have hk := (hX.1.2.1 p a1).1
    refine ⟨vp_in_nI (by omega) (by decide), ?_⟩
    try rw [nI_clamp (by omega)]
    rw [show gI m 22 p = nI (vK V p) from (hX.2.2.1 p a1).1]
    refine en_Box_isUnder 48 _ _ m (sg_Box_isUnder_0 (zCall_m _) _ _ m (y_under _ k1 _ b1 7 0 (vK V p) rfl hk ⟨_, rfl, zb_c (fun z => ⟨_, rfl, yM_taken hM a1 b1 ?_⟩) (fun z => ⟨_, rfl, yM_taken hM a1 b1 ?_⟩)⟩))
    · rw [z]; exact ⟨_, rfl, rfl, h0⟩
    · rw [z]; exact ⟨_, rfl, rfl, h0⟩
/-! tapes -/
theorem tp_sh {t : Nat} (h : t < 6) : Nat.beq (zsh (101 + 2 * t)) 7 = true ∧ zrf (101 + 2 * t) 2 = 102 + 2 * t ∧ Nat.beq (zsh (102 + 2 * t)) 22 = true ∧ zlen (102 + 2 * t) = 60 := by
  match t, h with
  | 0, _ => exact ⟨rfl, rfl, rfl, rfl⟩
  | 1, _ => exact ⟨rfl, rfl, rfl, rfl⟩
  | 2, _ => exact ⟨rfl, rfl, rfl, rfl⟩
  | 3, _ => exact ⟨rfl, rfl, rfl, rfl⟩
  | 4, _ => exact ⟨rfl, rfl, rfl, rfl⟩
  | 5, _ => exact ⟨rfl, rfl, rfl, rfl⟩
theorem srt_neg {s : Int32} (h : s = -1 ∨ s = 0 ∨ s = 1 ∨ s = 2 ∨ s = 3 ∨ s = 4) : (s = -1 → s < 0 ∧ ¬ (0 : Int32) ≤ s) ∧ (¬ s = -1 → ¬ s < 0 ∧ (0 : Int32) ≤ s) := by
  rcases h with rfl | rfl | rfl | rfl | rfl | rfl <;> exact ⟨by decide, by decide⟩
theorem ok_read {m : zM} (hR : Rel m) (a b : Int32) : okL m_Box_read m_Mod_read [.int a, .int b] m := by
  intro Q hQ
  have h0 := hQ m hR
  obtain ⟨V, hH, S, R, B, gc, gs, n, tx, b1, b2, b3, c, d, e, f, g, i, j, k⟩ := Rel_o hR
  refine en_Box_read 49 _ _ m (sg_Box_read_0 (zCall_m _) _ _ m (y_Box_isTape _ a ⟨_, rfl, zb_c (fun ha => ?_) (fun ha => ?_)⟩))
  · refine ⟨_, rfl, en_Mod_read 49 _ _ m (sg_Mod_read_0 (zCall_m _) _ _ m (y_Mod_isTape _ a ⟨_, rfl, ?_⟩))⟩
    rw [ha]; exact ip rfl ⟨_, rfl, rfl, h0⟩
  · have ha' := ha
    obtain ⟨a1, a2⟩ := zr_k ha
    generalize a.toNatClampNeg = t at a1 a2
    subst a2
    obtain ⟨s, len, t1, t2, t3, t4, t5, t6, t7, t8⟩ := i t a1
    obtain ⟨q1, q2, q3, q4⟩ := tp_sh a1
    obtain ⟨n1, n2⟩ := srt_neg t3
    have hin : vp_in (nI t) 6 := vp_in_nI a1 (by decide)
    have MR : ∀ {Q' : zQ}, (if zr b len = true then Q' (some (.long (gL m 159 (60 * t + b.toNatClampNeg)))) m else Q' (some (.long (-9223372036854775808))) m) → zCall 50 m_Mod_read [.ref 113, .int (nI t), .int b] m Q' := fun {Q'} h => by
      refine en_Mod_read 49 _ _ m (sg_Mod_read_0 (zCall_m _) _ _ m (y_Mod_isTape _ _ ⟨_, rfl, ?_⟩))
      rw [ha']
      refine iq (by decide) ⟨hin, ?_⟩
      rw [nI_clamp (by omega), t2, t5]
      by_cases e : s = -1
      · have : len = 0 := t7 e
        subst this
        have hz : zr b 0 = false := decide_eq_false (by omega)
        rw [hz] at h
        exact ip (n1 e).1 h
      · refine iq (n2 e).1 ⟨hin, y_Mod_in _ b _ (n := len) (nI_m1 (by omega)) ⟨_, rfl, zb_d (fun hb => ?_) (fun hb => ?_)⟩⟩
        · rw [hb] at h; exact h
        · rw [hb] at h
          simp only [if_true] at h
          obtain ⟨c1, c2⟩ := zr_k hb
          generalize b.toNatClampNeg = u at c1 c2 h
          subst c2
          rw [show (60 : Int32) = nI 60 from rfl, pk_mul, nI_add, nI_clamp (by omega)]
          exact ⟨vp_in_nI (by omega) (by decide), h⟩
    have e101 : gI m (101 + 2 * t) 1 = nI len := t4
    by_cases hb : zr b len = true
    · have hb' := hb
      obtain ⟨c1, c2⟩ := zr_k hb
      generalize b.toNatClampNeg = u at c1 c2 MR
      subst c2
      refine iq (nI_pos (n := u) (by omega)) ⟨hin, ?_⟩
      try rw [nI_clamp (n := t) (by omega)]
      rw [q1, cond_true, e101]
      refine ip (nI_lt c1 (by omega)) ⟨hin, ?_⟩
      try rw [q1]
      rw [cond_true, q2, q3, cond_true, q4]
      try rw [nI_clamp (by omega)]
      rw [(t8 u (by omega)).1]
      refine ⟨vp_in_nI (by omega) (by decide), _, rfl, MR ?_⟩
      rw [hb', if_pos rfl]
      exact ⟨_, rfl, rfl, h0⟩
    · have hb : zr b len = false := by
        cases hz : zr b len with
        | true => exact absurd hz hb
        | false => rfl
      rw [hb] at MR
      by_cases h1 : b < 0
      · exact ip h1 ⟨_, rfl, MR ⟨_, rfl, rfl, h0⟩⟩
      · refine iq h1 ⟨hin, ?_⟩
        try rw [nI_clamp (n := t) (by omega)]
        rw [q1, cond_true, e101]
        obtain ⟨u, hu, rfl⟩ := nI_of h1
        have : ¬ u < len := fun z => by rw [zr_nI z hu] at hb; cases hb
        exact iq (nI_nlt (by omega) hu) ⟨_, rfl, MR ⟨_, rfl, rfl, h0⟩⟩
