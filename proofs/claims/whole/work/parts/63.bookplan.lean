/-! book, plan -/
theorem yM_book0 {Q : zQ} {m : zM} (b c : Int32) (h : Q (some (.int 0)) (sI m 113 38 0)) : zCall 50 m_Mod_book [.ref 113, .int (-1), .int b, .int c] m Q :=
  en_Mod_book 49 _ _ _ m (sg_Mod_book_0 (zCall_m _) _ _ _ m (iq (fun z => z rfl) h))
theorem yM_book {Q : zQ} {m : zM} {n cc : Nat} (hn : gI m 113 0 = nI n) (hn8 : n ≤ 8) (hc : gI m 113 38 = nI cc) (hcb : cc ≤ 8) {a b c : Int32} (ha0 : ¬ a = -1) (h : if zr a n = true then (if zr b n = true then (if zr c 10000 = true then (if cc < 8 then Q (some (.int (nI (cc + 1)))) (mad m 141 142 143 38 cc a b c (nI (cc + 1))) else Q (some (.int (-4))) m) else Q (some (.int (-2))) m) else Q (some (.int (-1))) m) else Q (some (.int (-1))) m) : zCall 50 m_Mod_book [.ref 113, .int a, .int b, .int c] m Q := by
  refine en_Mod_book 49 _ _ _ m (sg_Mod_book_0 (zCall_m _) _ _ _ m (ip ha0 (y_Mod_isPlant _ a hn (by omega) ⟨_, rfl, zb_c (fun ha => ?_) (fun ha => y_Mod_isPlant _ b hn (by omega) ⟨_, rfl, zb_d (fun hb => ?_) (fun hb => y_Mod_in _ c _ (n := 10000) (by decide) ⟨_, rfl, zb_d (fun hc2 => ?_) (fun hc2 => ?_)⟩)⟩)⟩)))
  · rw [ha] at h; exact h
  · rw [ha, hb] at h; exact h
  · rw [ha, hb, hc2] at h; exact h
  · rw [ha, hb, hc2] at h
    simp only [if_true] at h
    simp only [gIs, Nat.reduceEqDiff, false_and, if_false, and_self, if_true, hc]
    rw [nI_clamp (by omega), nI_1]
    by_cases l : cc < 8
    · rw [if_pos l] at h
      have hin : vp_in (nI cc) 8 := vp_in_nI l (by decide)
      exact ip (nI_ne (b := 8) (by omega) (by decide) (by omega)) ⟨hin, hin, hin, h⟩
    · rw [if_neg l] at h
      exact iq (fun z => z (by rw [show cc = 8 by omega]; rfl)) h
theorem ok_book {m : zM} (hR : Rel m) (a b c : Int32) : okI m_Box_book m_Mod_book [.int a, .int b, .int c] m := by
  intro Q hQ
  have h0 := hQ m hR
  obtain ⟨V, hH, hr⟩ := Rel_o hR
  have hr' := hr
  obtain ⟨S, R, B, gc, gs, n, tx, b1, b2, ⟨s1, s2, s3⟩, hL, _⟩ := hr'
  have hH' := hH
  obtain ⟨hX, hM, hh, hz1, hz2⟩ := hH
  have h8 := hX.1.1
  have h5 := s3.1
  refine en_Box_book 49 _ _ _ m (sg_Box_book_0 (zCall_m _) _ _ _ m ?_)
  by_cases e : a = -1
  · subst e
    refine iq (fun z => z rfl) (en_Rows_empty_31 48 m (sg_Rows_empty_31_0 (zCall_m _) m ⟨_, rfl, _, rfl, ?_⟩))
    rw [gIs, if_pos ⟨rfl, rfl⟩]
    have F : zfr bookP bookK m (sI (sI m 31 0 0) 113 38 0) := zfr_k (zfr_sI (zfr_refl m) (by unfold bookP; omega) (by decide) _) (show bookK 38 from rfl) _
    refine yM_book0 b c ⟨_, rfl, rfl, hQ _ (Rel_book hH' hr F (fun T hT hLm => ⟨(0, rA T, rB T, rE T), ⟨?_, fun j hj => absurd hj (Nat.not_lt_zero _)⟩, ⟨?_, fun j hj => absurd hj (Nat.not_lt_zero _)⟩, Nat.zero_le _, fun j hj => absurd hj (Nat.not_lt_zero _)⟩) ?_)⟩
    · rw [gIs, if_neg (fun z => by omega), gIs, if_pos ⟨rfl, rfl⟩]; rfl
    · rw [gIs, if_pos ⟨rfl, rfl⟩]; rfl
    · obtain ⟨⟨l1, l2, l3⟩, l4, l5, l6⟩ := hL
      unfold rLim
      simp only [gIs, Nat.reduceEqDiff, false_and, and_false, if_false, l1, l2, l3, l4, l5, l6]
      exact ⟨⟨trivial, trivial, trivial⟩, trivial, trivial, trivial⟩
  · refine ip e ?_
    have MS := fun {Q' : zQ} (h) => yM_book (Q := Q') (m := m) hM.2.1 h8 s2.1 h5 (a := a) (b := b) (c := c) e h
    refine y_Hedge_has _ a hX.2.1 (by omega) ⟨_, rfl, zb_c (fun ha => ⟨_, rfl, MS ?_⟩) (fun ha => y_Hedge_has _ b hX.2.1 (by omega) ⟨_, rfl, zb_d (fun hb => ⟨_, rfl, MS ?_⟩) (fun hb => zr_d (n := 10000) (by decide) (fun hc => ⟨_, rfl, MS ?_⟩) (fun hc => ⟨_, rfl, MS ?_⟩) (fun hc => ?_))⟩)⟩
    · rw [ha]; exact ⟨_, rfl, rfl, h0⟩
    · rw [ha, hb]; exact ⟨_, rfl, rfl, h0⟩
    · rw [ha, hb, hc]; exact ⟨_, rfl, rfl, h0⟩
    · rw [ha, hb, hc]; exact ⟨_, rfl, rfl, h0⟩
    · refine y_radd_31 _ s1.1 hL.1.2.2 h5 a b c (fun l => ⟨_, rfl, _, rfl, ?_⟩) (fun l => ⟨_, rfl, _, rfl, MS ?_⟩)
      · have q0 := rad_o (p := 31) (q := 32) (r := 113) (by decide) (by decide) m (rC B) a b c (nI (rC B + 1))
        refine yM_book ((q0 0).trans hM.2.1) h8 ((q0 38).trans s2.1) h5 e ?_
        rw [ha, hb, hc]
        refine ip rfl (ip rfl (ip rfl (ip l ⟨_, rfl, rfl, hQ _ ?_⟩)))
        obtain ⟨a1, a2⟩ := zr_k ha
        obtain ⟨b1, b2⟩ := zr_k hb
        obtain ⟨c1, c2⟩ := zr_k hc
        generalize a.toNatClampNeg = x at a1 a2
        generalize b.toNatClampNeg = y at b1 b2
        generalize c.toNatClampNeg = w at c1 c2
        subst a2 b2 c2
        have p1 := rad_p (p := 31) (q := 32) (by decide) m (rC B) (nI x) (nI y) (nI w) (nI (rC B + 1))
        have p2 := rad_q (p := 31) (q := 32) (by decide) m (rC B) (nI x) (nI y) (nI w) (nI (rC B + 1))
        have po := fun r (h1 : r ≠ 31) (h2 : r ≠ 32) => rad_o (p := 31) (q := 32) (r := r) h1 h2 m (rC B) (nI x) (nI y) (nI w) (nI (rC B + 1))
        have pf : zfr bookP bookK m (rad m 31 32 (rC B) (nI x) (nI y) (nI w) (nI (rC B + 1))) := zfr_sI (zfr_sI (zfr_sI (zfr_sI (zfr_refl m) (by unfold bookP; omega) (by decide) _) (by unfold bookP; omega) (by decide) _) (by unfold bookP; omega) (by decide) _) (by unfold bookP; omega) (by decide) _
        generalize rad m 31 32 (rC B) (nI x) (nI y) (nI w) (nI (rC B + 1)) = m1 at p1 p2 po pf ⊢
        have r1 := mad_a (pa := 141) (pb := 142) (pe := 143) (ci := 38) (by decide) (by decide) (by decide) (by decide) (by decide) (by decide) m1 (rC B) (nI x) (nI y) (nI w) (nI (rC B + 1))
        have ro := fun r (h1 : r ≠ 141) (h2 : r ≠ 142) (h3 : r ≠ 143) (h4 : r ≠ 113) => mad_o (pa := 141) (pb := 142) (pe := 143) (ci := 38) (r := r) h1 h2 h3 h4 m1 (rC B) (nI x) (nI y) (nI w) (nI (rC B + 1))
        have rf : zfr bookP bookK m (mad m1 141 142 143 38 (rC B) (nI x) (nI y) (nI w) (nI (rC B + 1))) := zfr_k (zfr_sI (zfr_sI (zfr_sI pf (by unfold bookP; omega) (by decide) _) (by unfold bookP; omega) (by decide) _) (by unfold bookP; omega) (by decide) _) (show bookK 38 from rfl) _
        generalize mad m1 141 142 143 38 (rC B) (nI x) (nI y) (nI w) (nI (rC B + 1)) = m2 at r1 ro rf ⊢
        refine Rel_book hH' hr rf (fun T hT hLm => ?_) ?_
        · have eT : rC T = rC B := (nI_eq (by have := hT.2.2.1; omega) (by omega)).mp (hT.1.1.symm.trans s1.1)
          rw [← eT] at p1 p2 r1 l
          obtain ⟨t1, t2, t3⟩ := hT
          refine ⟨radd T x y w, rX_add t1 ((ro 31 (by decide) (by decide) (by decide) (by decide) 0).trans p1.1) ((ro 32 (by decide) (by decide) (by decide) (by decide) _).trans p2.1) (fun _ => (ro 32 (by decide) (by decide) (by decide) (by decide) _).trans p2.2.1) ((ro 32 (by decide) (by decide) (by decide) (by decide) _).trans p2.2.2.1) (fun i hi => (ro 32 (by decide) (by decide) (by decide) (by decide) _).trans (p2.2.2.2 i hi)), rM_add t2 r1.1 r1.2.1 (fun _ => r1.2.2.1) (fun _ => r1.2.2.2.1) (fun i hi => ?_), rW_add t3 l a1 (fun _ => b1) c1⟩
          obtain ⟨z1, z2, z3⟩ := r1.2.2.2.2 i (by omega)
          exact ⟨z1.trans (po 141 (by decide) (by decide) i), z2.trans (po 142 (by decide) (by decide) i), fun _ => z3.trans (po 143 (by decide) (by decide) i)⟩
        · obtain ⟨⟨l1, l2, l3⟩, l4, l5, l6⟩ := hL
          have g : ∀ r, r ≠ 31 → r ≠ 32 → r < 100 → gI m2 r 1 = gI m r 1 := fun r h1 h2 h3 => (ro r (by omega) (by omega) (by omega) (by omega) 1).trans (po r h1 h2 1)
          exact ⟨⟨(g 27 (by decide) (by decide) (by decide)).trans l1, (g 29 (by decide) (by decide) (by decide)).trans l2, ((ro 31 (by decide) (by decide) (by decide) (by decide) 1).trans p1.2).trans l3⟩, (g 39 (by decide) (by decide) (by decide)).trans l4, (g 41 (by decide) (by decide) (by decide)).trans l5, (g 43 (by decide) (by decide) (by decide)).trans l6⟩
      · rw [ha, hb, hc]
        exact ip rfl (ip rfl (ip rfl (iq (by omega) ⟨_, rfl, rfl, h0⟩)))
/-! plan -/
def mad2 (m : zM) (pa pb ci c : Nat) (a b z : Int32) : zM := sI (sI (sI m pa c a) pb c b) 113 ci z
theorem mad2_a {pa pb ci : Nat} (h1 : pa ≠ pb) (q1 : pa ≠ 113) (q2 : pb ≠ 113) (m : zM) (c : Nat) (a b z : Int32) : gI (mad2 m pa pb ci c a b z) 113 ci = z ∧ gI (mad2 m pa pb ci c a b z) pa c = a ∧ gI (mad2 m pa pb ci c a b z) pb c = b ∧ ∀ i, i ≠ c → gI (mad2 m pa pb ci c a b z) pa i = gI m pa i ∧ gI (mad2 m pa pb ci c a b z) pb i = gI m pb i := by
  unfold mad2
  refine ⟨?_, ?_, ?_, fun i hi => ⟨?_, ?_⟩⟩
  · rw [gI_sI, if_pos ⟨rfl, rfl⟩]
  · rw [gI_sI, if_neg (fun t => q1 t.1), gI_sI, if_neg (fun t => h1 t.1), gI_sI, if_pos ⟨rfl, rfl⟩]
  · rw [gI_sI, if_neg (fun t => q2 t.1), gI_sI, if_pos ⟨rfl, rfl⟩]
  · rw [gI_sI, if_neg (fun t => q1 t.1), gI_sI, if_neg (fun t => hi t.2), gI_sI, if_neg (fun t => hi t.2)]
  · rw [gI_sI, if_neg (fun t => q2 t.1), gI_sI, if_neg (fun t => hi t.2), gI_sI, if_neg (fun t => hi t.2)]
theorem mad2_o {pa pb ci r : Nat} (h1 : r ≠ pa) (h2 : r ≠ pb) (h4 : r ≠ 113) (m : zM) (c : Nat) (a b z : Int32) (k : Nat) : gI (mad2 m pa pb ci c a b z) r k = gI m r k := by
  unfold mad2
  rw [gI_sI, if_neg (fun t => h4 t.1), gI_sI, if_neg (fun t => h2 t.1), gI_sI, if_neg (fun t => h1 t.1)]
theorem yM_plan0 {Q : zQ} {m : zM} (b : Int32) (h : Q (some (.int 0)) (sI m 113 37 0)) : zCall 50 m_Mod_plan [.ref 113, .int (-1), .int b] m Q :=
  en_Mod_plan 49 _ _ m (sg_Mod_plan_0 (zCall_m _) _ _ m (iq (fun z => z rfl) h))
/-- what the reference keeps of the plant -/
def plW (a b : Int32) : Int32 := if (2 : Int32) ≤ a then 0 else b
theorem yM_plan {Q : zQ} {m : zM} {n cc : Nat} (hn : gI m 113 0 = nI n) (hn8 : n ≤ 8) (hc : gI m 113 37 = nI cc) (hcb : cc ≤ 8) {a b : Int32} (ha0 : ¬ a = -1) (h : if zr a 3 = true then (if a = 2 ∨ zr b n = true then (if cc < 8 then Q (some (.int (nI (cc + 1)))) (mad2 m 139 140 37 cc a (plW a b) (nI (cc + 1))) else Q (some (.int (-4))) m) else Q (some (.int (-1))) m) else Q (some (.int (-1))) m) : zCall 50 m_Mod_plan [.ref 113, .int a, .int b] m Q := by
  refine en_Mod_plan 49 _ _ m (sg_Mod_plan_0 (zCall_m _) _ _ m (ip ha0 (y_Mod_in _ a _ (n := 3) (by decide) ⟨_, rfl, zb_c (fun ha => ?_) (fun ha => ?_)⟩)))
  · rw [ha] at h; exact h
  · rw [ha] at h
    simp only [if_true] at h
    obtain ⟨a1, a2⟩ := zr_k ha
    generalize a.toNatClampNeg = x at a1 a2
    subst a2
    have hin : cc < 8 → vp_in (nI cc) 8 := fun l => vp_in_nI l (by decide)
    simp only [gIs, Nat.reduceEqDiff, false_and, if_false, and_self, if_true, hc]
    rw [nI_clamp (by omega), nI_1]
    unfold plW at h
    by_cases e2 : x = 2
    · subst e2
      rw [if_pos (show nI 2 = 2 ∨ zr b n = true from Or.inl rfl), if_pos (show (2 : Int32) ≤ nI 2 by decide)] at h
      refine ip (show (2 : Int32) ≤ nI 2 by decide) ?_
      by_cases l : cc < 8
      · rw [if_pos l] at h
        exact ip (nI_ne (b := 8) (by omega) (by decide) (by omega)) ⟨hin l, ip (show (2 : Int32) ≤ nI 2 by decide) ⟨hin l, h⟩⟩
      · rw [if_neg l] at h
        exact iq (fun z => z (by rw [show cc = 8 by omega]; rfl)) h
    · have n2 : ¬ (2 : Int32) ≤ nI x := nI_ge (b := 2) (by omega) (by decide)
      have n2' : ¬ nI x = 2 := fun z => e2 ((nI_eq (b := 2) (by omega) (by decide)).mp z)
      rw [if_neg n2] at h
      refine iq n2 (y_Mod_isPlant _ b hn (by omega) ⟨_, rfl, zb_d (fun hb => ?_) (fun hb => ?_)⟩)
      · rw [if_neg (fun z => z.elim n2' (by rw [hb]; decide))] at h; exact h
      · rw [if_pos (Or.inr hb)] at h
        simp only [gIs, Nat.reduceEqDiff, false_and, if_false, and_self, if_true, hc]
        try rw [nI_clamp (by omega)]
        try rw [nI_1]
        by_cases l : cc < 8
        · rw [if_pos l] at h
          exact ip (nI_ne (b := 8) (by omega) (by decide) (by omega)) ⟨hin l, iq n2 ⟨hin l, h⟩⟩
        · rw [if_neg l] at h
          exact iq (fun z => z (by rw [show cc = 8 by omega]; rfl)) h
theorem ok_plan {m : zM} (hR : Rel m) (a b : Int32) : okI m_Box_plan m_Mod_plan [.int a, .int b] m := by
  intro Q hQ
  have h0 := hQ m hR
  obtain ⟨V, hH, hr⟩ := Rel_o hR
  have hr' := hr
  obtain ⟨S, R, B, gc, gs, n, tx, b1, ⟨s1, s2, s3⟩, b3, hL, _⟩ := hr'
  have hH' := hH
  obtain ⟨hX, hM, hh, hz1, hz2⟩ := hH
  have h8 := hX.1.1
  have h5 := s3.1
  refine en_Box_plan 49 _ _ m (sg_Box_plan_0 (zCall_m _) _ _ m ?_)
  by_cases e : a = -1
  · subst e
    refine iq (fun z => z rfl) (en_Rows_empty_29 48 m (sg_Rows_empty_29_0 (zCall_m _) m ⟨_, rfl, _, rfl, ?_⟩))
    rw [gIs, if_pos ⟨rfl, rfl⟩]
    have F : zfr planP planK m (sI (sI m 29 0 0) 113 37 0) := zfr_k (zfr_sI (zfr_refl m) (by unfold planP; omega) (by decide) _) (show planK 37 from rfl) _
    refine yM_plan0 b ⟨_, rfl, rfl, hQ _ (Rel_plan hH' hr F (fun T hT hLm => ⟨(0, rA T, rB T, rE T), ⟨?_, fun j hj => absurd hj (Nat.not_lt_zero _)⟩, ⟨?_, fun j hj => absurd hj (Nat.not_lt_zero _)⟩, Nat.zero_le _, fun j hj => absurd hj (Nat.not_lt_zero _)⟩) ?_)⟩
    · rw [gIs, if_neg (fun z => by omega), gIs, if_pos ⟨rfl, rfl⟩]; rfl
    · rw [gIs, if_pos ⟨rfl, rfl⟩]; rfl
    · obtain ⟨⟨l1, l2, l3⟩, l4, l5, l6⟩ := hL
      unfold rLim
      simp only [gIs, Nat.reduceEqDiff, false_and, and_false, if_false, l1, l2, l3, l4, l5, l6]
      exact ⟨⟨trivial, trivial, trivial⟩, trivial, trivial, trivial⟩
  · refine ip e ?_
    have MS := fun {Q' : zQ} (h) => yM_plan (Q := Q') (m := m) hM.2.1 h8 s2.1 h5 (a := a) (b := b) e h
    -- the row added, with x, y of the numbers
    have add : zr a 3 = true → (a = 2 ∨ zr b (vN V) = true) → zCall 49 m_Rows_add [.ref 29, .int a, .int b, .int 0] m (fun o1 m2 => ∃ x3, o1 = some (.int x3) ∧ ∃ x, some (.int x3) = some (Value.int x) ∧ zCall 50 m_Mod_plan [.ref 113, .int a, .int b] m2 (fun o2 m2 => ∃ y, o2 = some (.int y) ∧ (x = y ∧ Q m2))) := fun ha hab => by
      refine y_radd_29 _ s1.1 hL.1.2.1 h5 a b 0 (fun l => ⟨_, rfl, _, rfl, ?_⟩) (fun l => ⟨_, rfl, _, rfl, MS ?_⟩)
      · have q0 := rad_o (p := 29) (q := 30) (r := 113) (by decide) (by decide) m (rC R) a b 0 (nI (rC R + 1))
        refine yM_plan ((q0 0).trans hM.2.1) h8 ((q0 37).trans s2.1) h5 e ?_
        rw [ha]
        refine ip rfl (ip hab (ip l ⟨_, rfl, rfl, hQ _ ?_⟩))
        obtain ⟨a1, a2⟩ := zr_k ha
        generalize a.toNatClampNeg = x at a1 a2
        subst a2
        have hy : ∃ y : Nat, (x < 2 → y < vN V ∧ b = nI y ∧ plW (nI x) b = nI y) := by
          by_cases l2 : x < 2
          · have n2 : ¬ (2 : Int32) ≤ nI x := nI_ge (b := 2) (by omega) (by decide)
            rcases hab with hab | hab
            · exact absurd hab (fun z => by have := (nI_eq (b := 2) (by omega) (by decide)).mp z; omega)
            · obtain ⟨c1, c2⟩ := zr_k hab
              exact ⟨b.toNatClampNeg, fun _ => ⟨c1, c2, (show plW (nI x) b = b from if_neg n2).trans c2⟩⟩
          · exact ⟨0, fun z => absurd z l2⟩
        obtain ⟨y, hy⟩ := hy
        generalize plW (nI x) b = pw at hy ⊢
        have p1 := rad_p (p := 29) (q := 30) (by decide) m (rC R) (nI x) b 0 (nI (rC R + 1))
        have p2 := rad_q (p := 29) (q := 30) (by decide) m (rC R) (nI x) b 0 (nI (rC R + 1))
        have po := fun r (h1 : r ≠ 29) (h2 : r ≠ 30) => rad_o (p := 29) (q := 30) (r := r) h1 h2 m (rC R) (nI x) b 0 (nI (rC R + 1))
        have pf : zfr planP planK m (rad m 29 30 (rC R) (nI x) b 0 (nI (rC R + 1))) := zfr_sI (zfr_sI (zfr_sI (zfr_sI (zfr_refl m) (by unfold planP; omega) (by decide) _) (by unfold planP; omega) (by decide) _) (by unfold planP; omega) (by decide) _) (by unfold planP; omega) (by decide) _
        generalize rad m 29 30 (rC R) (nI x) b 0 (nI (rC R + 1)) = m1 at p1 p2 po pf ⊢
        have r1 := mad2_a (pa := 139) (pb := 140) (ci := 37) (by decide) (by decide) (by decide) m1 (rC R) (nI x) pw (nI (rC R + 1))
        have ro := fun r (h1 : r ≠ 139) (h2 : r ≠ 140) (h4 : r ≠ 113) => mad2_o (pa := 139) (pb := 140) (ci := 37) (r := r) h1 h2 h4 m1 (rC R) (nI x) pw (nI (rC R + 1))
        have rf : zfr planP planK m (mad2 m1 139 140 37 (rC R) (nI x) pw (nI (rC R + 1))) := zfr_k (zfr_sI (zfr_sI pf (by unfold planP; omega) (by decide) _) (by unfold planP; omega) (by decide) _) (show planK 37 from rfl) _
        generalize mad2 m1 139 140 37 (rC R) (nI x) pw (nI (rC R + 1)) = m2 at r1 ro rf ⊢
        refine Rel_plan hH' hr rf (fun T hT hLm => ?_) ?_
        · have eT : rC T = rC R := (nI_eq (by have := hT.2.2.1; omega) (by omega)).mp (hT.1.1.symm.trans s1.1)
          rw [← eT] at p1 p2 r1 l
          obtain ⟨t1, t2, t3⟩ := hT
          refine ⟨radd T x y 0, rX_add t1 ((ro 29 (by decide) (by decide) (by decide) 0).trans p1.1) ((ro 30 (by decide) (by decide) (by decide) _).trans p2.1) (fun z => ((ro 30 (by decide) (by decide) (by decide) _).trans p2.2.1).trans (hy z).2.1) ((ro 30 (by decide) (by decide) (by decide) _).trans p2.2.2.1) (fun i hi => (ro 30 (by decide) (by decide) (by decide) _).trans (p2.2.2.2 i hi)), rM_add t2 r1.1 r1.2.1 (fun z => r1.2.2.1.trans (hy z).2.2) (fun z => absurd rfl z) (fun i hi => ?_), rW_add t3 l a1 (fun z => (hy z).1) (by omega)⟩
          obtain ⟨z1, z2⟩ := r1.2.2.2 i (by omega)
          exact ⟨z1.trans (po 139 (by decide) (by decide) i), z2.trans (po 140 (by decide) (by decide) i), fun z => absurd rfl z⟩
        · obtain ⟨⟨l1, l2, l3⟩, l4, l5, l6⟩ := hL
          have g : ∀ r, r ≠ 29 → r ≠ 30 → r < 100 → gI m2 r 1 = gI m r 1 := fun r h1 h2 h3 => (ro r (by omega) (by omega) (by omega) 1).trans (po r h1 h2 1)
          exact ⟨⟨(g 27 (by decide) (by decide) (by decide)).trans l1, ((ro 29 (by decide) (by decide) (by decide) 1).trans p1.2).trans l2, (g 31 (by decide) (by decide) (by decide)).trans l3⟩, (g 39 (by decide) (by decide) (by decide)).trans l4, (g 41 (by decide) (by decide) (by decide)).trans l5, (g 43 (by decide) (by decide) (by decide)).trans l6⟩
      · rw [ha]
        exact ip rfl (ip hab (iq (by omega) ⟨_, rfl, rfl, h0⟩))
    refine zr_c' (n := 3) (c := 2) (by decide) (fun ha => ⟨_, rfl, MS ?_⟩) (fun ha => ⟨_, rfl, MS ?_⟩) (fun ha => ?_)
    · rw [ha]; exact ⟨_, rfl, rfl, h0⟩
    · rw [ha]; exact ⟨_, rfl, rfl, h0⟩
    · by_cases e2 : a = 2
      · exact ip e2 (add ha (Or.inl e2))
      · refine iq e2 (y_Hedge_has _ b hX.2.1 (by omega) ⟨_, rfl, zb_d (fun hb => ⟨_, rfl, MS ?_⟩) (fun hb => add ha (Or.inr hb))⟩)
        rw [ha]
        exact ip rfl (iq (fun z => z.elim e2 (by rw [hb]; decide)) ⟨_, rfl, rfl, h0⟩)
