/-! feed, see, plan, book -/
theorem ok_feed {m : zM} (hR : Rel m) (a : Int32) : okI m_Box_feed m_Mod_feed [.int a] m := by
  intro Q hQ
  have h0 := hQ m hR
  obtain ⟨V, hH, hr⟩ := Rel_o hR
  have hr' := hr
  obtain ⟨S, R, B, gc, gs, n, tx, b1, b2, b3, c, d, e, f, ⟨t1, t2, t3, t4⟩, i, j, k⟩ := hr'
  have bad : zr a 128 = false → zCall 50 m_Mod_feed [.ref 113, .int a] m (fun o2 m2 => ∃ y, o2 = some (.int y) ∧ ((-2 : Int32) = y ∧ Q m2)) := fun ha => by
    refine en_Mod_feed 49 _ m (sg_Mod_feed_0 (zCall_m _) _ m (y_Mod_in _ a _ (n := 128) (by decide) ⟨_, rfl, ?_⟩))
    rw [ha]; exact iq (fun z => z rfl) ⟨_, rfl, rfl, h0⟩
  refine en_Box_feed 49 _ m (sg_Box_feed_0 (zCall_m _) _ m (zr_d (n := 128) (by decide) (fun ha => ⟨_, rfl, bad ha⟩) (fun ha => ⟨_, rfl, bad ha⟩) (fun ha => ?_)))
  have ha' := ha
  obtain ⟨a1, a2⟩ := zr_k ha
  generalize a.toNatClampNeg = s at a1 a2
  subst a2
  refine en_Reader_add 48 _ m (sg_Reader_add_0 (zCall_m _) _ m ?_)
  simp only [gIs, Nat.reduceEqDiff, false_and, if_false, and_self, if_true, t2]
  rw [nI_clamp (by omega), nI_1]
  have MI : ∀ {m' : zM} {Q' : zQ}, gI m' 113 9 = nI n → (@ite Prop (n < 100) inferInstance (Q' (some (.int (nI (n + 1)))) (sI (sI m' 118 n (nI s)) 113 9 (nI (n + 1)))) (Q' (some (.int (-4))) m')) → zCall 50 m_Mod_feed [.ref 113, .int (nI s)] m' Q' := fun {m' Q'} he h => by
    refine en_Mod_feed 49 _ _ (sg_Mod_feed_0 (zCall_m _) _ _ (y_Mod_in _ _ _ (n := 128) (by decide) ⟨_, rfl, ?_⟩))
    rw [ha']
    refine ip (by decide) ?_
    simp only [gIs, Nat.reduceEqDiff, false_and, if_false, and_self, if_true, he]
    rw [nI_clamp (by omega), nI_1]
    by_cases l : n < 100
    · rw [if_pos l] at h
      exact ip (nI_ne (b := 100) (by omega) (by decide) (by omega)) ⟨vp_in_nI l (by decide), h⟩
    · rw [if_neg l] at h
      exact iq (fun z => z (by rw [show n = 100 by omega]; rfl)) h
  by_cases l : n < 100
  · refine ip (nI_lt (b := 100) l (by decide)) ⟨vp_in_nI l (by decide), _, rfl, _, rfl, MI (by rw [gIs, if_neg (fun z => by omega), gIs, if_neg (fun z => by omega)]; exact t3) (ip l ⟨_, rfl, rfl, hQ _ ?_⟩)⟩
    have F : zfr txtP txtK m (sI (sI (sI (sI m 89 n (nI s)) 88 0 (nI (n + 1))) 118 n (nI s)) 113 9 (nI (n + 1))) := zfr_k (zfr_sI (zfr_sI (zfr_sI (zfr_refl m) (by unfold txtP; omega) (by decide) _) (by unfold txtP; omega) (by decide) _) (by unfold txtP; omega) (by decide) _) (show txtK 9 from rfl) _
    refine Rel_txt hH hr F (fun n' tx' ht => ?_)
    obtain ⟨u1, u2, u3, u4⟩ := ht
    have en : n' = n := (nI_eq (by omega) (by omega)).mp (u2.symm.trans t2)
    subst en
    refine ⟨n' + 1, up tx' n' s, by omega, ?_, ?_, fun jj hj => ?_⟩
    · rw [gIs, if_neg (fun z => by omega), gIs, if_neg (fun z => by omega), gIs, if_pos ⟨rfl, rfl⟩]
    · rw [gIs, if_pos ⟨rfl, rfl⟩]
    · simp only [gIs, Nat.reduceEqDiff, false_and, true_and, if_false]
      by_cases q : jj = n'
      · subst q
        rw [up_s, if_pos rfl, if_pos rfl]
        exact ⟨rfl, rfl, a1⟩
      · rw [up_n _ q, if_neg q, if_neg q]
        exact u4 jj (by omega)
  · exact iq (nI_nlt (b := 100) (by omega) (by omega)) ⟨_, rfl, _, rfl, MI t3 (iq l ⟨_, rfl, rfl, h0⟩)⟩
/-! see -/
theorem yM_see0 {Q : zQ} {m : zM} (b c : Int32) (h : Q (some (.int 0)) (sI m 113 33 0)) : zCall 50 m_Mod_see [.ref 113, .int (-1), .int b, .int c] m Q :=
  en_Mod_see 49 _ _ _ m (sg_Mod_see_0 (zCall_m _) _ _ _ m (iq (fun z => z rfl) h))
theorem yM_see {Q : zQ} {m : zM} {n cc : Nat} (hn : gI m 113 0 = nI n) (hn8 : n ≤ 8) (hc : gI m 113 33 = nI cc) (hcb : cc ≤ 5) {a b c : Int32} (ha0 : ¬ a = -1) (h : if zr a n = true then (if zr b 10000 = true then (if zr c 10000 = true then (if cc < 5 then Q (some (.int (nI (cc + 1)))) (mad m 136 137 138 33 cc a b c (nI (cc + 1))) else Q (some (.int (-4))) m) else Q (some (.int (-2))) m) else Q (some (.int (-2))) m) else Q (some (.int (-1))) m) : zCall 50 m_Mod_see [.ref 113, .int a, .int b, .int c] m Q := by
  refine en_Mod_see 49 _ _ _ m (sg_Mod_see_0 (zCall_m _) _ _ _ m (ip ha0 (y_Mod_isPlant _ a hn (by omega) ⟨_, rfl, zb_d (fun ha => ?_) (fun ha => y_Mod_isWord _ b ⟨_, rfl, zb_c (fun hb => ?_) (fun hb => y_Mod_in _ c _ (n := 10000) (by decide) ⟨_, rfl, zb_d (fun hc2 => ?_) (fun hc2 => ?_)⟩)⟩)⟩)))
  · rw [ha] at h; exact h
  · rw [ha, hb] at h; exact h
  · rw [ha, hb, hc2] at h; exact h
  · rw [ha, hb, hc2] at h
    simp only [if_true] at h
    simp only [gIs, Nat.reduceEqDiff, false_and, if_false, and_self, if_true, hc]
    rw [nI_clamp (by omega), nI_1]
    by_cases l : cc < 5
    · rw [if_pos l] at h
      have hin : vp_in (nI cc) 5 := vp_in_nI l (by decide)
      exact ip (nI_ne (b := 5) (by omega) (by decide) (by omega)) ⟨hin, hin, hin, h⟩
    · rw [if_neg l] at h
      exact iq (fun z => z (by rw [show cc = 5 by omega]; rfl)) h
theorem r_1 {a : Int32} {n : Nat} (h : zr a n = true) : ¬ a = -1 := fun z => by subst z; obtain ⟨k, h1, h2, h3⟩ := zr_t h; exact nI_nn h2 (by decide) h3.symm
theorem ok_see {m : zM} (hR : Rel m) (a b c : Int32) : okI m_Box_see m_Mod_see [.int a, .int b, .int c] m := by
  intro Q hQ
  have h0 := hQ m hR
  obtain ⟨V, hH, hr⟩ := Rel_o hR
  have hr' := hr
  obtain ⟨S, R, B, gc, gs, n, tx, ⟨s1, s2, s3⟩, b2, b3, hL, _⟩ := hr'
  have hH' := hH
  obtain ⟨hX, hM, hh, hz1, hz2⟩ := hH
  have h8 := hX.1.1
  have h5 := s3.1
  refine en_Box_see 49 _ _ _ m (sg_Box_see_0 (zCall_m _) _ _ _ m ?_)
  by_cases e : a = -1
  · subst e
    refine iq (fun z => z rfl) (en_Rows_empty_27 48 m (sg_Rows_empty_27_0 (zCall_m _) m ⟨_, rfl, _, rfl, ?_⟩))
    rw [gIs, if_pos ⟨rfl, rfl⟩]
    have F : zfr seeP seeK m (sI (sI m 27 0 0) 113 33 0) := zfr_k (zfr_sI (zfr_refl m) (by unfold seeP; omega) (by decide) _) (show seeK 33 from rfl) _
    refine yM_see0 b c ⟨_, rfl, rfl, hQ _ (Rel_see hH' hr F (fun T hT hLm => ⟨(0, rA T, rB T, rE T), ⟨?_, fun j hj => absurd hj (Nat.not_lt_zero _)⟩, ⟨?_, fun j hj => absurd hj (Nat.not_lt_zero _)⟩, Nat.zero_le _, fun j hj => absurd hj (Nat.not_lt_zero _)⟩) ?_)⟩
    · rw [gIs, if_neg (fun z => by omega), gIs, if_pos ⟨rfl, rfl⟩]; rfl
    · rw [gIs, if_pos ⟨rfl, rfl⟩]; rfl
    · obtain ⟨⟨l1, l2, l3⟩, l4, l5, l6⟩ := hL
      unfold rLim
      simp only [gIs, Nat.reduceEqDiff, false_and, and_false, if_false, l1, l2, l3, l4, l5, l6]
      exact ⟨⟨trivial, trivial, trivial⟩, trivial, trivial, trivial⟩
  · refine ip e ?_
    have MS := fun {Q' : zQ} (h) => yM_see (Q := Q') (m := m) hM.2.1 h8 s2.1 h5 (a := a) (b := b) (c := c) e h
    refine y_Hedge_has _ a hX.2.1 (by omega) ⟨_, rfl, zb_d (fun ha => ⟨_, rfl, MS ?_⟩) (fun ha => y_Box_isWord _ b ⟨_, rfl, zb_c (fun hb => ⟨_, rfl, MS ?_⟩) (fun hb => zr_d (n := 10000) (by decide) (fun hc => ⟨_, rfl, MS ?_⟩) (fun hc => ⟨_, rfl, MS ?_⟩) (fun hc => ?_))⟩)⟩
    · rw [ha]; exact ⟨_, rfl, rfl, h0⟩
    · rw [ha, hb]; exact ⟨_, rfl, rfl, h0⟩
    · rw [ha, hb, hc]; exact ⟨_, rfl, rfl, h0⟩
    · rw [ha, hb, hc]; exact ⟨_, rfl, rfl, h0⟩
    · refine y_radd_27 _ s1.1 hL.1.1 h5 a b c (fun l => ⟨_, rfl, _, rfl, ?_⟩) (fun l => ⟨_, rfl, _, rfl, MS ?_⟩)
      · have q0 := rad_o (p := 27) (q := 28) (r := 113) (by decide) (by decide) m (rC S) a b c (nI (rC S + 1))
        refine yM_see ((q0 0).trans hM.2.1) h8 ((q0 33).trans s2.1) h5 e ?_
        rw [ha, hb, hc]
        refine ip rfl (ip rfl (ip rfl (ip l ⟨_, rfl, rfl, hQ _ ?_⟩)))
        obtain ⟨a1, a2⟩ := zr_k ha
        obtain ⟨b1, b2⟩ := zr_k hb
        obtain ⟨c1, c2⟩ := zr_k hc
        generalize a.toNatClampNeg = x at a1 a2
        generalize b.toNatClampNeg = y at b1 b2
        generalize c.toNatClampNeg = w at c1 c2
        subst a2 b2 c2
        have p1 := rad_p (p := 27) (q := 28) (by decide) m (rC S) (nI x) (nI y) (nI w) (nI (rC S + 1))
        have p2 := rad_q (p := 27) (q := 28) (by decide) m (rC S) (nI x) (nI y) (nI w) (nI (rC S + 1))
        have po := fun r (h1 : r ≠ 27) (h2 : r ≠ 28) => rad_o (p := 27) (q := 28) (r := r) h1 h2 m (rC S) (nI x) (nI y) (nI w) (nI (rC S + 1))
        have pf : zfr seeP seeK m (rad m 27 28 (rC S) (nI x) (nI y) (nI w) (nI (rC S + 1))) := zfr_sI (zfr_sI (zfr_sI (zfr_sI (zfr_refl m) (by unfold seeP; omega) (by decide) _) (by unfold seeP; omega) (by decide) _) (by unfold seeP; omega) (by decide) _) (by unfold seeP; omega) (by decide) _
        generalize rad m 27 28 (rC S) (nI x) (nI y) (nI w) (nI (rC S + 1)) = m1 at p1 p2 po pf ⊢
        have r1 := mad_a (pa := 136) (pb := 137) (pe := 138) (ci := 33) (by decide) (by decide) (by decide) (by decide) (by decide) (by decide) m1 (rC S) (nI x) (nI y) (nI w) (nI (rC S + 1))
        have ro := fun r (h1 : r ≠ 136) (h2 : r ≠ 137) (h3 : r ≠ 138) (h4 : r ≠ 113) => mad_o (pa := 136) (pb := 137) (pe := 138) (ci := 33) (r := r) h1 h2 h3 h4 m1 (rC S) (nI x) (nI y) (nI w) (nI (rC S + 1))
        have rf : zfr seeP seeK m (mad m1 136 137 138 33 (rC S) (nI x) (nI y) (nI w) (nI (rC S + 1))) := zfr_k (zfr_sI (zfr_sI (zfr_sI pf (by unfold seeP; omega) (by decide) _) (by unfold seeP; omega) (by decide) _) (by unfold seeP; omega) (by decide) _) (show seeK 33 from rfl) _
        generalize mad m1 136 137 138 33 (rC S) (nI x) (nI y) (nI w) (nI (rC S + 1)) = m2 at r1 ro rf ⊢
        refine Rel_see hH' hr rf (fun T hT hLm => ?_) ?_
        · have eT : rC T = rC S := (nI_eq (by have := hT.2.2.1; omega) (by omega)).mp (hT.1.1.symm.trans s1.1)
          rw [← eT] at p1 p2 r1 l
          obtain ⟨t1, t2, t3⟩ := hT
          refine ⟨radd T x y w, rX_add t1 ((ro 27 (by decide) (by decide) (by decide) (by decide) 0).trans p1.1) ((ro 28 (by decide) (by decide) (by decide) (by decide) _).trans p2.1) (fun _ => (ro 28 (by decide) (by decide) (by decide) (by decide) _).trans p2.2.1) ((ro 28 (by decide) (by decide) (by decide) (by decide) _).trans p2.2.2.1) (fun i hi => (ro 28 (by decide) (by decide) (by decide) (by decide) _).trans (p2.2.2.2 i hi)), rM_add t2 r1.1 r1.2.1 (fun _ => r1.2.2.1) (fun _ => r1.2.2.2.1) (fun i hi => ?_), rW_add t3 l a1 (fun _ => b1) c1⟩
          obtain ⟨z1, z2, z3⟩ := r1.2.2.2.2 i (by omega)
          exact ⟨z1.trans (po 136 (by decide) (by decide) i), z2.trans (po 137 (by decide) (by decide) i), fun _ => z3.trans (po 138 (by decide) (by decide) i)⟩
        · obtain ⟨⟨l1, l2, l3⟩, l4, l5, l6⟩ := hL
          have g : ∀ r, r ≠ 27 → r ≠ 28 → r < 100 → gI m2 r 1 = gI m r 1 := fun r h1 h2 h3 => (ro r (by omega) (by omega) (by omega) (by omega) 1).trans (po r h1 h2 1)
          exact ⟨⟨((ro 27 (by decide) (by decide) (by decide) (by decide) 1).trans p1.2).trans l1, (g 29 (by decide) (by decide) (by decide)).trans l2, (g 31 (by decide) (by decide) (by decide)).trans l3⟩, (g 39 (by decide) (by decide) (by decide)).trans l4, (g 41 (by decide) (by decide) (by decide)).trans l5, (g 43 (by decide) (by decide) (by decide)).trans l6⟩
      · rw [ha, hb, hc]
        exact ip rfl (ip rfl (ip rfl (iq (by omega) ⟨_, rfl, rfl, h0⟩)))
