/-! questions asked of both (gen57.py) -/
theorem ok_heard {m : zM} (hR : Rel m) (a : Int32) (b : Int32) (c : Int32) (e : Int32) : okI m_Box_heard m_Mod_heard [.int a, .int b, .int c, .int e] m := by
  intro Q hQ
  obtain ⟨V, S, R, B, gc, gs, n, tx, ⟨hX, hM, hh, _, _⟩, ⟨⟨ha1, ha2, ha3⟩, ⟨hp1, hp2, hp3⟩, hb1, hb2, hb3⟩, _⟩ := id hR
  exact yX_heard 42 hX a b c e fun m1 hs1 => ⟨_, rfl, yM_heard 42 (vM_5 hM (zsm_mo h3h hs1)) a b c e fun m2 hs2 => ⟨_, rfl, rfl, hQ m2 (Rel_q hR (zsm_tr (zsm_mo h3q hs1) (zsm_mo mPq hs2)))⟩⟩
theorem ok_by {m : zM} (hR : Rel m) (a : Int32) (b : Int32) : okI m_Box_by m_Mod_by [.int a, .int b] m := by
  intro Q hQ
  obtain ⟨V, S, R, B, gc, gs, n, tx, ⟨hX, hM, hh, _, _⟩, ⟨⟨ha1, ha2, ha3⟩, ⟨hp1, hp2, hp3⟩, hb1, hb2, hb3⟩, _⟩ := id hR
  exact yX_by 42 hX a b fun m1 hs1 => ⟨_, rfl, yM_by 42 (vM_5 hM (zsm_mo h3h hs1)) a b fun m2 hs2 => ⟨_, rfl, rfl, hQ m2 (Rel_q hR (zsm_tr (zsm_mo h3q hs1) (zsm_mo mPq hs2)))⟩⟩
theorem ok_right {m : zM} (hR : Rel m) (a : Int32) (b : Int32) : okI m_Box_right m_Mod_right [.int a, .int b] m := by
  intro Q hQ
  obtain ⟨V, S, R, B, gc, gs, n, tx, ⟨hX, hM, hh, _, _⟩, ⟨⟨ha1, ha2, ha3⟩, ⟨hp1, hp2, hp3⟩, hb1, hb2, hb3⟩, _⟩ := id hR
  exact yX_right 42 hX a b fun m1 hs1 => ⟨_, rfl, yM_right 42 (vM_5 hM (zsm_mo h3h hs1)) a b fun m2 hs2 => ⟨_, rfl, rfl, hQ m2 (Rel_q hR (zsm_tr (zsm_mo h3q hs1) (zsm_mo mPq hs2)))⟩⟩
theorem ok_last {m : zM} (hR : Rel m) (a : Int32) : okI m_Box_last m_Mod_last [.int a] m := by
  intro Q hQ
  obtain ⟨V, S, R, B, gc, gs, n, tx, ⟨hX, hM, hh, _, _⟩, ⟨⟨ha1, ha2, ha3⟩, ⟨hp1, hp2, hp3⟩, hb1, hb2, hb3⟩, _⟩ := id hR
  exact yX_last 42 hX a fun m1 hs1 => ⟨_, rfl, yM_last 42 (vM_5 hM (zsm_mo h3h hs1)) a fun m2 hs2 => ⟨_, rfl, rfl, hQ m2 (Rel_q hR (zsm_tr (zsm_mo h3q hs1) (zsm_mo mPq hs2)))⟩⟩
theorem ok_needed {m : zM} (hR : Rel m) (a : Int32) (b : Int32) : okI m_Box_needed m_Mod_needed [.int a, .int b] m := by
  intro Q hQ
  obtain ⟨V, S, R, B, gc, gs, n, tx, ⟨hX, hM, hh, _, _⟩, ⟨⟨ha1, ha2, ha3⟩, ⟨hp1, hp2, hp3⟩, hb1, hb2, hb3⟩, _⟩ := id hR
  exact yX_needed 42 hX a b fun m1 hs1 => ⟨_, rfl, yM_needed 40 (vM_5 hM (zsm_mo h3h hs1)) a b fun m2 hs2 => ⟨_, rfl, rfl, hQ m2 (Rel_q hR (zsm_tr (zsm_mo h3q hs1) (zsm_mo mPq hs2)))⟩⟩
theorem ok_cut {m : zM} (hR : Rel m) (a : Int32) (b : Int32) (c : Int32) : okI m_Box_cut m_Mod_cut [.int a, .int b, .int c] m := by
  intro Q hQ
  obtain ⟨V, S, R, B, gc, gs, n, tx, ⟨hX, hM, hh, _, _⟩, ⟨⟨ha1, ha2, ha3⟩, ⟨hp1, hp2, hp3⟩, hb1, hb2, hb3⟩, _⟩ := id hR
  exact yX_cut 42 hX a b c fun m1 hs1 => ⟨_, rfl, yM_cut 40 (vM_5 hM (zsm_mo h3h hs1)) a b c fun m2 hs2 => ⟨_, rfl, rfl, hQ m2 (Rel_q hR (zsm_tr (zsm_mo h3q hs1) (zsm_mo mPq hs2)))⟩⟩
theorem ok_round {m : zM} (hR : Rel m) (a : Int32) (b : Int32) (c : Int32) : okI m_Box_round m_Mod_round [.int a, .int b, .int c] m := by
  intro Q hQ
  obtain ⟨V, S, R, B, gc, gs, n, tx, ⟨hX, hM, hh, _, _⟩, ⟨⟨ha1, ha2, ha3⟩, ⟨hp1, hp2, hp3⟩, hb1, hb2, hb3⟩, _⟩ := id hR
  exact yX_round 42 hX a b c fun m1 hs1 => ⟨_, rfl, yM_round 42 (vM_5 hM (zsm_mo h3h hs1)) a b c fun m2 hs2 => ⟨_, rfl, rfl, hQ m2 (Rel_q hR (zsm_tr (zsm_mo h3q hs1) (zsm_mo mPq hs2)))⟩⟩
theorem ok_of {m : zM} (hR : Rel m) (a : Int32) (b : Int32) : okI m_Box_of m_Mod_of [.int a, .int b] m := by
  intro Q hQ
  obtain ⟨V, S, R, B, gc, gs, n, tx, ⟨hX, hM, hh, _, _⟩, ⟨⟨ha1, ha2, ha3⟩, ⟨hp1, hp2, hp3⟩, hb1, hb2, hb3⟩, _⟩ := id hR
  exact yX_of 45 hX a b fun m1 hs1 => ⟨_, rfl, yM_of 44 (vM_5 hM (zsm_mo h3h hs1)) a b fun m2 hs2 => ⟨_, rfl, rfl, hQ m2 (Rel_q hR (zsm_tr (zsm_mo h3q hs1) (zsm_mo mPq hs2)))⟩⟩
theorem ok_meet {m : zM} (hR : Rel m) (a : Int32) (b : Int32) : okI m_Box_meet m_Mod_meet [.int a, .int b] m := by
  intro Q hQ
  obtain ⟨V, S, R, B, gc, gs, n, tx, ⟨hX, hM, hh, _, _⟩, ⟨⟨ha1, ha2, ha3⟩, ⟨hp1, hp2, hp3⟩, hb1, hb2, hb3⟩, _⟩ := id hR
  exact yX_meet 42 hX a b fun m1 hs1 => ⟨_, rfl, yM_meet 42 (vM_5 hM (zsm_mo h3h hs1)) a b fun m2 hs2 => ⟨_, rfl, rfl, hQ m2 (Rel_q hR (zsm_tr (zsm_mo h3q hs1) (zsm_mo mPq hs2)))⟩⟩
theorem ok_mean {m : zM} (hR : Rel m) (a : Int32) (b : Int32) : okL m_Box_mean m_Mod_mean [.int a, .int b] m := by
  intro Q hQ
  obtain ⟨V, S, R, B, gc, gs, n, tx, ⟨hX, hM, hh, _, _⟩, ⟨⟨ha1, ha2, ha3⟩, ⟨hp1, hp2, hp3⟩, hb1, hb2, hb3⟩, _⟩ := id hR
  exact yX_mean 42 hX a b fun m1 hs1 => ⟨_, rfl, yM_mean 42 (vM_5 hM (zsm_mo h3h hs1)) a b fun m2 hs2 => ⟨_, rfl, rfl, hQ m2 (Rel_q hR (zsm_tr (zsm_mo h3q hs1) (zsm_mo mPq hs2)))⟩⟩
theorem ok_odds {m : zM} (hR : Rel m) (a : Int32) (b : Int32) (c : Int32) : okL m_Box_odds m_Mod_odds [.int a, .int b, .int c] m := by
  intro Q hQ
  obtain ⟨V, S, R, B, gc, gs, n, tx, ⟨hX, hM, hh, _, _⟩, ⟨⟨ha1, ha2, ha3⟩, ⟨hp1, hp2, hp3⟩, hb1, hb2, hb3⟩, _⟩ := id hR
  exact yX_odds 42 hX a b c fun m1 hs1 => ⟨_, rfl, yM_odds 40 (vM_5 hM (zsm_mo h3h hs1)) a b c fun m2 hs2 => ⟨_, rfl, rfl, hQ m2 (Rel_q hR (zsm_tr (zsm_mo h3q hs1) (zsm_mo mPq hs2)))⟩⟩
theorem ok_listen {m : zM} (hR : Rel m) (a : Int32) : okI m_Box_listen m_Mod_listen [.int a] m := by
  intro Q hQ
  obtain ⟨V, S, R, B, gc, gs, n, tx, ⟨hX, hM, hh, _, _⟩, ⟨⟨ha1, ha2, ha3⟩, ⟨hp1, hp2, hp3⟩, hb1, hb2, hb3⟩, _⟩ := id hR
  exact yX_listen 43 hX a fun m1 hs1 => ⟨_, rfl, yM_listen 42 (vM_5 hM (zsm_mo h4h hs1)) a fun m2 hs2 => ⟨_, rfl, rfl, hQ m2 (Rel_q hR (zsm_tr (zsm_mo h4q hs1) (zsm_mo mP2q hs2)))⟩⟩
theorem ok_join {m : zM} (hR : Rel m) (a : Int32) (b : Int32) (c : Int32) : okI m_Box_join m_Mod_join [.int a, .int b, .int c] m := by
  intro Q hQ
  obtain ⟨V, S, R, B, gc, gs, n, tx, ⟨hX, hM, hh, _, _⟩, ⟨⟨ha1, ha2, ha3⟩, ⟨hp1, hp2, hp3⟩, hb1, hb2, hb3⟩, _⟩ := id hR
  exact yX_join 42 hX (gG_21 hX) a b c fun m1 hs1 => ⟨_, rfl, yM_join 41 (vM_5 hM hs1) a b c fun m2 hs2 => ⟨_, rfl, rfl, hQ m2 (Rel_q hR (zsm_tr (zsm_mo h5q hs1) (zsm_mo mPq hs2)))⟩⟩
theorem ok_looked {m : zM} (hR : Rel m) : okI m_Box_looked m_Mod_looked [] m := by
  intro Q hQ
  obtain ⟨V, S, R, B, gc, gs, n, tx, ⟨hX, hM, hh, _, _⟩, ⟨⟨ha1, ha2, ha3⟩, ⟨hp1, hp2, hp3⟩, hb1, hb2, hb3⟩, _⟩ := id hR
  exact yX_looked 43 hX hb1 hb3 fun m1 hs1 => ⟨_, rfl, yM_looked 41 (vM_5 hM (zsm_mo h3h hs1)) (rM_sm hb2 (zsm_mo h3h hs1) (by unfold hP5; omega) (by unfold hP5; omega) (by unfold hP5; omega) (by unfold hP5; omega)) hb3 fun m2 hs2 => ⟨_, rfl, rfl, hQ m2 (Rel_q hR (zsm_tr (zsm_mo h3q hs1) (zsm_mo mPq hs2)))⟩⟩
theorem ok_who {m : zM} (hR : Rel m) (a : Int32) : okI m_Box_who m_Mod_who [.int a] m := by
  intro Q hQ
  obtain ⟨V, S, R, B, gc, gs, n, tx, ⟨hX, hM, hh, _, _⟩, ⟨⟨ha1, ha2, ha3⟩, ⟨hp1, hp2, hp3⟩, hb1, hb2, hb3⟩, _⟩ := id hR
  exact yX_who 43 hX ha1 ha3 a fun m1 hs1 => ⟨_, rfl, yM_who 42 (vM_5 hM (zsm_mo h3h hs1)) (rM_sm ha2 (zsm_mo h3h hs1) (by unfold hP5; omega) (by unfold hP5; omega) (by unfold hP5; omega) (by unfold hP5; omega)) ha3 a fun m2 hs2 => ⟨_, rfl, rfl, hQ m2 (Rel_q hR (zsm_tr (zsm_mo h3q hs1) (zsm_mo mPq hs2)))⟩⟩
theorem ok_planned {m : zM} (hR : Rel m) (a : Int32) (b : Int32) : okI m_Box_planned m_Mod_planned [.int a, .int b] m := by
  intro Q hQ
  obtain ⟨V, S, R, B, gc, gs, n, tx, ⟨hX, hM, hh, _, _⟩, ⟨⟨ha1, ha2, ha3⟩, ⟨hp1, hp2, hp3⟩, hb1, hb2, hb3⟩, _⟩ := id hR
  exact yX_planned 43 hX (gG_21 hX) hp1 hp3 hh a b fun m1 hs1 => ⟨_, rfl, yM_planned 41 (vM_5 hM hs1) (rM_sm hp2 hs1 (by unfold hP5; omega) (by unfold hP5; omega) (by unfold hP5; omega) (by unfold hP5; omega)) hp3 hh a b fun m2 hs2 => ⟨_, rfl, rfl, hQ m2 (Rel_q hR (zsm_tr (zsm_mo h5q hs1) (zsm_mo mPq hs2)))⟩⟩
theorem ok_says {m : zM} (hR : Rel m) (a : Int32) (b : Int32) : okI m_Box_says m_Mod_says [.int a, .int b] m := by
  intro Q hQ
  obtain ⟨V, S, R, B, gc, gs, n, tx, ⟨hX, hM, hh, _, _⟩, _⟩ := id hR
  exact yX_says 46 hX a b ⟨_, rfl, yM_says 45 hM a b ⟨_, rfl, rfl, hQ m hR⟩⟩
theorem ok_told {m : zM} (hR : Rel m) (a : Int32) : okI m_Box_told m_Mod_told [.int a] m := by
  intro Q hQ
  obtain ⟨V, S, R, B, gc, gs, n, tx, ⟨hX, hM, hh, _, _⟩, _⟩ := id hR
  exact yX_told 48 hX a ⟨_, rfl, yM_told 46 hM a ⟨_, rfl, rfl, hQ m hR⟩⟩
