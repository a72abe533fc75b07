/-! the reference reads a test, and the tests of a clause (gen81.py) -/
section
variable {m0 m : zM} {g c n a : Nat} {tx : Nat → Nat} {H : zG} {W : List Nat}
theorem y_place1 (d : Nat) {Q : zQ} {m : zM} {t : Nat} (ht : t < 128) (h : Q (some (.int (if pLt t < 6 then nI (pLt t) else -1))) m) : zCall (d + 1) m_Mod_place [.ref 113, .int (nI t)] m Q := by
  refine en_Mod_place d _ m (sg_Mod_place_0 (zCall_m d) _ m ?_)
  by_cases z100 : t = 100
  · subst z100; exact ip rfl h
  refine iq (nI_ne (b := 100) (by omega) (by omega) z100) ?_
  by_cases z101 : t = 101
  · subst z101; exact ip rfl h
  refine iq (nI_ne (b := 101) (by omega) (by omega) z101) ?_
  by_cases z102 : t = 102
  · subst z102; exact ip rfl h
  refine iq (nI_ne (b := 102) (by omega) (by omega) z102) ?_
  by_cases z103 : t = 103
  · subst z103; exact ip rfl h
  refine iq (nI_ne (b := 103) (by omega) (by omega) z103) ?_
  by_cases z104 : t = 104
  · subst z104; exact ip rfl h
  refine iq (nI_ne (b := 104) (by omega) (by omega) z104) ?_
  by_cases z105 : t = 105
  · subst z105; exact ip rfl h
  refine iq (nI_ne (b := 105) (by omega) (by omega) z105) ?_
  by_cases z106 : t = 106
  · subst z106; exact ip rfl h
  refine iq (nI_ne (b := 106) (by omega) (by omega) z106) ?_
  by_cases z107 : t = 107
  · subst z107; exact ip rfl h
  refine iq (nI_ne (b := 107) (by omega) (by omega) z107) ?_
  by_cases z108 : t = 108
  · subst z108; exact ip rfl h
  refine iq (nI_ne (b := 108) (by omega) (by omega) z108) ?_
  by_cases z109 : t = 109
  · subst z109; exact ip rfl h
  refine iq (nI_ne (b := 109) (by omega) (by omega) z109) ?_
  by_cases z110 : t = 110
  · subst z110; exact ip rfl h
  refine iq (nI_ne (b := 110) (by omega) (by omega) z110) ?_
  by_cases z111 : t = 111
  · subst z111; exact ip rfl h
  refine iq (nI_ne (b := 111) (by omega) (by omega) z111) ?_
  by_cases z112 : t = 112
  · subst z112; exact ip rfl h
  refine iq (nI_ne (b := 112) (by omega) (by omega) z112) ?_
  by_cases z113 : t = 113
  · subst z113; exact ip rfl h
  refine iq (nI_ne (b := 113) (by omega) (by omega) z113) ?_
  by_cases z114 : t = 114
  · subst z114; exact ip rfl h
  refine iq (nI_ne (b := 114) (by omega) (by omega) z114) ?_
  by_cases z115 : t = 115
  · subst z115; exact ip rfl h
  refine iq (nI_ne (b := 115) (by omega) (by omega) z115) ?_
  by_cases z116 : t = 116
  · subst z116; exact ip rfl h
  refine iq (nI_ne (b := 116) (by omega) (by omega) z116) ?_
  by_cases z117 : t = 117
  · subst z117; exact ip rfl h
  refine iq (nI_ne (b := 117) (by omega) (by omega) z117) ?_
  by_cases z118 : t = 118
  · subst z118; exact ip rfl h
  refine iq (nI_ne (b := 118) (by omega) (by omega) z118) ?_
  rw [show pLt t = 6 from by unfold pLt; rw [if_neg z112, if_neg z107, if_neg z118, if_neg z116, if_neg z104, if_neg z100]] at h
  exact h
theorem y_placeN (d : Nat) {Q : zQ} {m : zM} (h : Q (some (.int (-1))) m) : zCall (d + 1) m_Mod_place [.ref 113, .int (-1)] m Q := by
  refine en_Mod_place d _ m (sg_Mod_place_0 (zCall_m d) _ m ?_)
  refine iq (by decide) ?_
  refine iq (by decide) ?_
  refine iq (by decide) ?_
  refine iq (by decide) ?_
  refine iq (by decide) ?_
  refine iq (by decide) ?_
  refine iq (by decide) ?_
  refine iq (by decide) ?_
  refine iq (by decide) ?_
  refine iq (by decide) ?_
  refine iq (by decide) ?_
  refine iq (by decide) ?_
  refine iq (by decide) ?_
  refine iq (by decide) ?_
  refine iq (by decide) ?_
  refine iq (by decide) ?_
  refine iq (by decide) ?_
  refine iq (by decide) ?_
  refine iq (by decide) ?_
  exact h
theorem y_testM (d : Nat) {Q : zQ} (hg : g < 6) (hv : mGv m0 n tx) {H0 : zG} (h1 : 1 ≤ gN H0) {o : List Nat} (h : mSt m0 g c (gPs H0 o) W a m) (ha : a ≤ n) (hw : pWl W) (hb : gU H0 + o.length + W.length ≤ a)
    (hQ1 : ∀ x e m', pTest tx n a = (some x, e) → mSt m0 g c (gPs H0 (mWh W (o ++ x)).2) (mWh W (o ++ x)).1 e m' → Q (some (.int 1)) m') (hQ2 : ∀ e m', pTest tx n a = (none, e) → mSt m0 g c (gPs H0 o) W e m' → Q (some (.int 0)) m') : zCall (d + 4) m_Mod_takesTest [.ref 113] m Q := by
  have hn := hv.1
  obtain ⟨h9, h8⟩ := mSt_9 h.1
  unfold pTest at hQ1 hQ2
  refine en_Mod_takesTest (d + 3) m (sg_Mod_takesTest_0 (zCall_m _) m (y_nextM (d + 2) hv h9 h8 h.2.1 ha ⟨_, rfl, ?_⟩))
  by_cases q : a < n ∧ pLt (tx a) < 6
  · rw [if_pos q] at hQ1 hQ2
    rw [show nx tx n a = nI (tx a) from if_pos q.1]
    refine y_place1 (d + 2) (hv.2.2 a q.1).2 ⟨_, rfl, ?_⟩
    rw [if_pos q.2]
    refine ip (nI_pos' (by omega)) ?_
    rw [h.2.1, nI_1]
    have h2 := mSt_at h (a + 1)
    generalize sI m 113 10 (nI (a + 1)) = m2 at h2
    obtain ⟨i9, i8⟩ := mSt_9 h2.1
    refine y_nextM (d + 2) hv i9 i8 h2.2.1 (by omega) ⟨_, rfl, y_inM (d + 2) hv 60 62 (by omega) (by omega) ⟨_, rfl, ?_⟩⟩
    by_cases r : a + 1 < n ∧ 60 ≤ tx (a + 1) ∧ tx (a + 1) ≤ 62
    · rw [if_pos r] at hQ1 hQ2
      rw [decide_eq_true r]
      refine ip (by decide) ?_
      rw [h2.2.1, nI_1, show nx tx n (a + 1) = nI (tx (a + 1)) from if_pos r.1]
      have h3 := mSt_at h2 (a + 1 + 1)
      generalize sI m2 113 10 (nI (a + 1 + 1)) = m3 at h3
      obtain ⟨j9, j8⟩ := mSt_9 h3.1
      have hpb := pNum_b (tx := tx) (n := n) (a := a + 1 + 1) (by omega)
      have hx2 : pNum tx n (a + 2) = pNum tx n (a + 1 + 1) := rfl
      rw [hx2] at hQ1 hQ2
      refine y_numM d hv j9 j8 h3.2.1 (by omega) (fun m4 v e hx hf k10 k11 => ⟨_, rfl, ip (by decide) ?_⟩) (fun hx => ⟨_, rfl, iq (by decide) ⟨by decide, ?_⟩⟩)
      · rw [hx] at hQ1
        have h4 := mSt_n h3 hf k10
        obtain ⟨b1, b2, b3⟩ := hpb _ _ hx
        have b4 := b3 v rfl
        have es : (1000 : Int32) * nI (pLt (tx a)) + (100 : Int32) * (nI (tx (a + 1)) - 60) + gI m4 113 11 = cM (300 * pLt (tx a) + 100 * (tx (a + 1) - 60) + v) := by
          have := q.2
          unfold cM
          rw [if_pos (by omega), k11, show (60 : Int32) = nI 60 from rfl, pk_sub (by omega), show (1000 : Int32) = nI 1000 from rfl, show (100 : Int32) = nI 100 from rfl, pk_mul, pk_mul, nI_add, nI_add]
          congr 1
          omega
        rw [es]
        have gl : gU (gPs H0 o) = gU H0 + o.length := gPs_U o H0 h1
        refine y_emitsM (d + 2) hg h4 (by rw [(gPs_N o H0).1]; exact h1) (by omega) _ (fun m5 h5 => ⟨rfl, y_wholeM (d + 1) (H0 := H0) (o := o ++ [300 * pLt (tx a) + 100 * (tx (a + 1) - 60) + v]) hg h1 (by rw [gPs_app]; exact h5) hw (by rw [List.length_append, List.length_singleton]; omega) (fun m6 h6 => ⟨rfl, by decide, hQ1 _ _ m6 rfl h6⟩)⟩)
      · rw [hx] at hQ2
        exact hQ2 _ m3 rfl h3
    · rw [if_neg r] at hQ2
      rw [decide_eq_false r]
      exact iq (by decide) ⟨by decide, hQ2 _ m2 rfl h2⟩
  · rw [if_neg q] at hQ2
    by_cases q1 : a < n
    · rw [show nx tx n a = nI (tx a) from if_pos q1]
      refine y_place1 (d + 2) (hv.2.2 a q1).2 ⟨_, rfl, ?_⟩
      rw [if_neg (fun z => q ⟨q1, z⟩)]
      exact iq (by decide) ⟨by decide, hQ2 _ m rfl h⟩
    · rw [show nx tx n a = -1 from if_neg q1]
      exact y_placeN (d + 2) ⟨_, rfl, iq (by decide) ⟨by decide, hQ2 _ m rfl h⟩⟩
theorem mWh_l : ∀ (W o : List Nat), (mWh W o).1.length + (mWh W o).2.length = W.length + o.length ∧ (pWl W → pWl (mWh W o).1)
  | [], o => ⟨rfl, fun h => h⟩
  | k :: W, o => by
    unfold mWh
    split
    · obtain ⟨x, y⟩ := mWh_l W (o ++ [1800])
      exact ⟨by simp only [List.length_append, List.length_cons, List.length_nil] at x ⊢; omega, fun h => y (pWl_t h)⟩
    · exact ⟨rfl, fun h => h⟩
theorem mSet_l (s : Nat) : ∀ (W o : List Nat), (mSet s W o).1.length + (mSet s W o).2.length = W.length + o.length ∧ (pWl W → pWl (mSet s W o).1) ∧ mOp (mSet s W o).1 = mOp W ∧ (s = 124 → ∀ k W2, (mSet s W o).1 = k :: W2 → k ≠ 38 ∧ k ≠ 124)
  | [], o => ⟨rfl, fun h => h, rfl, fun _ k W2 z => by cases z⟩
  | k :: W, o => by
    unfold mSet
    by_cases q : k = 38
    · rw [if_pos q]
      obtain ⟨x, y, z, t⟩ := mSet_l s W (o ++ [1801])
      exact ⟨by simp only [List.length_append, List.length_cons, List.length_nil] at x ⊢; omega, fun h => y (pWl_t h), by rw [z, q]; exact (Nat.zero_add _).symm, t⟩
    · rw [if_neg q]
      by_cases q2 : k = 124
      · rw [if_pos q2]
        by_cases q3 : s = 38
        · rw [if_pos q3]
          exact ⟨rfl, fun h => h, rfl, fun z => by omega⟩
        · rw [if_neg q3]
          obtain ⟨x, y, z, t⟩ := mSet_l s W (o ++ [1802])
          exact ⟨by simp only [List.length_append, List.length_cons, List.length_nil] at x ⊢; omega, fun h => y (pWl_t h), by rw [z, q2]; exact (Nat.zero_add _).symm, t⟩
      · rw [if_neg q2]
        exact ⟨rfl, fun h => h, rfl, fun _ k2 W2 z => by cases z; exact ⟨q, q2⟩⟩
theorem mOp_l : ∀ W : List Nat, mOp W ≤ W.length
  | [] => Nat.le_refl _
  | k :: W => by
    have := mOp_l W
    show (if k = 33 ∨ k = 40 then 1 else 0) + mOp W ≤ W.length + 1
    split <;> omega
theorem mSt_to (h : mSt m0 g c H W a m) (x : Int32) : mSt m0 g c H W a (sI m 123 c x) := by
  obtain ⟨f, h10, h21, hp, h22, h20, hc⟩ := h
  exact ⟨mFe_t f x, by rw [gIs, if_neg (by omega)]; exact h10, by rw [gIs, if_neg (by omega)]; exact h21, pil_sI (by omega) hp, by rw [gIs, if_neg (by omega)]; exact h22, by rw [gIs, if_neg (by omega)]; exact h20, fun j hj => by rw [gIs, if_neg (by omega)]; exact hc j hj⟩
/-- what the tests of a clause leave -/
def eDone (m0 : zM) (g c n : Nat) (H0 : zG) (e : Nat) (m : zM) : Option (List Nat) → Prop
  | some o => mSt m0 g c (gPs H0 o) [] e m ∧ gI m 123 c = nI (100 * g + gU (gPs H0 o))
  | none => ∃ H W, mSt m0 g c H W e m
theorem y_takesEL (d : Nat) {Q : zQ} (hg : g < 6) (hv : mGv m0 n tx) {H0 : zG} (h1 : 1 ≤ gN H0) (hc : c < 60) {res : Option (List Nat)} {e : Nat} (hQ : ∀ m', eDone m0 g c n H0 e m' res → Q (some (.int (zb res.isSome))) m') :
    ∀ (k : Nat) (b : Bool) (W : List Nat) (a : Nat) (o : List Nat) (m : zM), mR tx n k b W a o res e → mSt m0 g c (gPs H0 o) W a m → a ≤ n → pWl W → gU H0 + o.length + W.length ≤ a → zRun (zCall (d + 4)) 9 (some .boolean) zc_Mod_takesE Q 22 [.ref 113, .int (nI c), .int (zb b), .retAddr 0] [] m
  | 0, _, _, _, _, _, hR, _, _, _, _ => hR.elim
  | k + 1, true, W, a, o, m, hR, h, ha, hw, hb => by
    have hn := hv.1
    obtain ⟨h9, h8⟩ := mSt_9 h.1
    have wk : ∀ {x y : Int32} {m' : zM}, zRun (zCall (d + 4)) 9 (some .boolean) zc_Mod_takesE Q 22 [.ref 113, .int (nI c), .int x, .retAddr 0] [] m' → zRun (zCall (d + 4)) 9 (some .boolean) zc_Mod_takesE Q 22 [.ref 113, .int (nI c), .int x, .int y] [] m' := fun hz =>
      zRun_le (zCall_m _) (by repeat (first | exact zle_nil | apply zle_same | apply zle_new _ rfl)) hz
    have hol := mOp_l W
    refine sg_Mod_takesE_22 (zCall_m _) _ _ m (y_nextM (d + 3) hv h9 h8 h.2.1 ha ⟨_, rfl, iq (by decide) ?_⟩)
    have opn : ∀ t, (t = 33 ∨ t = 40) → pI tx n t a = true → mOp W ≠ 4 → mR tx n k true (t :: W) (a + 1) o res e → vp_in (gI (sI m 113 22 ((gI m 113 22) + (1 : Int32))) 113 21) 101 ∧ (zRun (zCall (d + 4)) 9 (some .boolean) zc_Mod_takesE Q 22 [.ref 113, .int (nI c), .int (zb true), .int (nx tx n a)] [] (sI (sI (sI (sI m 113 22 ((gI m 113 22) + (1 : Int32))) 125 (gI (sI m 113 22 ((gI m 113 22) + (1 : Int32))) 113 21).toNatClampNeg (nx tx n a)) 113 21 ((gI (sI (sI m 113 22 ((gI m 113 22) + (1 : Int32))) 125 (gI (sI m 113 22 ((gI m 113 22) + (1 : Int32))) 113 21).toNatClampNeg (nx tx n a)) 113 21) + (1 : Int32))) 113 10 ((gI (sI (sI (sI m 113 22 ((gI m 113 22) + (1 : Int32))) 125 (gI (sI m 113 22 ((gI m 113 22) + (1 : Int32))) 113 21).toNatClampNeg (nx tx n a)) 113 21 ((gI (sI (sI m 113 22 ((gI m 113 22) + (1 : Int32))) 125 (gI (sI m 113 22 ((gI m 113 22) + (1 : Int32))) 113 21).toNatClampNeg (nx tx n a)) 113 21) + (1 : Int32))) 113 10) + (1 : Int32)))) := by
      intro t ht hp h4 hr
      have hpa := (pI_t.mp hp).1
      have f1 : gI (sI m 113 22 ((gI m 113 22) + (1 : Int32))) 113 21 = nI W.length := by rw [gIs, if_neg (by omega)]; exact h.2.2.1
      have f3 : (nI W.length).toNatClampNeg = W.length := nI_clamp (by omega)
      rw [f1, f3, (nx_c hv (by omega) a).mpr hp, h.2.2.2.2.1, nI_1]
      have f2 : gI (sI (sI m 113 22 (nI (mOp W + 1))) 125 W.length (nI t)) 113 21 = nI W.length := by rw [gIs, if_neg (by omega), gIs, if_neg (by omega)]; exact h.2.2.1
      rw [f2, nI_1]
      have h2 := mSt_psO h ht
      rw [h2.2.1, nI_1]
      have h3 := mSt_at h2 (a + 1)
      exact ⟨vp_in_nI (by omega) (by omega), wk (y_takesEL d hg hv h1 hc hQ k true (t :: W) (a + 1) o _ hr h3 (by omega) (fun j hj => (List.mem_cons.mp hj).elim (fun z => by rcases ht with r | r <;> omega) (fun z => hw j z)) (by rw [List.length_cons]; omega))⟩
    have ful : mOp W = 4 → gI m 113 22 = 4 := fun z => by rw [h.2.2.2.2.1, z]; rfl
    have nful : mOp W ≠ 4 → ¬ gI m 113 22 = 4 := fun z => by rw [h.2.2.2.2.1]; exact nI_ne (b := 4) (by omega) (by omega) z
    unfold mR at hR
    by_cases q : pI tx n 33 a = true
    · rw [if_pos q] at hR
      refine ip ((nx_c hv (k := 33) (by omega) a).mpr q) ?_
      by_cases q4 : mOp W = 4
      · rw [if_pos q4] at hR
        obtain ⟨r1, r2⟩ := hR
        rw [r1, r2] at hQ
        exact iq (fun z => z (ful q4)) ⟨by decide, hQ m ⟨_, _, h⟩⟩
      · rw [if_neg q4] at hR
        exact ip (nful q4) (opn 33 (Or.inl rfl) q q4 hR)
    · rw [if_neg q] at hR
      refine iq (fun z => q ((nx_c hv (by omega) a).mp z)) ?_
      by_cases q2 : pI tx n 40 a = true
      · rw [if_pos q2] at hR
        refine iq (fun z => z ((nx_c hv (k := 40) (by omega) a).mpr q2)) ?_
        by_cases q4 : mOp W = 4
        · rw [if_pos q4] at hR
          obtain ⟨r1, r2⟩ := hR
          rw [r1, r2] at hQ
          exact iq (fun z => z (ful q4)) ⟨by decide, hQ m ⟨_, _, h⟩⟩
        · rw [if_neg q4] at hR
          exact ip (nful q4) (opn 40 (Or.inr rfl) q2 q4 hR)
      · rw [if_neg q2] at hR
        have hpb := pTest_b (tx := tx) ha
        refine ip (fun z => q2 ((nx_c hv (by omega) a).mp z)) (y_testM d hg hv h1 h ha hw hb (fun x e1 m2 hx h2 => ⟨_, rfl, iq (by decide) ?_⟩) (fun e1 m2 hx h2 => ⟨_, rfl, ip rfl ⟨by decide, ?_⟩⟩))
        · rw [hx] at hR
          obtain ⟨s, s1, s2, s3⟩ := hpb.2 x e1 hx
          have hb2 := hpb.1
          rw [hx] at hb2
          obtain ⟨b1, b2, b3⟩ := hb2
          subst s2
          have hl := mWh_l W (o ++ [s])
          rw [List.length_append, List.length_singleton] at hl
          exact wk (y_takesEL d hg hv h1 hc hQ k false _ e1 _ m2 hR h2 b2 (hl.2 hw) (by omega))
        · rw [hx] at hR
          obtain ⟨r1, r2⟩ := hR
          rw [r1, r2] at hQ
          exact hQ m2 ⟨_, _, h2⟩
  | k + 1, false, W, a, o, m, hR, h, ha, hw, hb => by
    have hn := hv.1
    obtain ⟨h9, h8⟩ := mSt_9 h.1
    have wk : ∀ {x y : Int32} {m' : zM}, zRun (zCall (d + 4)) 9 (some .boolean) zc_Mod_takesE Q 22 [.ref 113, .int (nI c), .int x, .retAddr 0] [] m' → zRun (zCall (d + 4)) 9 (some .boolean) zc_Mod_takesE Q 22 [.ref 113, .int (nI c), .int x, .int y] [] m' := fun hz =>
      zRun_le (zCall_m _) (by repeat (first | exact zle_nil | apply zle_same | apply zle_new _ rfl)) hz
    refine sg_Mod_takesE_22 (zCall_m _) _ _ m (y_nextM (d + 3) hv h9 h8 h.2.1 ha ⟨_, rfl, ip (by decide) ?_⟩)
    have snd : ∀ s, (s = 38 ∨ s = 124) → pI tx n s a = true → mR tx n k true (s :: (mSet s W o).1) (a + 1) (mSet s W o).2 res e → zCall (d + 4) m_Mod_settle [.ref 113, .int (nx tx n a)] m (fun o4 m5 => o4 = none ∧ (vp_in (gI m5 113 21) 101 ∧ (zRun (zCall (d + 4)) 9 (some .boolean) zc_Mod_takesE Q 22 [.ref 113, .int (nI c), .int (1 : Int32), .int (nx tx n a)] [] (sI (sI (sI m5 125 (gI m5 113 21).toNatClampNeg (nx tx n a)) 113 21 ((gI (sI m5 125 (gI m5 113 21).toNatClampNeg (nx tx n a)) 113 21) + (1 : Int32))) 113 10 ((gI (sI (sI m5 125 (gI m5 113 21).toNatClampNeg (nx tx n a)) 113 21 ((gI (sI m5 125 (gI m5 113 21).toNatClampNeg (nx tx n a)) 113 21) + (1 : Int32))) 113 10) + (1 : Int32)))))) := by
      intro s hs hp hr
      have hpa := (pI_t.mp hp).1
      rw [(nx_c hv (by omega) a).mpr hp]
      have hl := mSet_l s W o
      refine y_settleM (d + 2) hg h1 hs h hw (by omega) (fun m5 h5 => ⟨rfl, ?_⟩)
      have f2 : gI (sI m5 125 (mSet s W o).1.length (nI s)) 113 21 = nI (mSet s W o).1.length := by rw [gIs, if_neg (by omega)]; exact h5.2.2.1
      rw [h5.2.2.1, nI_clamp (by omega), f2, nI_1]
      have h6 := mSt_psh h5 (k := s) (by omega)
      rw [h6.2.1, nI_1]
      have h7 := mSt_at h6 (a + 1)
      exact ⟨vp_in_nI (by omega) (by omega), wk (y_takesEL d hg hv h1 hc hQ k true _ (a + 1) _ _ hr h7 (by omega) (fun j hj => (List.mem_cons.mp hj).elim (fun z => by rcases hs with r | r <;> omega) (fun z => hl.2.1 hw j z)) (by rw [List.length_cons]; omega))⟩
    unfold mR at hR
    by_cases q : pI tx n 38 a = true
    · rw [if_pos q] at hR
      exact ip ((nx_c hv (k := 38) (by omega) a).mpr q) (snd 38 (Or.inl rfl) q hR)
    · rw [if_neg q] at hR
      refine iq (fun z => q ((nx_c hv (by omega) a).mp z)) ?_
      by_cases q2 : pI tx n 124 a = true
      · rw [if_pos q2] at hR
        exact iq (fun z => z ((nx_c hv (k := 124) (by omega) a).mpr q2)) (snd 124 (Or.inr rfl) q2 hR)
      · rw [if_neg q2] at hR
        have hl := mSet_l 124 W o
        refine ip (fun z => q2 ((nx_c hv (by omega) a).mp z)) (y_settleM (s := 124) (d + 2) hg h1 (Or.inr rfl) h hw (by omega) (fun m7 h7 => ⟨rfl, vp_in_nI hc (by omega), ?_⟩))
        rw [nI_clamp (by omega)]
        have f0 : gI m7 113 20 = nI (100 * g + gU (gPs H0 (mSet 124 W o).2)) := h7.2.2.2.2.2.1
        have h8 := mSt_to h7 (gI m7 113 20)
        have f1 : gI (sI m7 123 c (gI m7 113 20)) 123 c = nI (100 * g + gU (gPs H0 (mSet 124 W o).2)) := by rw [gIs, if_pos ⟨rfl, rfl⟩]; exact f0
        generalize sI m7 123 c (gI m7 113 20) = m8 at h8 f1
        rcases hS : (mSet 124 W o).1 with _ | ⟨t, W2⟩
        · rw [hS] at h8 hR
          obtain ⟨r1, r2⟩ := hR
          rw [r1, r2] at hQ
          exact iq (fun z => z h8.2.2.1) ⟨by decide, hQ m8 ⟨h8, f1⟩⟩
        · rw [hS] at h8 hR hl
          obtain ⟨l1, l2, l3, l4⟩ := hl
          have t1 := l4 rfl t W2 rfl
          have t2 := pWl_h (l2 hw)
          rw [List.length_cons] at l1
          have k21 : gI m8 113 21 = nI (W2.length + 1) := h8.2.2.1
          refine ip (by rw [k21]; exact nI_ne (b := 0) (by omega) (by omega) (by omega)) ?_
          dsimp only at hR
          by_cases q3 : pI tx n 41 a = true
          · rw [if_pos q3] at hR
            have hpa := (pI_t.mp q3).1
            have k22 : gI m8 113 22 = nI (1 + mOp W2) := by
              rw [h8.2.2.2.2.1]
              show nI ((if t = 33 ∨ t = 40 then 1 else 0) + mOp W2) = _
              rw [if_pos (by omega)]
            refine ip ((nx_c hv (k := 41) (by omega) a).mpr q3) ?_
            rw [k21, nI_n1]
            have k22b : gI (sI m8 113 21 (nI W2.length)) 113 22 = nI (mOp W2 + 1) := by rw [gIs, if_neg (by omega), k22, Nat.add_comm]
            rw [k22b, nI_n1]
            have h9 := mSt_w h8 h8.2.2.2.1.2
            rw [h9.2.1, nI_1]
            have h10 := mSt_at h9 (a + 1)
            have l5 := mWh_l W2 (mSet 124 W o).2
            refine y_wholeM (d + 2) hg h1 h10 (pWl_t (l2 hw)) (by omega) (fun m11 h11 => ⟨rfl, wk (y_takesEL d hg hv h1 hc hQ k false _ (a + 1) _ m11 hR h11 (by omega) (l5.2 (pWl_t (l2 hw))) (by omega))⟩)
          · rw [if_neg q3] at hR
            obtain ⟨r1, r2⟩ := hR
            rw [r1, r2] at hQ
            exact iq (fun z => q3 ((nx_c hv (by omega) a).mp z)) ⟨by decide, hQ m8 ⟨_, _, h8⟩⟩
end
