/-! the class reads a clause, and a text (gen78.py) -/
theorem pSk_app (tx : Nat → Nat) (n c : Nat) : ∀ (l : List Nat) (a : Nat), pSk tx n (l ++ [c]) a = if (pSk tx n l a).1 = true then (if pI tx n c (pSk tx n l a).2 = true then (true, (pSk tx n l a).2 + 1) else (false, (pSk tx n l a).2)) else (false, (pSk tx n l a).2)
  | [], a => rfl
  | b :: r, a => by
    show (if pI tx n b a = true then pSk tx n (r ++ [c]) (a + 1) else (false, a)) = _
    by_cases q : pI tx n b a = true
    · rw [if_pos q, pSk_app tx n c r (a + 1), show pSk tx n (b :: r) a = pSk tx n r (a + 1) from if_pos q]
    · rw [if_neg q, show pSk tx n (b :: r) a = (false, a) from if_neg q]
      rfl
theorem gI_beg (p : Nat) (m : zM) (c u w v q k : Nat) : gI (begM p m c u w v) q k = if w = 2 ∧ q = p ∧ k = 0 then nI v else if w = 3 ∧ q = p ∧ k = 1 then nI v else if q = p ∧ k = 2 then nI (c + 1) else if q = p + 3 ∧ k = c then nI u else if q = p + 2 ∧ k = c then nI v else if q = p + 1 ∧ k = c then nI w else gI m q k := by
  by_cases h2 : w = 2
  · subst h2
    simp only [begM, true_and, Nat.reduceEqDiff, false_and, if_false, gIs, reduceIte]
  · by_cases h3 : w = 3
    · subst h3
      simp only [begM, true_and, Nat.reduceEqDiff, false_and, if_false, gIs, reduceIte]
    · simp only [begM, h2, h3, false_and, if_false, gIs, reduceIte]
theorem gL_beg (p : Nat) (m : zM) (c u w v : Nat) : (∀ q k, gL (begM p m c u w v) q k = gL m q k) ∧ ∀ q, gG (begM p m c u w v) q = gG m q := by
  unfold begM
  dsimp only
  constructor
  · intro q k
    split
    · rfl
    · split <;> rfl
  · intro q
    split
    · rfl
    · split <;> rfl
theorem gLo_B1 (G : zG) (w v x : Nat) : gLo (gBg G w v) x (gN G + 1) = if w = x then some v else gLo G x (gN G) := by
  show (if gWd (gBg G w v) (gN G) = x then some (gNu (gBg G w v) (gN G)) else gLo (gBg G w v) x (gN G)) = _
  rw [show gWd (gBg G w v) (gN G) = w from up_s _ _ _, show gNu (gBg G w v) (gN G) = v from up_s _ _ _, gLo_Bg G w v x _ (Nat.le_refl _)]
section
variable {m0 : zM} {g n : Nat} {tx : Nat → Nat} {G : zG} {a : Nat} {m : zM}
theorem cRd_beg (h : cRd m0 g n a G m) (hN : gN G < 10) (hg : g < 6) (w v : Nat) : cRd m0 g n a (gBg G w v) (begM (58 + 5 * g) m (gN G) (gU G) w v) := by
  obtain ⟨a1, a2, a3, a4, ⟨x1, x2, x3, x4⟩, a6, a7, a8, a9⟩ := h
  have hs : zsm (rdP g) m (begM (58 + 5 * g) m (gN G) (gU G) w v) := fun q hq => by
    unfold rdP at hq
    refine ⟨fun k => ?_, fun k => (gL_beg _ _ _ _ _ _).1 q k, (gL_beg _ _ _ _ _ _).2 q⟩
    rw [gI_beg, if_neg (by omega), if_neg (by omega), if_neg (by omega), if_neg (by omega), if_neg (by omega), if_neg (by omega)]
  refine ⟨zsm_tr a1 hs, ?_, ?_, ?_, ⟨?_, ?_, ?_, fun k hk => ?_⟩, ?_, gMn_Bg a7 w v, hN, by rw [gU_Bg]; exact a9⟩
  · rw [gI_beg, if_neg (by omega), if_neg (by omega), if_neg (by omega), if_neg (by omega), if_neg (by omega), if_neg (by omega)]; exact a2
  · rw [gI_beg, if_neg (by omega), if_neg (by omega), if_neg (by omega), if_neg (by omega), if_neg (by omega), if_neg (by omega)]; exact a3
  · rw [(gL_beg _ _ _ _ _ _).2]; exact a4
  · rw [gI_beg, if_neg (by omega), if_neg (by omega), if_pos ⟨rfl, rfl⟩]; rfl
  · show _ = gLc (gLo (gBg G w v) 2 (gN G + 1))
    rw [gLo_B1, gI_beg]
    by_cases q : w = 2
    · rw [if_pos ⟨q, rfl, rfl⟩, if_pos q]; rfl
    · rw [if_neg (fun z => q z.1), if_neg (by omega), if_neg (by omega), if_neg (by omega), if_neg (by omega), if_neg (by omega), if_neg q]; exact x2
  · show _ = gLc (gLo (gBg G w v) 3 (gN G + 1))
    rw [gLo_B1, gI_beg, if_neg (by omega)]
    by_cases q : w = 3
    · rw [if_pos ⟨q, rfl, rfl⟩, if_pos q]; rfl
    · rw [if_neg (fun z => q z.1), if_neg (by omega), if_neg (by omega), if_neg (by omega), if_neg (by omega), if_neg q]; exact x3
  · have hk : k < gN G + 1 := hk
    show _ = nI (up (gWd G) (gN G) w k) ∧ _ = nI (up (gNu G) (gN G) v k) ∧ _ = nI (up (gEn G) (gN G) (gU G) k) ∧ ∀ j, j < up (gEn G) (gN G) (gU G) k → _ = cX (gCo G j)
    have e4 : ∀ j, gI (begM (58 + 5 * g) m (gN G) (gU G) w v) (58 + 5 * g + 4) j = gI m (58 + 5 * g + 4) j := fun j => by
      rw [gI_beg, if_neg (by omega), if_neg (by omega), if_neg (by omega), if_neg (by omega), if_neg (by omega), if_neg (by omega)]
    by_cases q : k = gN G
    · subst q
      rw [up_s, up_s, up_s]
      refine ⟨?_, ?_, ?_, fun j hj => ?_⟩
      · rw [gI_beg, if_neg (by omega), if_neg (by omega), if_neg (by omega), if_neg (by omega), if_neg (by omega), if_pos ⟨rfl, rfl⟩]
      · rw [gI_beg, if_neg (by omega), if_neg (by omega), if_neg (by omega), if_neg (by omega), if_pos ⟨rfl, rfl⟩]
      · rw [gI_beg, if_neg (by omega), if_neg (by omega), if_neg (by omega), if_pos ⟨rfl, rfl⟩]
      · rw [e4]
        have h1 : 1 ≤ gN G := by
          rcases Nat.eq_zero_or_pos (gN G) with z | z
          · unfold gU at hj; rw [z] at hj; exact absurd hj (Nat.not_lt_zero _)
          · exact z
        rw [gU_L h1] at hj
        exact (x4 _ (by omega)).2.2.2 j hj
    · obtain ⟨y1, y2, y3, y4⟩ := x4 k (by omega)
      rw [up_n _ q, up_n _ q, up_n _ q]
      refine ⟨?_, ?_, ?_, fun j hj => by rw [e4]; exact y4 j hj⟩
      · rw [gI_beg, if_neg (by omega), if_neg (by omega), if_neg (by omega), if_neg (by omega), if_neg (by omega), if_neg (by omega)]; exact y1
      · rw [gI_beg, if_neg (by omega), if_neg (by omega), if_neg (by omega), if_neg (by omega), if_neg (by omega), if_neg (by omega)]; exact y2
      · rw [gI_beg, if_neg (by omega), if_neg (by omega), if_neg (by omega), if_neg (by omega), if_neg (by omega), if_neg (by omega)]; exact y3
  · rw [gI_beg, if_neg (by omega), if_neg (by omega), if_neg (by omega), if_neg (by omega), if_neg (by omega), if_neg (by omega), gU_Bg]; exact a6
theorem y_begC (d : Nat) {Q : zQ} (hg : g < 6) (h : cRd m0 g n a G m) (hN : gN G < 10) {w : Nat} (hw : w ≤ 3) (v : Nat) (hQ : ∀ m', cRd m0 g n a (gBg G w v) m' → Q none m') : zCall (d + 1) m_Garden_begin [.ref (58 + 5 * g), .int (nI w), .int (nI v)] m Q :=
  y_beginG d hg h.2.2.2.2.1.1 hN h.2.2.2.2.2.1 hw v (hQ _ (cRd_beg h hN hg w v))
def cDoneC (m0 : zM) (g n : Nat) (G : zG) (m : zM) : zCl → Prop
  | (some (w, v, x), e) => cRd m0 g n e (gPs (gBg G w v) x) m
  | (none, e) => ∃ G', cRd m0 g n e G' m
theorem y_wordC (d : Nat) {Q : zQ} (hg : g < 6) (hv : rGv m0 n tx) (h : cRd m0 g n a G m) (ha : a ≤ n) {w : Nat} (hw : w ≤ 3) (hQ : ∀ m', cRd m0 g n (pSk tx n (pSp w) a).2 G m' → Q (some (.int (zb (pSk tx n (pSp w) a).1))) m') : zCall (d + 5) m_Reader_spelled [.int (nI w)] m (fun o7 m8 => ∃ r9, o7 = some (.ref r9) ∧ zCall (d + 5) m_Reader_skipsAll [.ref 88, .ref r9] m8 Q) := by
  refine en_Reader_spelled (d + 4) _ m (sg_Reader_spelled_0 (zCall_m _) _ m ?_)
  rcases (show w = 0 ∨ w = 1 ∨ w = 2 ∨ w = 3 by omega) with rfl | rfl | rfl | rfl
  · exact ip rfl ⟨_, rfl, y_skC_7 d hg hv h ha hQ⟩
  · exact iq (by decide) (ip rfl ⟨_, rfl, y_skC_8 d hg hv h ha hQ⟩)
  · exact iq (by decide) (iq (by decide) (ip rfl ⟨_, rfl, y_skC_9 d hg hv h ha hQ⟩))
  · exact iq (by decide) (iq (by decide) (iq (by decide) ⟨_, rfl, y_skC_10 d hg hv h ha hQ⟩))
theorem y_clauseC (d : Nat) {Q : zQ} (hg : g < 6) (hv : rGv m0 n tx) (h : cRd m0 g n a G m) (ha : a ≤ n) (hN : gN G < 10) (hu : gU G ≤ a) (hQ : ∀ m', cDoneC m0 g n G m' (pCl tx n a) → Q (some (.int (zb (pCl tx n a).1.isSome))) m') : zCall (d + 21) m_Reader_isClause [.ref 88] m Q := by
  have hn := hv.1
  refine en_Reader_isClause (d + 20) m (sg_Reader_isClause_0 (zCall_m _) m (y_here (d + 19) hg hv h ha ⟨_, rfl, y_ix_4 (d + 16) (fun j hj => (cRd_b hg hv h (i := 0) (by omega) hj).trans ((by decide : ∀ j, j < 4 → (zsby.getD 0 []).getD j 0 = nI (([115, 113, 102, 108] : List Nat).getD j 0)) j hj)) (hr_b hv a) ⟨_, rfl, ?_⟩⟩))
  rw [ix_4 _ (hr_b hv a)]
  unfold pCl at hQ
  by_cases q : pWd (hr tx n a) < 4
  · have qa := (hr_l (tx := tx) (n := n) (f := pWd) (k := 4) rfl).mpr q
    have et : hr tx n a = tx a := if_pos qa.1
    rw [if_pos qa] at hQ
    rw [if_pos q, et]
    have hw : pWd (tx a) ≤ 3 := by omega
    generalize pWd (tx a) = w at hw hQ
    refine iq (fun z => by have := Int32.lt_iff_toInt_lt.mp z; rw [nI_toInt (by omega), show (0 : Int32) = nI 0 from rfl, nI_toInt (by omega)] at this; omega) (y_wordC (d + 15) hg hv h ha hw (fun m1 hm1 => ⟨_, rfl, ?_⟩))
    rw [pSk_app] at hQ
    have hs := pSk_b (tx := tx) (n := n) (pSp w) a ha
    rcases hx : pSk tx n (pSp w) a with ⟨_ | _, e⟩
    · rw [hx] at hm1 hQ
      exact ip rfl ⟨by decide, hQ m1 ⟨G, hm1⟩⟩
    · rw [hx] at hm1 hQ hs
      rw [if_pos rfl] at hQ
      obtain ⟨s1, s2, s3⟩ := hs
      have s1 : e ≤ n := s1
      have s2 : a ≤ e := s2
      refine iq i10 (y_skips (d + 18) hg hv hm1 s1 (c := 32) (by omega) (by omega) (fun r => ⟨_, rfl, ip i10 ?_⟩) (fun r => ⟨_, rfl, iq i00 ⟨by decide, ?_⟩⟩))
      · have ra := (pI_t.mp r).1
        dsimp only at hQ
        rw [if_pos r] at hQ
        dsimp only at hQ
        refine y_num (d + 19) hg hv (cRd_at hm1 hg (e + 1)) (by omega) (fun m2 hm2 => ⟨_, rfl, ?_⟩)
        have hb := pNum_b (tx := tx) (n := n) (a := e + 1) (by omega)
        rcases hy : pNum tx n (e + 1) with ⟨_ | v, e1⟩
        · rw [hy] at hQ hm2
          exact iq i0n ⟨by decide, hQ m2 ⟨G, hm2⟩⟩
        · rw [hy] at hQ hm2
          obtain ⟨b1, b2, b3⟩ := hb _ _ hy
          have b4 := b3 v rfl
          refine ip (nI_pos' (by omega)) ⟨fun q19 hq => ?_, fun hq => ?_⟩
          · rw [hm2.2.2.2.1] at hq
            cases hq
            refine bt_i (y_rc6 hg _ _) (y_begC (d + 19) hg hm2 hN hw v (fun m3 hm3 => ⟨rfl, ?_⟩))
            dsimp only at hQ
            unfold pBody at hQ
            have body : w < 2 → zCall (d + 20) m_Reader_skips [.ref 88, .int 32] m3 (fun o22 m23 => ∃ x24, o22 = some (.int x24) ∧ (if x24 = (0 : Int32) then (0 : Int32) &&& 1 = (0 : Int32) ∧ Q (some (.int (0 : Int32))) m23
                else zCall (d + 20) m_Reader_isEither [.ref 88, .int (0 : Int32)] m23 (fun o25 m26 => ∃ x27, o25 = some (.int x27) ∧ (if x27 = (0 : Int32) then (0 : Int32) &&& 1 = (0 : Int32) ∧ Q (some (.int (0 : Int32))) m26
                  else (1 : Int32) &&& 1 = (1 : Int32) ∧ Q (some (.int (1 : Int32))) m26)))) := by
              intro w2
              rw [if_pos w2] at hQ
              refine y_skips (d + 18) hg hv hm3 b1 (c := 32) (by omega) (by omega) (fun t => ⟨_, rfl, iq i10 ?_⟩) (fun t => ⟨_, rfl, ip rfl ⟨by decide, ?_⟩⟩)
              · have ta := (pI_t.mp t).1
                rw [if_pos t] at hQ
                refine y_EC d hg hv _ _ (gBg G w v) (e1 + 1) (cRd_at hm3 hg (e1 + 1)) (by omega) (Nat.le_add_left 1 _) (by rw [gU_Bg]; omega) (fun m4 hm4 => ⟨_, rfl, ?_⟩)
                rcases hz : pE tx n (pPart tx n 4) (e1 + 1) with ⟨_ | x, e2⟩
                · rw [hz] at hQ hm4
                  obtain ⟨G', i1, _⟩ := hm4
                  exact ip rfl ⟨by decide, hQ m4 ⟨G', i1⟩⟩
                · rw [hz] at hQ hm4
                  exact iq i10 ⟨by decide, hQ m4 hm4⟩
              · rw [if_neg t] at hQ
                exact hQ m3 ⟨_, hm3⟩
            by_cases w0 : w = 0
            · subst w0
              exact ip rfl (body (by omega))
            · by_cases w1 : w = 1
              · subst w1
                exact iq (by decide) (iq (fun z => z rfl) (body (by omega)))
              · rw [if_neg (by omega)] at hQ
                exact iq (nI_ne (b := 0) (by omega) (by omega) w0) (ip (nI_ne (b := 1) (by omega) (by omega) w1) ⟨by decide, hQ m3 hm3⟩)
          · rw [hm2.2.2.2.1] at hq
            cases hq
      · dsimp only at hQ
        rw [if_neg r] at hQ
        exact hQ m1 ⟨G, hm1⟩
  · rw [if_neg (fun z => q ((hr_l (f := pWd) (k := 4) rfl).mp z))] at hQ
    rw [if_neg q]
    exact ip (by decide) ⟨by decide, hQ m ⟨_, h⟩⟩
/-- behind a clause that went well -/
def pAft (tx : Nat → Nat) (n k : Nat) (G : zG) (e : Nat) : Option zG × Nat := if n ≤ e then (some G, e) else if k = 0 then (none, e) else if pI tx n 59 e = true then pTx tx n k G (e + 1) else (none, e)
def tDone (m0 : zM) (g n : Nat) (m' : zM) : Option zG × Nat → Prop
  | (some G, e) => ∃ m1, cRd m0 g n e G m1 ∧ m' = sI m1 88 0 0
  | (none, e) => ∃ G m1, cRd m0 g n e G m1 ∧ m' = sI m1 88 0 0
def tAns : Option zG × Nat → Int32
  | (some _, _) => -1
  | (none, e) => nI e
theorem pTx_s (k : Nat) (G : zG) (a : Nat) : pTx tx n (k + 1) G a = match pCl tx n a with
    | (none, e) => (none, e)
    | (some (w, v, x), e) => pAft tx n k (gPs (gBg G w v) x) e := rfl
end
theorem y_end_58 {m0 : zM} {n a : Nat} {G : zG} {m : zM} (D : Nat) {Q : zQ} (h : cRd m0 0 n a G m) {k : Nat} (hk : k ≤ 10) (hQ : ∀ m', tDone m0 0 n m' (none, a) → Q (some (.int (nI a))) m') : zRun (zCall D) 5 (some .int) zc_Reader_readInto Q 24 [.ref 88, .ref 58, .int 0, .int (nI k)] [] m := by
  have hf := hQ _ ⟨G, m, h, rfl⟩
  have e : gI (sI m 88 0 0) 88 2 = nI a := by rw [gIs, if_neg (by omega)]; exact h.2.2.1
  have fin : Q (some (.int (gI (sI m 88 0 (0 : Int32)) 88 2))) (sI m 88 0 (0 : Int32)) := by
    rw [e]
    exact hf
  refine sg_Reader_readInto_58_24 (zCall_m _) _ _ m ?_
  by_cases q : (10 : Int32) ≤ nI k
  · exact ip q (ip rfl fin)
  · exact iq q (ip rfl (ip rfl fin))
theorem y_readL_58 {m0 : zM} {n : Nat} {tx : Nat → Nat} (d : Nat) {Q : zQ} (hv : rGv m0 n tx) : ∀ (k a : Nat) (G : zG) (m : zM), k ≤ 9 → cRd m0 0 n a G m → a ≤ n → gN G + k ≤ 10 → gU G ≤ a → (∀ m', tDone m0 0 n m' (pAft tx n k G a) → Q (some (.int (tAns (pAft tx n k G a)))) m') → zRun (zCall (d + 21)) 5 (some .int) zc_Reader_readInto Q 24 [.ref 88, .ref 58, .int 1, .int (nI (10 - k))] [] m
  | 0, a, G, m, hk, h, ha, hN, hu, hQ => by
    have hn := hv.1
    have e : gI (sI m 88 0 0) 88 2 = nI a := by rw [gIs, if_neg (by omega)]; exact h.2.2.1
    refine sg_Reader_readInto_58_24 (zCall_m _) _ _ m (ip (by decide) (iq i10 ?_))
    rw [e, h.2.1, h.2.2.1]
    unfold pAft at hQ
    by_cases q : n ≤ a
    · rw [if_pos q] at hQ
      refine iq (fun z => by have := Int32.lt_iff_toInt_lt.mp z; rw [nI_toInt (by omega), nI_toInt (by omega)] at this; omega) (hQ _ ⟨m, h, rfl⟩)
    · rw [if_neg q, if_pos rfl] at hQ
      exact ip (nI_lt (by omega) (by omega)) (hQ _ ⟨G, m, h, rfl⟩)
  | k + 1, a, G, m, hk, h, ha, hN, hu, hQ => by
    have hn := hv.1
    have e : gI (sI m 88 0 0) 88 2 = nI a := by rw [gIs, if_neg (by omega)]; exact h.2.2.1
    refine sg_Reader_readInto_58_24 (zCall_m _) _ _ m (iq (nI_ge (b := 10) (by omega) (by omega)) (iq i10 ?_))
    rw [e, h.2.1, h.2.2.1]
    have ek : nI (10 - (k + 1)) + (1 : Int32) = nI (10 - k) := by rw [nI_1]; congr 1; omega
    unfold pAft at hQ
    by_cases q : n ≤ a
    · rw [if_pos q] at hQ
      refine ip (nI_le q (by omega)) (iq i10 ?_)
      refine iq (fun z => by have := Int32.lt_iff_toInt_lt.mp z; rw [nI_toInt (by omega), nI_toInt (by omega)] at this; omega) (hQ _ ⟨m, h, rfl⟩)
    · rw [if_neg q, if_neg (Nat.succ_ne_zero k)] at hQ
      refine iq (nI_ge (by omega) (by omega)) (y_skips (d + 19) (g := 0) (by decide) hv h ha (c := 59) (by omega) (by omega) (fun r => ⟨_, rfl, iq i10 ?_⟩) (fun r => ⟨_, rfl, ip rfl ?_⟩))
      · have ra := (pI_t.mp r).1
        rw [if_pos r, pTx_s] at hQ
        have hb := pCl_b (tx := tx) (n := n) (a := a + 1) (by omega)
        refine y_clauseC d (g := 0) (by decide) hv (cRd_at h (by decide) (a + 1)) (by omega) (by omega) (by omega) (fun m1 hm1 => ⟨_, rfl, ?_⟩)
        rw [ek]
        rcases hx : pCl tx n (a + 1) with ⟨_ | ⟨w, v, x⟩, e1⟩
        · rw [hx] at hm1 hQ
          obtain ⟨G', i1⟩ := hm1
          exact ip rfl (y_end_58 _ i1 (by omega) hQ)
        · rw [hx] at hm1 hQ hb
          obtain ⟨b1, b2, b3, b4, b5, b6⟩ := hb
          have hm1 : cRd m0 0 n e1 (gPs (gBg G w v) x) m1 := hm1
          have gu := gU_cl G w v x
          exact iq i10 (y_readL_58 d hv k e1 _ m1 (by omega) hm1 b2 (by omega) (by omega) hQ)
      · rw [if_neg r] at hQ
        rw [ek]
        exact y_end_58 _ h (by omega) hQ
theorem y_read_58 {m0 : zM} {n : Nat} {tx : Nat → Nat} (d : Nat) {Q : zQ} (hv : rGv m0 n tx) (h0 : gI m0 88 0 = nI n) (hQ : ∀ m', tDone m0 0 n m' (pTx tx n 10 (0, fun _ => 0, fun _ => 0, fun _ => 0, fun _ => 0) 0) → Q (some (.int (tAns (pTx tx n 10 (0, fun _ => 0, fun _ => 0, fun _ => 0, fun _ => 0) 0)))) m') : zCall (d + 22) m_Reader_readInto [.ref 88, .ref (58 + 5 * 0)] m0 Q := by
  have hn := hv.1
  refine en_Reader_readInto_58 (d + 21) m0 (sg_Reader_readInto_58_0 (zCall_m _) m0 ⟨fun q1 hq => ?_, fun hq => by cases hq⟩)
  cases hq
  refine bt_i (y_rc5 (g := 0) (by decide)) (y_clearG (d + 20) (g := 0) (by decide) ⟨rfl, ?_⟩)
  have hc : cRd m0 0 n 0 (0, fun _ => 0, fun _ => 0, fun _ => 0, fun _ => 0) (cleM 58 (sG (sI m0 88 2 0) 88 (some 58))) := by
    have u : ∀ q k, gI (cleM 58 (sG (sI m0 88 2 0) 88 (some 58))) q k = if q = 58 ∧ k = 6 then 0 else if q = 58 ∧ k = 2 then 0 else if q = 58 ∧ k = 1 then -1 else if q = 58 ∧ k = 0 then -1 else if q = 88 ∧ k = 2 then 0 else gI m0 q k := fun q k => by
      unfold cleM
      rw [gIs, gIs, gIs, gIs, gI_sG, gIs]
    refine ⟨fun q hq => ?_, ?_, ?_, rfl, ⟨?_, ?_, ?_, fun k hk => absurd hk (Nat.not_lt_zero _)⟩, ?_, fun j k _ hk => absurd hk (Nat.not_lt_zero _), Nat.zero_le _, Nat.zero_le _⟩
    · unfold rdP at hq
      have q1 : q ≠ 58 := by omega
      have q2 : q ≠ 88 := by omega
      refine ⟨fun k => ?_, fun k => rfl, if_neg q2⟩
      rw [u, if_neg (fun z => q1 z.1), if_neg (fun z => q1 z.1), if_neg (fun z => q1 z.1), if_neg (fun z => q1 z.1), if_neg (fun z => q2 z.1)]
    · rw [u, if_neg (by omega), if_neg (by omega), if_neg (by omega), if_neg (by omega), if_neg (by omega)]; exact h0
    · rw [u, if_neg (by omega), if_neg (by omega), if_neg (by omega), if_neg (by omega), if_pos ⟨rfl, rfl⟩]; rfl
    · rw [u, if_neg (by omega), if_pos ⟨rfl, rfl⟩]; rfl
    · rw [u, if_neg (by omega), if_neg (by omega), if_neg (by omega), if_pos ⟨rfl, rfl⟩]; rfl
    · rw [u, if_neg (by omega), if_neg (by omega), if_pos ⟨rfl, rfl⟩]; rfl
    · rw [u, if_pos ⟨rfl, rfl⟩]; rfl
  have hb := pCl_b (tx := tx) (n := n) (a := 0) (Nat.zero_le _)
  rw [pTx_s] at hQ
  refine y_clauseC d (g := 0) (by decide) hv hc (Nat.zero_le _) (by decide) (by decide) (fun m1 hm1 => ⟨_, rfl, ?_⟩)
  rcases hx : pCl tx n 0 with ⟨_ | ⟨w, v, x⟩, e1⟩
  · rw [hx] at hm1 hQ
    obtain ⟨G', i1⟩ := hm1
    exact y_end_58 (k := 1) _ i1 (by omega) hQ
  · rw [hx] at hm1 hQ hb
    obtain ⟨b1, b2, b3, b4, b5, b6⟩ := hb
    have hm1 : cRd m0 0 n e1 (gPs (gBg _ w v) x) m1 := hm1
    have gu := gU_cl (0, fun _ => 0, fun _ => 0, fun _ => 0, fun _ => 0) w v x
    have g0 : gU (0, fun _ => 0, fun _ => 0, fun _ => 0, fun _ => 0) = 0 := rfl
    have g1 : gN (0, fun _ => 0, fun _ => 0, fun _ => 0, fun _ => 0) = 0 := rfl
    exact y_readL_58 d hv 9 e1 _ m1 (by omega) hm1 b2 (by omega) (by omega) hQ
theorem y_end_63 {m0 : zM} {n a : Nat} {G : zG} {m : zM} (D : Nat) {Q : zQ} (h : cRd m0 1 n a G m) {k : Nat} (hk : k ≤ 10) (hQ : ∀ m', tDone m0 1 n m' (none, a) → Q (some (.int (nI a))) m') : zRun (zCall D) 5 (some .int) zc_Reader_readInto Q 24 [.ref 88, .ref 63, .int 0, .int (nI k)] [] m := by
  have hf := hQ _ ⟨G, m, h, rfl⟩
  have e : gI (sI m 88 0 0) 88 2 = nI a := by rw [gIs, if_neg (by omega)]; exact h.2.2.1
  have fin : Q (some (.int (gI (sI m 88 0 (0 : Int32)) 88 2))) (sI m 88 0 (0 : Int32)) := by
    rw [e]
    exact hf
  refine sg_Reader_readInto_63_24 (zCall_m _) _ _ m ?_
  by_cases q : (10 : Int32) ≤ nI k
  · exact ip q (ip rfl fin)
  · exact iq q (ip rfl (ip rfl fin))
theorem y_readL_63 {m0 : zM} {n : Nat} {tx : Nat → Nat} (d : Nat) {Q : zQ} (hv : rGv m0 n tx) : ∀ (k a : Nat) (G : zG) (m : zM), k ≤ 9 → cRd m0 1 n a G m → a ≤ n → gN G + k ≤ 10 → gU G ≤ a → (∀ m', tDone m0 1 n m' (pAft tx n k G a) → Q (some (.int (tAns (pAft tx n k G a)))) m') → zRun (zCall (d + 21)) 5 (some .int) zc_Reader_readInto Q 24 [.ref 88, .ref 63, .int 1, .int (nI (10 - k))] [] m
  | 0, a, G, m, hk, h, ha, hN, hu, hQ => by
    have hn := hv.1
    have e : gI (sI m 88 0 0) 88 2 = nI a := by rw [gIs, if_neg (by omega)]; exact h.2.2.1
    refine sg_Reader_readInto_63_24 (zCall_m _) _ _ m (ip (by decide) (iq i10 ?_))
    rw [e, h.2.1, h.2.2.1]
    unfold pAft at hQ
    by_cases q : n ≤ a
    · rw [if_pos q] at hQ
      refine iq (fun z => by have := Int32.lt_iff_toInt_lt.mp z; rw [nI_toInt (by omega), nI_toInt (by omega)] at this; omega) (hQ _ ⟨m, h, rfl⟩)
    · rw [if_neg q, if_pos rfl] at hQ
      exact ip (nI_lt (by omega) (by omega)) (hQ _ ⟨G, m, h, rfl⟩)
  | k + 1, a, G, m, hk, h, ha, hN, hu, hQ => by
    have hn := hv.1
    have e : gI (sI m 88 0 0) 88 2 = nI a := by rw [gIs, if_neg (by omega)]; exact h.2.2.1
    refine sg_Reader_readInto_63_24 (zCall_m _) _ _ m (iq (nI_ge (b := 10) (by omega) (by omega)) (iq i10 ?_))
    rw [e, h.2.1, h.2.2.1]
    have ek : nI (10 - (k + 1)) + (1 : Int32) = nI (10 - k) := by rw [nI_1]; congr 1; omega
    unfold pAft at hQ
    by_cases q : n ≤ a
    · rw [if_pos q] at hQ
      refine ip (nI_le q (by omega)) (iq i10 ?_)
      refine iq (fun z => by have := Int32.lt_iff_toInt_lt.mp z; rw [nI_toInt (by omega), nI_toInt (by omega)] at this; omega) (hQ _ ⟨m, h, rfl⟩)
    · rw [if_neg q, if_neg (Nat.succ_ne_zero k)] at hQ
      refine iq (nI_ge (by omega) (by omega)) (y_skips (d + 19) (g := 1) (by decide) hv h ha (c := 59) (by omega) (by omega) (fun r => ⟨_, rfl, iq i10 ?_⟩) (fun r => ⟨_, rfl, ip rfl ?_⟩))
      · have ra := (pI_t.mp r).1
        rw [if_pos r, pTx_s] at hQ
        have hb := pCl_b (tx := tx) (n := n) (a := a + 1) (by omega)
        refine y_clauseC d (g := 1) (by decide) hv (cRd_at h (by decide) (a + 1)) (by omega) (by omega) (by omega) (fun m1 hm1 => ⟨_, rfl, ?_⟩)
        rw [ek]
        rcases hx : pCl tx n (a + 1) with ⟨_ | ⟨w, v, x⟩, e1⟩
        · rw [hx] at hm1 hQ
          obtain ⟨G', i1⟩ := hm1
          exact ip rfl (y_end_63 _ i1 (by omega) hQ)
        · rw [hx] at hm1 hQ hb
          obtain ⟨b1, b2, b3, b4, b5, b6⟩ := hb
          have hm1 : cRd m0 1 n e1 (gPs (gBg G w v) x) m1 := hm1
          have gu := gU_cl G w v x
          exact iq i10 (y_readL_63 d hv k e1 _ m1 (by omega) hm1 b2 (by omega) (by omega) hQ)
      · rw [if_neg r] at hQ
        rw [ek]
        exact y_end_63 _ h (by omega) hQ
theorem y_read_63 {m0 : zM} {n : Nat} {tx : Nat → Nat} (d : Nat) {Q : zQ} (hv : rGv m0 n tx) (h0 : gI m0 88 0 = nI n) (hQ : ∀ m', tDone m0 1 n m' (pTx tx n 10 (0, fun _ => 0, fun _ => 0, fun _ => 0, fun _ => 0) 0) → Q (some (.int (tAns (pTx tx n 10 (0, fun _ => 0, fun _ => 0, fun _ => 0, fun _ => 0) 0)))) m') : zCall (d + 22) m_Reader_readInto [.ref 88, .ref (58 + 5 * 1)] m0 Q := by
  have hn := hv.1
  refine en_Reader_readInto_63 (d + 21) m0 (sg_Reader_readInto_63_0 (zCall_m _) m0 ⟨fun q1 hq => ?_, fun hq => by cases hq⟩)
  cases hq
  refine bt_i (y_rc5 (g := 1) (by decide)) (y_clearG (d + 20) (g := 1) (by decide) ⟨rfl, ?_⟩)
  have hc : cRd m0 1 n 0 (0, fun _ => 0, fun _ => 0, fun _ => 0, fun _ => 0) (cleM 63 (sG (sI m0 88 2 0) 88 (some 63))) := by
    have u : ∀ q k, gI (cleM 63 (sG (sI m0 88 2 0) 88 (some 63))) q k = if q = 63 ∧ k = 6 then 0 else if q = 63 ∧ k = 2 then 0 else if q = 63 ∧ k = 1 then -1 else if q = 63 ∧ k = 0 then -1 else if q = 88 ∧ k = 2 then 0 else gI m0 q k := fun q k => by
      unfold cleM
      rw [gIs, gIs, gIs, gIs, gI_sG, gIs]
    refine ⟨fun q hq => ?_, ?_, ?_, rfl, ⟨?_, ?_, ?_, fun k hk => absurd hk (Nat.not_lt_zero _)⟩, ?_, fun j k _ hk => absurd hk (Nat.not_lt_zero _), Nat.zero_le _, Nat.zero_le _⟩
    · unfold rdP at hq
      have q1 : q ≠ 63 := by omega
      have q2 : q ≠ 88 := by omega
      refine ⟨fun k => ?_, fun k => rfl, if_neg q2⟩
      rw [u, if_neg (fun z => q1 z.1), if_neg (fun z => q1 z.1), if_neg (fun z => q1 z.1), if_neg (fun z => q1 z.1), if_neg (fun z => q2 z.1)]
    · rw [u, if_neg (by omega), if_neg (by omega), if_neg (by omega), if_neg (by omega), if_neg (by omega)]; exact h0
    · rw [u, if_neg (by omega), if_neg (by omega), if_neg (by omega), if_neg (by omega), if_pos ⟨rfl, rfl⟩]; rfl
    · rw [u, if_neg (by omega), if_pos ⟨rfl, rfl⟩]; rfl
    · rw [u, if_neg (by omega), if_neg (by omega), if_neg (by omega), if_pos ⟨rfl, rfl⟩]; rfl
    · rw [u, if_neg (by omega), if_neg (by omega), if_pos ⟨rfl, rfl⟩]; rfl
    · rw [u, if_pos ⟨rfl, rfl⟩]; rfl
  have hb := pCl_b (tx := tx) (n := n) (a := 0) (Nat.zero_le _)
  rw [pTx_s] at hQ
  refine y_clauseC d (g := 1) (by decide) hv hc (Nat.zero_le _) (by decide) (by decide) (fun m1 hm1 => ⟨_, rfl, ?_⟩)
  rcases hx : pCl tx n 0 with ⟨_ | ⟨w, v, x⟩, e1⟩
  · rw [hx] at hm1 hQ
    obtain ⟨G', i1⟩ := hm1
    exact y_end_63 (k := 1) _ i1 (by omega) hQ
  · rw [hx] at hm1 hQ hb
    obtain ⟨b1, b2, b3, b4, b5, b6⟩ := hb
    have hm1 : cRd m0 1 n e1 (gPs (gBg _ w v) x) m1 := hm1
    have gu := gU_cl (0, fun _ => 0, fun _ => 0, fun _ => 0, fun _ => 0) w v x
    have g0 : gU (0, fun _ => 0, fun _ => 0, fun _ => 0, fun _ => 0) = 0 := rfl
    have g1 : gN (0, fun _ => 0, fun _ => 0, fun _ => 0, fun _ => 0) = 0 := rfl
    exact y_readL_63 d hv 9 e1 _ m1 (by omega) hm1 b2 (by omega) (by omega) hQ
theorem y_end_68 {m0 : zM} {n a : Nat} {G : zG} {m : zM} (D : Nat) {Q : zQ} (h : cRd m0 2 n a G m) {k : Nat} (hk : k ≤ 10) (hQ : ∀ m', tDone m0 2 n m' (none, a) → Q (some (.int (nI a))) m') : zRun (zCall D) 5 (some .int) zc_Reader_readInto Q 24 [.ref 88, .ref 68, .int 0, .int (nI k)] [] m := by
  have hf := hQ _ ⟨G, m, h, rfl⟩
  have e : gI (sI m 88 0 0) 88 2 = nI a := by rw [gIs, if_neg (by omega)]; exact h.2.2.1
  have fin : Q (some (.int (gI (sI m 88 0 (0 : Int32)) 88 2))) (sI m 88 0 (0 : Int32)) := by
    rw [e]
    exact hf
  refine sg_Reader_readInto_68_24 (zCall_m _) _ _ m ?_
  by_cases q : (10 : Int32) ≤ nI k
  · exact ip q (ip rfl fin)
  · exact iq q (ip rfl (ip rfl fin))
theorem y_readL_68 {m0 : zM} {n : Nat} {tx : Nat → Nat} (d : Nat) {Q : zQ} (hv : rGv m0 n tx) : ∀ (k a : Nat) (G : zG) (m : zM), k ≤ 9 → cRd m0 2 n a G m → a ≤ n → gN G + k ≤ 10 → gU G ≤ a → (∀ m', tDone m0 2 n m' (pAft tx n k G a) → Q (some (.int (tAns (pAft tx n k G a)))) m') → zRun (zCall (d + 21)) 5 (some .int) zc_Reader_readInto Q 24 [.ref 88, .ref 68, .int 1, .int (nI (10 - k))] [] m
  | 0, a, G, m, hk, h, ha, hN, hu, hQ => by
    have hn := hv.1
    have e : gI (sI m 88 0 0) 88 2 = nI a := by rw [gIs, if_neg (by omega)]; exact h.2.2.1
    refine sg_Reader_readInto_68_24 (zCall_m _) _ _ m (ip (by decide) (iq i10 ?_))
    rw [e, h.2.1, h.2.2.1]
    unfold pAft at hQ
    by_cases q : n ≤ a
    · rw [if_pos q] at hQ
      refine iq (fun z => by have := Int32.lt_iff_toInt_lt.mp z; rw [nI_toInt (by omega), nI_toInt (by omega)] at this; omega) (hQ _ ⟨m, h, rfl⟩)
    · rw [if_neg q, if_pos rfl] at hQ
      exact ip (nI_lt (by omega) (by omega)) (hQ _ ⟨G, m, h, rfl⟩)
  | k + 1, a, G, m, hk, h, ha, hN, hu, hQ => by
    have hn := hv.1
    have e : gI (sI m 88 0 0) 88 2 = nI a := by rw [gIs, if_neg (by omega)]; exact h.2.2.1
    refine sg_Reader_readInto_68_24 (zCall_m _) _ _ m (iq (nI_ge (b := 10) (by omega) (by omega)) (iq i10 ?_))
    rw [e, h.2.1, h.2.2.1]
    have ek : nI (10 - (k + 1)) + (1 : Int32) = nI (10 - k) := by rw [nI_1]; congr 1; omega
    unfold pAft at hQ
    by_cases q : n ≤ a
    · rw [if_pos q] at hQ
      refine ip (nI_le q (by omega)) (iq i10 ?_)
      refine iq (fun z => by have := Int32.lt_iff_toInt_lt.mp z; rw [nI_toInt (by omega), nI_toInt (by omega)] at this; omega) (hQ _ ⟨m, h, rfl⟩)
    · rw [if_neg q, if_neg (Nat.succ_ne_zero k)] at hQ
      refine iq (nI_ge (by omega) (by omega)) (y_skips (d + 19) (g := 2) (by decide) hv h ha (c := 59) (by omega) (by omega) (fun r => ⟨_, rfl, iq i10 ?_⟩) (fun r => ⟨_, rfl, ip rfl ?_⟩))
      · have ra := (pI_t.mp r).1
        rw [if_pos r, pTx_s] at hQ
        have hb := pCl_b (tx := tx) (n := n) (a := a + 1) (by omega)
        refine y_clauseC d (g := 2) (by decide) hv (cRd_at h (by decide) (a + 1)) (by omega) (by omega) (by omega) (fun m1 hm1 => ⟨_, rfl, ?_⟩)
        rw [ek]
        rcases hx : pCl tx n (a + 1) with ⟨_ | ⟨w, v, x⟩, e1⟩
        · rw [hx] at hm1 hQ
          obtain ⟨G', i1⟩ := hm1
          exact ip rfl (y_end_68 _ i1 (by omega) hQ)
        · rw [hx] at hm1 hQ hb
          obtain ⟨b1, b2, b3, b4, b5, b6⟩ := hb
          have hm1 : cRd m0 2 n e1 (gPs (gBg G w v) x) m1 := hm1
          have gu := gU_cl G w v x
          exact iq i10 (y_readL_68 d hv k e1 _ m1 (by omega) hm1 b2 (by omega) (by omega) hQ)
      · rw [if_neg r] at hQ
        rw [ek]
        exact y_end_68 _ h (by omega) hQ
theorem y_read_68 {m0 : zM} {n : Nat} {tx : Nat → Nat} (d : Nat) {Q : zQ} (hv : rGv m0 n tx) (h0 : gI m0 88 0 = nI n) (hQ : ∀ m', tDone m0 2 n m' (pTx tx n 10 (0, fun _ => 0, fun _ => 0, fun _ => 0, fun _ => 0) 0) → Q (some (.int (tAns (pTx tx n 10 (0, fun _ => 0, fun _ => 0, fun _ => 0, fun _ => 0) 0)))) m') : zCall (d + 22) m_Reader_readInto [.ref 88, .ref (58 + 5 * 2)] m0 Q := by
  have hn := hv.1
  refine en_Reader_readInto_68 (d + 21) m0 (sg_Reader_readInto_68_0 (zCall_m _) m0 ⟨fun q1 hq => ?_, fun hq => by cases hq⟩)
  cases hq
  refine bt_i (y_rc5 (g := 2) (by decide)) (y_clearG (d + 20) (g := 2) (by decide) ⟨rfl, ?_⟩)
  have hc : cRd m0 2 n 0 (0, fun _ => 0, fun _ => 0, fun _ => 0, fun _ => 0) (cleM 68 (sG (sI m0 88 2 0) 88 (some 68))) := by
    have u : ∀ q k, gI (cleM 68 (sG (sI m0 88 2 0) 88 (some 68))) q k = if q = 68 ∧ k = 6 then 0 else if q = 68 ∧ k = 2 then 0 else if q = 68 ∧ k = 1 then -1 else if q = 68 ∧ k = 0 then -1 else if q = 88 ∧ k = 2 then 0 else gI m0 q k := fun q k => by
      unfold cleM
      rw [gIs, gIs, gIs, gIs, gI_sG, gIs]
    refine ⟨fun q hq => ?_, ?_, ?_, rfl, ⟨?_, ?_, ?_, fun k hk => absurd hk (Nat.not_lt_zero _)⟩, ?_, fun j k _ hk => absurd hk (Nat.not_lt_zero _), Nat.zero_le _, Nat.zero_le _⟩
    · unfold rdP at hq
      have q1 : q ≠ 68 := by omega
      have q2 : q ≠ 88 := by omega
      refine ⟨fun k => ?_, fun k => rfl, if_neg q2⟩
      rw [u, if_neg (fun z => q1 z.1), if_neg (fun z => q1 z.1), if_neg (fun z => q1 z.1), if_neg (fun z => q1 z.1), if_neg (fun z => q2 z.1)]
    · rw [u, if_neg (by omega), if_neg (by omega), if_neg (by omega), if_neg (by omega), if_neg (by omega)]; exact h0
    · rw [u, if_neg (by omega), if_neg (by omega), if_neg (by omega), if_neg (by omega), if_pos ⟨rfl, rfl⟩]; rfl
    · rw [u, if_neg (by omega), if_pos ⟨rfl, rfl⟩]; rfl
    · rw [u, if_neg (by omega), if_neg (by omega), if_neg (by omega), if_pos ⟨rfl, rfl⟩]; rfl
    · rw [u, if_neg (by omega), if_neg (by omega), if_pos ⟨rfl, rfl⟩]; rfl
    · rw [u, if_pos ⟨rfl, rfl⟩]; rfl
  have hb := pCl_b (tx := tx) (n := n) (a := 0) (Nat.zero_le _)
  rw [pTx_s] at hQ
  refine y_clauseC d (g := 2) (by decide) hv hc (Nat.zero_le _) (by decide) (by decide) (fun m1 hm1 => ⟨_, rfl, ?_⟩)
  rcases hx : pCl tx n 0 with ⟨_ | ⟨w, v, x⟩, e1⟩
  · rw [hx] at hm1 hQ
    obtain ⟨G', i1⟩ := hm1
    exact y_end_68 (k := 1) _ i1 (by omega) hQ
  · rw [hx] at hm1 hQ hb
    obtain ⟨b1, b2, b3, b4, b5, b6⟩ := hb
    have hm1 : cRd m0 2 n e1 (gPs (gBg _ w v) x) m1 := hm1
    have gu := gU_cl (0, fun _ => 0, fun _ => 0, fun _ => 0, fun _ => 0) w v x
    have g0 : gU (0, fun _ => 0, fun _ => 0, fun _ => 0, fun _ => 0) = 0 := rfl
    have g1 : gN (0, fun _ => 0, fun _ => 0, fun _ => 0, fun _ => 0) = 0 := rfl
    exact y_readL_68 d hv 9 e1 _ m1 (by omega) hm1 b2 (by omega) (by omega) hQ
theorem y_end_73 {m0 : zM} {n a : Nat} {G : zG} {m : zM} (D : Nat) {Q : zQ} (h : cRd m0 3 n a G m) {k : Nat} (hk : k ≤ 10) (hQ : ∀ m', tDone m0 3 n m' (none, a) → Q (some (.int (nI a))) m') : zRun (zCall D) 5 (some .int) zc_Reader_readInto Q 24 [.ref 88, .ref 73, .int 0, .int (nI k)] [] m := by
  have hf := hQ _ ⟨G, m, h, rfl⟩
  have e : gI (sI m 88 0 0) 88 2 = nI a := by rw [gIs, if_neg (by omega)]; exact h.2.2.1
  have fin : Q (some (.int (gI (sI m 88 0 (0 : Int32)) 88 2))) (sI m 88 0 (0 : Int32)) := by
    rw [e]
    exact hf
  refine sg_Reader_readInto_73_24 (zCall_m _) _ _ m ?_
  by_cases q : (10 : Int32) ≤ nI k
  · exact ip q (ip rfl fin)
  · exact iq q (ip rfl (ip rfl fin))
theorem y_readL_73 {m0 : zM} {n : Nat} {tx : Nat → Nat} (d : Nat) {Q : zQ} (hv : rGv m0 n tx) : ∀ (k a : Nat) (G : zG) (m : zM), k ≤ 9 → cRd m0 3 n a G m → a ≤ n → gN G + k ≤ 10 → gU G ≤ a → (∀ m', tDone m0 3 n m' (pAft tx n k G a) → Q (some (.int (tAns (pAft tx n k G a)))) m') → zRun (zCall (d + 21)) 5 (some .int) zc_Reader_readInto Q 24 [.ref 88, .ref 73, .int 1, .int (nI (10 - k))] [] m
  | 0, a, G, m, hk, h, ha, hN, hu, hQ => by
    have hn := hv.1
    have e : gI (sI m 88 0 0) 88 2 = nI a := by rw [gIs, if_neg (by omega)]; exact h.2.2.1
    refine sg_Reader_readInto_73_24 (zCall_m _) _ _ m (ip (by decide) (iq i10 ?_))
    rw [e, h.2.1, h.2.2.1]
    unfold pAft at hQ
    by_cases q : n ≤ a
    · rw [if_pos q] at hQ
      refine iq (fun z => by have := Int32.lt_iff_toInt_lt.mp z; rw [nI_toInt (by omega), nI_toInt (by omega)] at this; omega) (hQ _ ⟨m, h, rfl⟩)
    · rw [if_neg q, if_pos rfl] at hQ
      exact ip (nI_lt (by omega) (by omega)) (hQ _ ⟨G, m, h, rfl⟩)
  | k + 1, a, G, m, hk, h, ha, hN, hu, hQ => by
    have hn := hv.1
    have e : gI (sI m 88 0 0) 88 2 = nI a := by rw [gIs, if_neg (by omega)]; exact h.2.2.1
    refine sg_Reader_readInto_73_24 (zCall_m _) _ _ m (iq (nI_ge (b := 10) (by omega) (by omega)) (iq i10 ?_))
    rw [e, h.2.1, h.2.2.1]
    have ek : nI (10 - (k + 1)) + (1 : Int32) = nI (10 - k) := by rw [nI_1]; congr 1; omega
    unfold pAft at hQ
    by_cases q : n ≤ a
    · rw [if_pos q] at hQ
      refine ip (nI_le q (by omega)) (iq i10 ?_)
      refine iq (fun z => by have := Int32.lt_iff_toInt_lt.mp z; rw [nI_toInt (by omega), nI_toInt (by omega)] at this; omega) (hQ _ ⟨m, h, rfl⟩)
    · rw [if_neg q, if_neg (Nat.succ_ne_zero k)] at hQ
      refine iq (nI_ge (by omega) (by omega)) (y_skips (d + 19) (g := 3) (by decide) hv h ha (c := 59) (by omega) (by omega) (fun r => ⟨_, rfl, iq i10 ?_⟩) (fun r => ⟨_, rfl, ip rfl ?_⟩))
      · have ra := (pI_t.mp r).1
        rw [if_pos r, pTx_s] at hQ
        have hb := pCl_b (tx := tx) (n := n) (a := a + 1) (by omega)
        refine y_clauseC d (g := 3) (by decide) hv (cRd_at h (by decide) (a + 1)) (by omega) (by omega) (by omega) (fun m1 hm1 => ⟨_, rfl, ?_⟩)
        rw [ek]
        rcases hx : pCl tx n (a + 1) with ⟨_ | ⟨w, v, x⟩, e1⟩
        · rw [hx] at hm1 hQ
          obtain ⟨G', i1⟩ := hm1
          exact ip rfl (y_end_73 _ i1 (by omega) hQ)
        · rw [hx] at hm1 hQ hb
          obtain ⟨b1, b2, b3, b4, b5, b6⟩ := hb
          have hm1 : cRd m0 3 n e1 (gPs (gBg G w v) x) m1 := hm1
          have gu := gU_cl G w v x
          exact iq i10 (y_readL_73 d hv k e1 _ m1 (by omega) hm1 b2 (by omega) (by omega) hQ)
      · rw [if_neg r] at hQ
        rw [ek]
        exact y_end_73 _ h (by omega) hQ
theorem y_read_73 {m0 : zM} {n : Nat} {tx : Nat → Nat} (d : Nat) {Q : zQ} (hv : rGv m0 n tx) (h0 : gI m0 88 0 = nI n) (hQ : ∀ m', tDone m0 3 n m' (pTx tx n 10 (0, fun _ => 0, fun _ => 0, fun _ => 0, fun _ => 0) 0) → Q (some (.int (tAns (pTx tx n 10 (0, fun _ => 0, fun _ => 0, fun _ => 0, fun _ => 0) 0)))) m') : zCall (d + 22) m_Reader_readInto [.ref 88, .ref (58 + 5 * 3)] m0 Q := by
  have hn := hv.1
  refine en_Reader_readInto_73 (d + 21) m0 (sg_Reader_readInto_73_0 (zCall_m _) m0 ⟨fun q1 hq => ?_, fun hq => by cases hq⟩)
  cases hq
  refine bt_i (y_rc5 (g := 3) (by decide)) (y_clearG (d + 20) (g := 3) (by decide) ⟨rfl, ?_⟩)
  have hc : cRd m0 3 n 0 (0, fun _ => 0, fun _ => 0, fun _ => 0, fun _ => 0) (cleM 73 (sG (sI m0 88 2 0) 88 (some 73))) := by
    have u : ∀ q k, gI (cleM 73 (sG (sI m0 88 2 0) 88 (some 73))) q k = if q = 73 ∧ k = 6 then 0 else if q = 73 ∧ k = 2 then 0 else if q = 73 ∧ k = 1 then -1 else if q = 73 ∧ k = 0 then -1 else if q = 88 ∧ k = 2 then 0 else gI m0 q k := fun q k => by
      unfold cleM
      rw [gIs, gIs, gIs, gIs, gI_sG, gIs]
    refine ⟨fun q hq => ?_, ?_, ?_, rfl, ⟨?_, ?_, ?_, fun k hk => absurd hk (Nat.not_lt_zero _)⟩, ?_, fun j k _ hk => absurd hk (Nat.not_lt_zero _), Nat.zero_le _, Nat.zero_le _⟩
    · unfold rdP at hq
      have q1 : q ≠ 73 := by omega
      have q2 : q ≠ 88 := by omega
      refine ⟨fun k => ?_, fun k => rfl, if_neg q2⟩
      rw [u, if_neg (fun z => q1 z.1), if_neg (fun z => q1 z.1), if_neg (fun z => q1 z.1), if_neg (fun z => q1 z.1), if_neg (fun z => q2 z.1)]
    · rw [u, if_neg (by omega), if_neg (by omega), if_neg (by omega), if_neg (by omega), if_neg (by omega)]; exact h0
    · rw [u, if_neg (by omega), if_neg (by omega), if_neg (by omega), if_neg (by omega), if_pos ⟨rfl, rfl⟩]; rfl
    · rw [u, if_neg (by omega), if_pos ⟨rfl, rfl⟩]; rfl
    · rw [u, if_neg (by omega), if_neg (by omega), if_neg (by omega), if_pos ⟨rfl, rfl⟩]; rfl
    · rw [u, if_neg (by omega), if_neg (by omega), if_pos ⟨rfl, rfl⟩]; rfl
    · rw [u, if_pos ⟨rfl, rfl⟩]; rfl
  have hb := pCl_b (tx := tx) (n := n) (a := 0) (Nat.zero_le _)
  rw [pTx_s] at hQ
  refine y_clauseC d (g := 3) (by decide) hv hc (Nat.zero_le _) (by decide) (by decide) (fun m1 hm1 => ⟨_, rfl, ?_⟩)
  rcases hx : pCl tx n 0 with ⟨_ | ⟨w, v, x⟩, e1⟩
  · rw [hx] at hm1 hQ
    obtain ⟨G', i1⟩ := hm1
    exact y_end_73 (k := 1) _ i1 (by omega) hQ
  · rw [hx] at hm1 hQ hb
    obtain ⟨b1, b2, b3, b4, b5, b6⟩ := hb
    have hm1 : cRd m0 3 n e1 (gPs (gBg _ w v) x) m1 := hm1
    have gu := gU_cl (0, fun _ => 0, fun _ => 0, fun _ => 0, fun _ => 0) w v x
    have g0 : gU (0, fun _ => 0, fun _ => 0, fun _ => 0, fun _ => 0) = 0 := rfl
    have g1 : gN (0, fun _ => 0, fun _ => 0, fun _ => 0, fun _ => 0) = 0 := rfl
    exact y_readL_73 d hv 9 e1 _ m1 (by omega) hm1 b2 (by omega) (by omega) hQ
theorem y_end_78 {m0 : zM} {n a : Nat} {G : zG} {m : zM} (D : Nat) {Q : zQ} (h : cRd m0 4 n a G m) {k : Nat} (hk : k ≤ 10) (hQ : ∀ m', tDone m0 4 n m' (none, a) → Q (some (.int (nI a))) m') : zRun (zCall D) 5 (some .int) zc_Reader_readInto Q 24 [.ref 88, .ref 78, .int 0, .int (nI k)] [] m := by
  have hf := hQ _ ⟨G, m, h, rfl⟩
  have e : gI (sI m 88 0 0) 88 2 = nI a := by rw [gIs, if_neg (by omega)]; exact h.2.2.1
  have fin : Q (some (.int (gI (sI m 88 0 (0 : Int32)) 88 2))) (sI m 88 0 (0 : Int32)) := by
    rw [e]
    exact hf
  refine sg_Reader_readInto_78_24 (zCall_m _) _ _ m ?_
  by_cases q : (10 : Int32) ≤ nI k
  · exact ip q (ip rfl fin)
  · exact iq q (ip rfl (ip rfl fin))
theorem y_readL_78 {m0 : zM} {n : Nat} {tx : Nat → Nat} (d : Nat) {Q : zQ} (hv : rGv m0 n tx) : ∀ (k a : Nat) (G : zG) (m : zM), k ≤ 9 → cRd m0 4 n a G m → a ≤ n → gN G + k ≤ 10 → gU G ≤ a → (∀ m', tDone m0 4 n m' (pAft tx n k G a) → Q (some (.int (tAns (pAft tx n k G a)))) m') → zRun (zCall (d + 21)) 5 (some .int) zc_Reader_readInto Q 24 [.ref 88, .ref 78, .int 1, .int (nI (10 - k))] [] m
  | 0, a, G, m, hk, h, ha, hN, hu, hQ => by
    have hn := hv.1
    have e : gI (sI m 88 0 0) 88 2 = nI a := by rw [gIs, if_neg (by omega)]; exact h.2.2.1
    refine sg_Reader_readInto_78_24 (zCall_m _) _ _ m (ip (by decide) (iq i10 ?_))
    rw [e, h.2.1, h.2.2.1]
    unfold pAft at hQ
    by_cases q : n ≤ a
    · rw [if_pos q] at hQ
      refine iq (fun z => by have := Int32.lt_iff_toInt_lt.mp z; rw [nI_toInt (by omega), nI_toInt (by omega)] at this; omega) (hQ _ ⟨m, h, rfl⟩)
    · rw [if_neg q, if_pos rfl] at hQ
      exact ip (nI_lt (by omega) (by omega)) (hQ _ ⟨G, m, h, rfl⟩)
  | k + 1, a, G, m, hk, h, ha, hN, hu, hQ => by
    have hn := hv.1
    have e : gI (sI m 88 0 0) 88 2 = nI a := by rw [gIs, if_neg (by omega)]; exact h.2.2.1
    refine sg_Reader_readInto_78_24 (zCall_m _) _ _ m (iq (nI_ge (b := 10) (by omega) (by omega)) (iq i10 ?_))
    rw [e, h.2.1, h.2.2.1]
    have ek : nI (10 - (k + 1)) + (1 : Int32) = nI (10 - k) := by rw [nI_1]; congr 1; omega
    unfold pAft at hQ
    by_cases q : n ≤ a
    · rw [if_pos q] at hQ
      refine ip (nI_le q (by omega)) (iq i10 ?_)
      refine iq (fun z => by have := Int32.lt_iff_toInt_lt.mp z; rw [nI_toInt (by omega), nI_toInt (by omega)] at this; omega) (hQ _ ⟨m, h, rfl⟩)
    · rw [if_neg q, if_neg (Nat.succ_ne_zero k)] at hQ
      refine iq (nI_ge (by omega) (by omega)) (y_skips (d + 19) (g := 4) (by decide) hv h ha (c := 59) (by omega) (by omega) (fun r => ⟨_, rfl, iq i10 ?_⟩) (fun r => ⟨_, rfl, ip rfl ?_⟩))
      · have ra := (pI_t.mp r).1
        rw [if_pos r, pTx_s] at hQ
        have hb := pCl_b (tx := tx) (n := n) (a := a + 1) (by omega)
        refine y_clauseC d (g := 4) (by decide) hv (cRd_at h (by decide) (a + 1)) (by omega) (by omega) (by omega) (fun m1 hm1 => ⟨_, rfl, ?_⟩)
        rw [ek]
        rcases hx : pCl tx n (a + 1) with ⟨_ | ⟨w, v, x⟩, e1⟩
        · rw [hx] at hm1 hQ
          obtain ⟨G', i1⟩ := hm1
          exact ip rfl (y_end_78 _ i1 (by omega) hQ)
        · rw [hx] at hm1 hQ hb
          obtain ⟨b1, b2, b3, b4, b5, b6⟩ := hb
          have hm1 : cRd m0 4 n e1 (gPs (gBg G w v) x) m1 := hm1
          have gu := gU_cl G w v x
          exact iq i10 (y_readL_78 d hv k e1 _ m1 (by omega) hm1 b2 (by omega) (by omega) hQ)
      · rw [if_neg r] at hQ
        rw [ek]
        exact y_end_78 _ h (by omega) hQ
theorem y_read_78 {m0 : zM} {n : Nat} {tx : Nat → Nat} (d : Nat) {Q : zQ} (hv : rGv m0 n tx) (h0 : gI m0 88 0 = nI n) (hQ : ∀ m', tDone m0 4 n m' (pTx tx n 10 (0, fun _ => 0, fun _ => 0, fun _ => 0, fun _ => 0) 0) → Q (some (.int (tAns (pTx tx n 10 (0, fun _ => 0, fun _ => 0, fun _ => 0, fun _ => 0) 0)))) m') : zCall (d + 22) m_Reader_readInto [.ref 88, .ref (58 + 5 * 4)] m0 Q := by
  have hn := hv.1
  refine en_Reader_readInto_78 (d + 21) m0 (sg_Reader_readInto_78_0 (zCall_m _) m0 ⟨fun q1 hq => ?_, fun hq => by cases hq⟩)
  cases hq
  refine bt_i (y_rc5 (g := 4) (by decide)) (y_clearG (d + 20) (g := 4) (by decide) ⟨rfl, ?_⟩)
  have hc : cRd m0 4 n 0 (0, fun _ => 0, fun _ => 0, fun _ => 0, fun _ => 0) (cleM 78 (sG (sI m0 88 2 0) 88 (some 78))) := by
    have u : ∀ q k, gI (cleM 78 (sG (sI m0 88 2 0) 88 (some 78))) q k = if q = 78 ∧ k = 6 then 0 else if q = 78 ∧ k = 2 then 0 else if q = 78 ∧ k = 1 then -1 else if q = 78 ∧ k = 0 then -1 else if q = 88 ∧ k = 2 then 0 else gI m0 q k := fun q k => by
      unfold cleM
      rw [gIs, gIs, gIs, gIs, gI_sG, gIs]
    refine ⟨fun q hq => ?_, ?_, ?_, rfl, ⟨?_, ?_, ?_, fun k hk => absurd hk (Nat.not_lt_zero _)⟩, ?_, fun j k _ hk => absurd hk (Nat.not_lt_zero _), Nat.zero_le _, Nat.zero_le _⟩
    · unfold rdP at hq
      have q1 : q ≠ 78 := by omega
      have q2 : q ≠ 88 := by omega
      refine ⟨fun k => ?_, fun k => rfl, if_neg q2⟩
      rw [u, if_neg (fun z => q1 z.1), if_neg (fun z => q1 z.1), if_neg (fun z => q1 z.1), if_neg (fun z => q1 z.1), if_neg (fun z => q2 z.1)]
    · rw [u, if_neg (by omega), if_neg (by omega), if_neg (by omega), if_neg (by omega), if_neg (by omega)]; exact h0
    · rw [u, if_neg (by omega), if_neg (by omega), if_neg (by omega), if_neg (by omega), if_pos ⟨rfl, rfl⟩]; rfl
    · rw [u, if_neg (by omega), if_pos ⟨rfl, rfl⟩]; rfl
    · rw [u, if_neg (by omega), if_neg (by omega), if_neg (by omega), if_pos ⟨rfl, rfl⟩]; rfl
    · rw [u, if_neg (by omega), if_neg (by omega), if_pos ⟨rfl, rfl⟩]; rfl
    · rw [u, if_pos ⟨rfl, rfl⟩]; rfl
  have hb := pCl_b (tx := tx) (n := n) (a := 0) (Nat.zero_le _)
  rw [pTx_s] at hQ
  refine y_clauseC d (g := 4) (by decide) hv hc (Nat.zero_le _) (by decide) (by decide) (fun m1 hm1 => ⟨_, rfl, ?_⟩)
  rcases hx : pCl tx n 0 with ⟨_ | ⟨w, v, x⟩, e1⟩
  · rw [hx] at hm1 hQ
    obtain ⟨G', i1⟩ := hm1
    exact y_end_78 (k := 1) _ i1 (by omega) hQ
  · rw [hx] at hm1 hQ hb
    obtain ⟨b1, b2, b3, b4, b5, b6⟩ := hb
    have hm1 : cRd m0 4 n e1 (gPs (gBg _ w v) x) m1 := hm1
    have gu := gU_cl (0, fun _ => 0, fun _ => 0, fun _ => 0, fun _ => 0) w v x
    have g0 : gU (0, fun _ => 0, fun _ => 0, fun _ => 0, fun _ => 0) = 0 := rfl
    have g1 : gN (0, fun _ => 0, fun _ => 0, fun _ => 0, fun _ => 0) = 0 := rfl
    exact y_readL_78 d hv 9 e1 _ m1 (by omega) hm1 b2 (by omega) (by omega) hQ
theorem y_end_83 {m0 : zM} {n a : Nat} {G : zG} {m : zM} (D : Nat) {Q : zQ} (h : cRd m0 5 n a G m) {k : Nat} (hk : k ≤ 10) (hQ : ∀ m', tDone m0 5 n m' (none, a) → Q (some (.int (nI a))) m') : zRun (zCall D) 5 (some .int) zc_Reader_readInto Q 24 [.ref 88, .ref 83, .int 0, .int (nI k)] [] m := by
  have hf := hQ _ ⟨G, m, h, rfl⟩
  have e : gI (sI m 88 0 0) 88 2 = nI a := by rw [gIs, if_neg (by omega)]; exact h.2.2.1
  have fin : Q (some (.int (gI (sI m 88 0 (0 : Int32)) 88 2))) (sI m 88 0 (0 : Int32)) := by
    rw [e]
    exact hf
  refine sg_Reader_readInto_83_24 (zCall_m _) _ _ m ?_
  by_cases q : (10 : Int32) ≤ nI k
  · exact ip q (ip rfl fin)
  · exact iq q (ip rfl (ip rfl fin))
theorem y_readL_83 {m0 : zM} {n : Nat} {tx : Nat → Nat} (d : Nat) {Q : zQ} (hv : rGv m0 n tx) : ∀ (k a : Nat) (G : zG) (m : zM), k ≤ 9 → cRd m0 5 n a G m → a ≤ n → gN G + k ≤ 10 → gU G ≤ a → (∀ m', tDone m0 5 n m' (pAft tx n k G a) → Q (some (.int (tAns (pAft tx n k G a)))) m') → zRun (zCall (d + 21)) 5 (some .int) zc_Reader_readInto Q 24 [.ref 88, .ref 83, .int 1, .int (nI (10 - k))] [] m
  | 0, a, G, m, hk, h, ha, hN, hu, hQ => by
    have hn := hv.1
    have e : gI (sI m 88 0 0) 88 2 = nI a := by rw [gIs, if_neg (by omega)]; exact h.2.2.1
    refine sg_Reader_readInto_83_24 (zCall_m _) _ _ m (ip (by decide) (iq i10 ?_))
    rw [e, h.2.1, h.2.2.1]
    unfold pAft at hQ
    by_cases q : n ≤ a
    · rw [if_pos q] at hQ
      refine iq (fun z => by have := Int32.lt_iff_toInt_lt.mp z; rw [nI_toInt (by omega), nI_toInt (by omega)] at this; omega) (hQ _ ⟨m, h, rfl⟩)
    · rw [if_neg q, if_pos rfl] at hQ
      exact ip (nI_lt (by omega) (by omega)) (hQ _ ⟨G, m, h, rfl⟩)
  | k + 1, a, G, m, hk, h, ha, hN, hu, hQ => by
    have hn := hv.1
    have e : gI (sI m 88 0 0) 88 2 = nI a := by rw [gIs, if_neg (by omega)]; exact h.2.2.1
    refine sg_Reader_readInto_83_24 (zCall_m _) _ _ m (iq (nI_ge (b := 10) (by omega) (by omega)) (iq i10 ?_))
    rw [e, h.2.1, h.2.2.1]
    have ek : nI (10 - (k + 1)) + (1 : Int32) = nI (10 - k) := by rw [nI_1]; congr 1; omega
    unfold pAft at hQ
    by_cases q : n ≤ a
    · rw [if_pos q] at hQ
      refine ip (nI_le q (by omega)) (iq i10 ?_)
      refine iq (fun z => by have := Int32.lt_iff_toInt_lt.mp z; rw [nI_toInt (by omega), nI_toInt (by omega)] at this; omega) (hQ _ ⟨m, h, rfl⟩)
    · rw [if_neg q, if_neg (Nat.succ_ne_zero k)] at hQ
      refine iq (nI_ge (by omega) (by omega)) (y_skips (d + 19) (g := 5) (by decide) hv h ha (c := 59) (by omega) (by omega) (fun r => ⟨_, rfl, iq i10 ?_⟩) (fun r => ⟨_, rfl, ip rfl ?_⟩))
      · have ra := (pI_t.mp r).1
        rw [if_pos r, pTx_s] at hQ
        have hb := pCl_b (tx := tx) (n := n) (a := a + 1) (by omega)
        refine y_clauseC d (g := 5) (by decide) hv (cRd_at h (by decide) (a + 1)) (by omega) (by omega) (by omega) (fun m1 hm1 => ⟨_, rfl, ?_⟩)
        rw [ek]
        rcases hx : pCl tx n (a + 1) with ⟨_ | ⟨w, v, x⟩, e1⟩
        · rw [hx] at hm1 hQ
          obtain ⟨G', i1⟩ := hm1
          exact ip rfl (y_end_83 _ i1 (by omega) hQ)
        · rw [hx] at hm1 hQ hb
          obtain ⟨b1, b2, b3, b4, b5, b6⟩ := hb
          have hm1 : cRd m0 5 n e1 (gPs (gBg G w v) x) m1 := hm1
          have gu := gU_cl G w v x
          exact iq i10 (y_readL_83 d hv k e1 _ m1 (by omega) hm1 b2 (by omega) (by omega) hQ)
      · rw [if_neg r] at hQ
        rw [ek]
        exact y_end_83 _ h (by omega) hQ
theorem y_read_83 {m0 : zM} {n : Nat} {tx : Nat → Nat} (d : Nat) {Q : zQ} (hv : rGv m0 n tx) (h0 : gI m0 88 0 = nI n) (hQ : ∀ m', tDone m0 5 n m' (pTx tx n 10 (0, fun _ => 0, fun _ => 0, fun _ => 0, fun _ => 0) 0) → Q (some (.int (tAns (pTx tx n 10 (0, fun _ => 0, fun _ => 0, fun _ => 0, fun _ => 0) 0)))) m') : zCall (d + 22) m_Reader_readInto [.ref 88, .ref (58 + 5 * 5)] m0 Q := by
  have hn := hv.1
  refine en_Reader_readInto_83 (d + 21) m0 (sg_Reader_readInto_83_0 (zCall_m _) m0 ⟨fun q1 hq => ?_, fun hq => by cases hq⟩)
  cases hq
  refine bt_i (y_rc5 (g := 5) (by decide)) (y_clearG (d + 20) (g := 5) (by decide) ⟨rfl, ?_⟩)
  have hc : cRd m0 5 n 0 (0, fun _ => 0, fun _ => 0, fun _ => 0, fun _ => 0) (cleM 83 (sG (sI m0 88 2 0) 88 (some 83))) := by
    have u : ∀ q k, gI (cleM 83 (sG (sI m0 88 2 0) 88 (some 83))) q k = if q = 83 ∧ k = 6 then 0 else if q = 83 ∧ k = 2 then 0 else if q = 83 ∧ k = 1 then -1 else if q = 83 ∧ k = 0 then -1 else if q = 88 ∧ k = 2 then 0 else gI m0 q k := fun q k => by
      unfold cleM
      rw [gIs, gIs, gIs, gIs, gI_sG, gIs]
    refine ⟨fun q hq => ?_, ?_, ?_, rfl, ⟨?_, ?_, ?_, fun k hk => absurd hk (Nat.not_lt_zero _)⟩, ?_, fun j k _ hk => absurd hk (Nat.not_lt_zero _), Nat.zero_le _, Nat.zero_le _⟩
    · unfold rdP at hq
      have q1 : q ≠ 83 := by omega
      have q2 : q ≠ 88 := by omega
      refine ⟨fun k => ?_, fun k => rfl, if_neg q2⟩
      rw [u, if_neg (fun z => q1 z.1), if_neg (fun z => q1 z.1), if_neg (fun z => q1 z.1), if_neg (fun z => q1 z.1), if_neg (fun z => q2 z.1)]
    · rw [u, if_neg (by omega), if_neg (by omega), if_neg (by omega), if_neg (by omega), if_neg (by omega)]; exact h0
    · rw [u, if_neg (by omega), if_neg (by omega), if_neg (by omega), if_neg (by omega), if_pos ⟨rfl, rfl⟩]; rfl
    · rw [u, if_neg (by omega), if_pos ⟨rfl, rfl⟩]; rfl
    · rw [u, if_neg (by omega), if_neg (by omega), if_neg (by omega), if_pos ⟨rfl, rfl⟩]; rfl
    · rw [u, if_neg (by omega), if_neg (by omega), if_pos ⟨rfl, rfl⟩]; rfl
    · rw [u, if_pos ⟨rfl, rfl⟩]; rfl
  have hb := pCl_b (tx := tx) (n := n) (a := 0) (Nat.zero_le _)
  rw [pTx_s] at hQ
  refine y_clauseC d (g := 5) (by decide) hv hc (Nat.zero_le _) (by decide) (by decide) (fun m1 hm1 => ⟨_, rfl, ?_⟩)
  rcases hx : pCl tx n 0 with ⟨_ | ⟨w, v, x⟩, e1⟩
  · rw [hx] at hm1 hQ
    obtain ⟨G', i1⟩ := hm1
    exact y_end_83 (k := 1) _ i1 (by omega) hQ
  · rw [hx] at hm1 hQ hb
    obtain ⟨b1, b2, b3, b4, b5, b6⟩ := hb
    have hm1 : cRd m0 5 n e1 (gPs (gBg _ w v) x) m1 := hm1
    have gu := gU_cl (0, fun _ => 0, fun _ => 0, fun _ => 0, fun _ => 0) w v x
    have g0 : gU (0, fun _ => 0, fun _ => 0, fun _ => 0, fun _ => 0) = 0 := rfl
    have g1 : gN (0, fun _ => 0, fun _ => 0, fun _ => 0, fun _ => 0) = 0 := rfl
    exact y_readL_83 d hv 9 e1 _ m1 (by omega) hm1 b2 (by omega) (by omega) hQ
theorem y_readG {m0 : zM} {g n : Nat} {tx : Nat → Nat} (d : Nat) {Q : zQ} (hg : g < 6) (hv : rGv m0 n tx) (h0 : gI m0 88 0 = nI n) (hQ : ∀ m', tDone m0 g n m' (pTx tx n 10 (0, fun _ => 0, fun _ => 0, fun _ => 0, fun _ => 0) 0) → Q (some (.int (tAns (pTx tx n 10 (0, fun _ => 0, fun _ => 0, fun _ => 0, fun _ => 0) 0)))) m') : zCall (d + 22) m_Reader_readInto [.ref 88, .ref (58 + 5 * g)] m0 Q := by
  rcases (show g = 0 ∨ g = 1 ∨ g = 2 ∨ g = 3 ∨ g = 4 ∨ g = 5 by omega) with rfl | rfl | rfl | rfl | rfl | rfl
  · exact y_read_58 d hv h0 hQ
  · exact y_read_63 d hv h0 hQ
  · exact y_read_68 d hv h0 hQ
  · exact y_read_73 d hv h0 hQ
  · exact y_read_78 d hv h0 hQ
  · exact y_read_83 d hv h0 hQ
