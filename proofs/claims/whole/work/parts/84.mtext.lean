/-! the reference reads a text -/
section
variable {m0 : zM} {g n : Nat} {tx : Nat → Nat}
def mTD (m0 : zM) (g : Nat) (m : zM) : Option zG × Nat → Prop
  | (some G, e) => mClD m0 g G e m ∧ gI m 119 g = nI (gN G)
  | (none, e) => mTF g m0 m ∧ gI m 113 10 = nI e
theorem mTF_9 (m : zM) (x : Int32) : mTF g m (sI m 119 g x) :=
  ⟨zsm_sI (zsm_refl m) (Or.inr ⟨by omega, by omega⟩) x, fun k _ => by rw [gIs, if_neg (by omega)], fun j hj => by rw [gIs, if_neg (fun z => hj z.2)], fun p _ _ j _ => by rw [gIs, if_neg (by omega)], fun j _ => by rw [gIs, if_neg (by omega)]⟩
theorem mClD_9 {m : zM} {G : zG} {a : Nat} (h : mClD m0 g G a m) (x : Int32) : mClD m0 g G a (sI m 119 g x) := by
  obtain ⟨a1, a2, a3, a4, a5⟩ := h
  refine ⟨mTF_tr a1 (mTF_9 m x), by rw [gIs, if_neg (by omega)]; exact a2, by rw [gIs, if_neg (by omega)]; exact a3, fun k hk => ?_, fun j hj => by rw [gIs, if_neg (by omega)]; exact a5 j hj⟩
  obtain ⟨y1, y2, y3⟩ := a4 k hk
  exact ⟨by rw [gIs, if_neg (by omega)]; exact y1, by rw [gIs, if_neg (by omega)]; exact y2, fun z => ⟨by rw [gIs, if_neg (by omega)]; exact (y3 z).1, by rw [gIs, if_neg (by omega)]; exact (y3 z).2⟩⟩
theorem mClD_at {m : zM} {G : zG} {a : Nat} (h : mClD m0 g G a m) (e : Nat) : mClD m0 g G e (sI m 113 10 (nI e)) := by
  have nn : nFr m (sI m 113 10 (nI e)) := nFr_k (nFr_refl m) (Or.inl rfl) _
  exact ⟨mTF_tr h.1 (mTF_n nn), by rw [gIs, if_pos ⟨rfl, rfl⟩], (nn.1 _ _ (by omega)).trans h.2.2.1, mOld_n h.2.2.2 nn⟩
theorem y_goesL (d : Nat) {Q : zQ} (hg : g < 6) (hv : mGv m0 n tx) (hl : ∀ j, j < 18 → gI m0 126 j = lettersL.getD j 0) : ∀ (k : Nat) (G : zG) (a : Nat) (m : zM), gN G + (k + 1) = 10 → mClD m0 g G a m → a ≤ n → gU G ≤ a → (∀ m', mTD m0 g m' (pTx tx n (k + 1) G a) → Q (some (.int (zb (pTx tx n (k + 1) G a).1.isSome))) m') → zRun (zCall (d + 6)) 9 (some .boolean) zc_Mod_goesText Q 15 [.ref 113, .int (nI g), .int (nI (gN G))] [] m := by
  intro k
  induction k with
  | zero =>
    intro G a m hN h ha hu hQ
    have hn := hv.1
    have hb := pCl_b (tx := tx) ha
    rw [pTx_s] at hQ
    refine sg_Mod_goesText_15 (zCall_m _) _ _ m ?_
    rw [show (10 : Int32) = nI 10 from rfl, pk_mul, nI_add, nI_1]
    refine y_clauseM d hg hv hl h (by omega) ha hu (fun m2 h2 => ⟨_, rfl, ?_⟩)
    rcases hx : pCl tx n a with ⟨_ | ⟨w, v, x⟩, e⟩
    · rw [hx] at hQ h2
      exact iq i00 ⟨by decide, hQ m2 h2⟩
    · rw [hx] at hQ h2 hb
      obtain ⟨b1, b2, b3, b4, b5, b6⟩ := hb
      have hG := gU_cl G w v x
      have h2 : mClD m0 g (gPs (gBg G w v) x) e m2 := h2
      refine ip i10 ⟨vp_in_nI hg (by omega), ?_⟩
      rw [nI_clamp (by omega)]
      have h3 := mClD_9 h2 (nI (gN G + 1))
      have k3 : gI (sI m2 119 g (nI (gN G + 1))) 119 g = nI (gN (gPs (gBg G w v) x)) := by rw [gIs, if_pos ⟨rfl, rfl⟩, hG.2]
      generalize sI m2 119 g (nI (gN G + 1)) = m3 at h3 k3
      have e9 : gI m3 113 9 = nI n := (mTF_98 h3.1).1.trans hv.2.1
      rw [e9, h3.2.1]
      unfold pAft at hQ
      dsimp only at hQ
      by_cases q : n ≤ e
      · rw [if_pos q] at hQ
        exact iq (fun z => z (by rw [show e = n by omega])) ⟨by decide, hQ m3 ⟨h3, k3⟩⟩
      · rw [if_neg q, if_pos rfl] at hQ
        exact ip (nI_ne (by omega) (by omega) (by omega)) (ip (by rw [show gN G + 1 = 10 by omega]) ⟨by decide, hQ m3 ⟨h3.1, h3.2.1⟩⟩)
  | succ k IH =>
    intro G a m hN h ha hu hQ
    have hn := hv.1
    have hb := pCl_b (tx := tx) ha
    rw [pTx_s] at hQ
    refine sg_Mod_goesText_15 (zCall_m _) _ _ m ?_
    rw [show (10 : Int32) = nI 10 from rfl, pk_mul, nI_add, nI_1]
    refine y_clauseM d hg hv hl h (by omega) ha hu (fun m2 h2 => ⟨_, rfl, ?_⟩)
    rcases hx : pCl tx n a with ⟨_ | ⟨w, v, x⟩, e⟩
    · rw [hx] at hQ h2
      exact iq i00 ⟨by decide, hQ m2 h2⟩
    · rw [hx] at hQ h2 hb
      obtain ⟨b1, b2, b3, b4, b5, b6⟩ := hb
      have hG := gU_cl G w v x
      have h2 : mClD m0 g (gPs (gBg G w v) x) e m2 := h2
      refine ip i10 ⟨vp_in_nI hg (by omega), ?_⟩
      rw [nI_clamp (by omega)]
      have h3 := mClD_9 h2 (nI (gN G + 1))
      have k3 : gI (sI m2 119 g (nI (gN G + 1))) 119 g = nI (gN (gPs (gBg G w v) x)) := by rw [gIs, if_pos ⟨rfl, rfl⟩, hG.2]
      generalize sI m2 119 g (nI (gN G + 1)) = m3 at h3 k3
      have e9 : gI m3 113 9 = nI n := (mTF_98 h3.1).1.trans hv.2.1
      rw [e9, h3.2.1]
      unfold pAft at hQ
      dsimp only at hQ
      by_cases q : n ≤ e
      · rw [if_pos q] at hQ
        exact iq (fun z => z (by rw [show e = n by omega])) ⟨by decide, hQ m3 ⟨h3, k3⟩⟩
      · rw [if_neg q, if_neg (Nat.succ_ne_zero k)] at hQ
        refine ip (nI_ne (by omega) (by omega) (by omega)) (iq (nI_ne (by omega) (by omega) (by omega)) (y_takesM (m0 := m0) (k := 59) (d + 4) hv (mTF_98 h3.1).1 (mTF_98 h3.1).2.1 h3.2.1 b2 (by omega) (fun t => ⟨_, rfl, ip i10 ?_⟩) (fun t => ⟨_, rfl, iq i00 ⟨by decide, ?_⟩⟩)))
        · have ta := (pI_t.mp t).1
          rw [if_pos t] at hQ
          have := IH (gPs (gBg G w v) x) (e + 1) _ (by omega) (mClD_at h3 (e + 1)) (by omega) (by omega) hQ
          rw [hG.2] at this
          exact this
        · rw [if_neg t] at hQ
          exact hQ m3 ⟨h3.1, h3.2.1⟩
theorem y_goesM (d : Nat) {Q : zQ} (hg : g < 6) (hv : mGv m0 n tx) (hl : ∀ j, j < 18 → gI m0 126 j = lettersL.getD j 0) (hQ : ∀ m', mTD m0 g m' (pTx tx n 10 (0, fun _ => 0, fun _ => 0, fun _ => 0, fun _ => 0) 0) → Q (some (.int (zb (pTx tx n 10 (0, fun _ => 0, fun _ => 0, fun _ => 0, fun _ => 0) 0).1.isSome))) m') : zCall (d + 7) m_Mod_goesText [.ref 113, .int (nI g)] m0 Q := by
  refine en_Mod_goesText (d + 6) _ m0 (sg_Mod_goesText_0 (zCall_m _) _ m0 ?_)
  rw [show (100 : Int32) = nI 100 from rfl, pk_mul]
  refine y_goesL d hg hv hl 9 (0, fun _ => 0, fun _ => 0, fun _ => 0, fun _ => 0) 0 _ rfl ⟨mTF_tr (mTF_k m0 (by unfold rK; omega) _) (mTF_k _ (by unfold rK; omega) _), ?_, ?_, fun k hk => absurd hk (Nat.not_lt_zero _), fun j hj => absurd hj (Nat.not_lt_zero _)⟩ (Nat.zero_le _) (Nat.zero_le _) hQ
  · rw [gIs, if_neg (by omega), gIs, if_pos ⟨rfl, rfl⟩]; rfl
  · rw [gIs, if_pos ⟨rfl, rfl⟩]; rfl
end
