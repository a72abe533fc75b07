/-! the reference reads a clause -/
/-- what reading a text into garden g leaves alone -/
def mTF (g : Nat) (m0 m : zM) : Prop := zsm (fun q => q = 113 ∨ (119 ≤ q ∧ q ≤ 125)) m0 m ∧ (∀ k, ¬ rK k → gI m 113 k = gI m0 113 k) ∧ (∀ j, j ≠ g → gI m 119 j = gI m0 119 j) ∧ (∀ q, 120 ≤ q → q ≤ 123 → ∀ j, (j < 10 * g ∨ 10 * g + 10 ≤ j) → gI m q j = gI m0 q j) ∧ ∀ j, (j < 100 * g ∨ 100 * g + 100 ≤ j) → gI m 124 j = gI m0 124 j
section
variable {m0 m m' : zM} {g c n a : Nat} {tx : Nat → Nat} {G : zG}
theorem mTF_refl (m : zM) : mTF g m m := ⟨zsm_refl m, fun _ _ => rfl, fun _ _ => rfl, fun _ _ _ _ _ => rfl, fun _ _ => rfl⟩
theorem mTF_tr (h : mTF g m0 m) (h2 : mTF g m m') : mTF g m0 m' :=
  ⟨zsm_tr h.1 h2.1, fun k hk => (h2.2.1 k hk).trans (h.2.1 k hk), fun j hj => (h2.2.2.1 j hj).trans (h.2.2.1 j hj), fun q a b j hj => (h2.2.2.2.1 q a b j hj).trans (h.2.2.2.1 q a b j hj), fun j hj => (h2.2.2.2.2 j hj).trans (h.2.2.2.2 j hj)⟩
theorem mTF_n (h : nFr m m') : mTF g m m' :=
  ⟨fun q hq => ⟨fun k => h.1 q k (fun z => hq (Or.inl z.1)), fun k => h.2.1 q k, h.2.2 q⟩, fun k hk => h.1 113 k (fun z => hk (by unfold rK; omega)), fun j _ => h.1 _ _ (by omega), fun q a b j _ => h.1 _ _ (by omega), fun j _ => h.1 _ _ (by omega)⟩
theorem mTF_e (h : mFe g c m m') (h1 : 10 * g ≤ c) (h2 : c < 10 * g + 10) : mTF g m m' := by
  obtain ⟨a1, a2, a3, a4⟩ := h
  refine ⟨zsm_mo (fun q z => by omega) a1, a2, fun j _ => (a1 119 (by omega)).1 j, fun q x y j hj => ?_, a4⟩
  rcases (show q = 120 ∨ q = 121 ∨ q = 122 ∨ q = 123 by omega) with rfl | rfl | rfl | rfl
  · exact (a1 120 (by omega)).1 j
  · exact (a1 121 (by omega)).1 j
  · exact (a3 j).1
  · exact (a3 j).2 (by omega)
theorem mTF_w (m : zM) {q : Nat} (h1 : 120 ≤ q) (h2 : q ≤ 123) (h3 : 10 * g ≤ c) (h4 : c < 10 * g + 10) (x : Int32) : mTF g m (sI m q c x) :=
  ⟨zsm_sI (zsm_refl m) (Or.inr ⟨by omega, by omega⟩) x, fun k _ => by rw [gIs, if_neg (by omega)], fun j _ => by rw [gIs, if_neg (by omega)], fun p _ _ j hj => by rw [gIs, if_neg (by omega)], fun j _ => by rw [gIs, if_neg (by omega)]⟩
theorem mTF_k (m : zM) {k : Nat} (hk : rK k) (x : Int32) : mTF g m (sI m 113 k x) :=
  ⟨zsm_sI (zsm_refl m) (Or.inl rfl) x, fun j hj => by rw [gIs, if_neg (fun (z : 113 = 113 ∧ j = k) => hj (z.2 ▸ hk))], fun j _ => by rw [gIs, if_neg (by omega)], fun p _ _ j _ => by rw [gIs, if_neg (by omega)], fun j _ => by rw [gIs, if_neg (by omega)]⟩
theorem mTF_98 (h : mTF g m0 m) : gI m 113 9 = gI m0 113 9 ∧ (∀ j, gI m 118 j = gI m0 118 j) ∧ ∀ j, gI m 126 j = gI m0 126 j := ⟨h.2.1 9 (by unfold rK; omega), (h.1 118 (by omega)).1, (h.1 126 (by omega)).1⟩
theorem mGv_t (hv : mGv m0 n tx) (h : mTF g m0 m) : mGv m n tx := ⟨hv.1, (mTF_98 h).1.trans hv.2.1, fun j hj => ⟨((mTF_98 h).2.1 j).trans (hv.2.2 j hj).1, (hv.2.2 j hj).2⟩⟩
theorem gEn_cl (G : zG) (w v : Nat) (x : List Nat) {k : Nat} (hk : k < gN G) : gEn (gPs (gBg G w v) x) k = gEn G k :=
  (gPs_E x (gBg G w v) k (by show k + 1 ≠ gN G + 1; omega) (Nat.le_add_left 1 _)).trans (up_n _ (by omega))
theorem gSt_cl (G : zG) (w v : Nat) (x : List Nat) : ∀ {k : Nat}, k ≤ gN G → gSt (gPs (gBg G w v) x) k = gSt G k
  | 0, _ => rfl
  | k + 1, h => gEn_cl G w v x h
theorem gEn_la (G : zG) (w v : Nat) (x : List Nat) : gEn (gPs (gBg G w v) x) (gN G) = gU (gPs (gBg G w v) x) := by
  unfold gU
  rw [(gU_cl G w v x).2]
  rfl
/-- the clauses that stand -/
def mOld (g : Nat) (G : zG) (m : zM) : Prop := (∀ k, k < gN G → gI m 120 (10 * g + k) = nI (gWd G k) ∧ gI m 121 (10 * g + k) = nI (gNu G k) ∧ (gWd G k < 2 → gI m 122 (10 * g + k) = nI (100 * g + gSt G k) ∧ gI m 123 (10 * g + k) = nI (100 * g + gEn G k))) ∧ ∀ j, j < gU G → gI m 124 (100 * g + j) = cM (gCo G j)
def mClD (m0 : zM) (g : Nat) (G : zG) (a : Nat) (m : zM) : Prop := mTF g m0 m ∧ gI m 113 10 = nI a ∧ gI m 113 20 = nI (100 * g + gU G) ∧ mOld g G m
theorem mOld_n (h : mOld g G m) (hf : nFr m m') : mOld g G m' := by
  refine ⟨fun k hk => ?_, fun j hj => (hf.1 _ _ (by omega)).trans (h.2 j hj)⟩
  obtain ⟨x, y, z⟩ := h.1 k hk
  exact ⟨(hf.1 _ _ (by omega)).trans x, (hf.1 _ _ (by omega)).trans y, fun w => ⟨(hf.1 _ _ (by omega)).trans (z w).1, (hf.1 _ _ (by omega)).trans (z w).2⟩⟩
theorem mOld_w (h : mOld g G m) {q : Nat} (hq : q = 120 ∨ q = 121) (x : Int32) : mOld g G (sI m q (10 * g + gN G) x) := by
  refine ⟨fun k hk => ?_, fun j hj => by rw [gIs, if_neg (by omega)]; exact h.2 j hj⟩
  obtain ⟨y, z, w⟩ := h.1 k hk
  exact ⟨by rw [gIs, if_neg (by omega)]; exact y, by rw [gIs, if_neg (by omega)]; exact z, fun t => ⟨by rw [gIs, if_neg (by omega)]; exact (w t).1, by rw [gIs, if_neg (by omega)]; exact (w t).2⟩⟩
def mDoneC (m0 : zM) (g : Nat) (G : zG) (m : zM) : zCl → Prop
  | (some (w, v, x), e) => mClD m0 g (gPs (gBg G w v) x) e m
  | (none, e) => mTF g m0 m ∧ gI m 113 10 = nI e
theorem y_clauseM (d : Nat) {Q : zQ} (hg : g < 6) (hv : mGv m0 n tx) (hl : ∀ j, j < 18 → gI m0 126 j = lettersL.getD j 0) (h : mClD m0 g G a m) (hN : gN G < 10) (ha : a ≤ n) (hu : gU G ≤ a) (hQ : ∀ m', mDoneC m0 g G m' (pCl tx n a) → Q (some (.int (zb (pCl tx n a).1.isSome))) m') : zCall (d + 6) m_Mod_takesClause [.ref 113, .int (nI (10 * g + gN G))] m Q := by
  have hn := hv.1
  obtain ⟨hf, h10, h20, hO⟩ := h
  have hvm := mGv_t hv hf
  have hb := pCl_b (tx := tx) ha
  rw [pCl_m ha] at hQ hb
  have hw4 : fst1 tx n a < 4 := by unfold fst1; split; exact mWd_b _; omega
  refine en_Mod_takesClause (d + 5) _ m (sg_Mod_takesClause_0 (zCall_m _) _ m (y_headM (d + 1) hvm (fun j hj => ((mTF_98 hf).2.2 j).trans (hl j hj)) h10 ha (c := 10 * g + gN G) (by omega) (fun m2 n2 k2 => ⟨_, rfl, ?_⟩)))
  generalize fst1 tx n a = w at hQ hb hw4 n2 k2
  have f1 : mTF g m0 (sI m 120 (10 * g + gN G) (nI w)) := mTF_tr hf (mTF_w m (by omega) (by omega) (by omega) (by omega) _)
  have f2 : mTF g m0 m2 := mTF_tr f1 (mTF_n n2)
  have o2 : mOld g G m2 := mOld_n (mOld_w hO (Or.inl rfl) _) n2
  have w2 : gI m2 120 (10 * g + gN G) = nI w := (n2.1 _ _ (by omega)).trans (by rw [gIs, if_pos ⟨rfl, rfl⟩])
  have s2 : gI m2 113 20 = nI (100 * g + gU G) := (n2.1 _ _ (by omega)).trans (by rw [gIs, if_neg (by omega)]; exact h20)
  have hs := pSk_b (tx := tx) (n := n) (pSp w ++ [32]) a ha
  have hsl : 4 ≤ (pSp w ++ [32]).length := (by decide : ∀ w, w < 4 → 4 ≤ (pSp w ++ [32]).length) w hw4
  rcases hx : pSk tx n (pSp w ++ [32]) a with ⟨_ | _, e⟩
  · rw [hx] at hQ k2
    exact ip rfl ⟨by decide, hQ m2 ⟨f2, k2⟩⟩
  · rw [hx] at hQ hb k2 hs
    obtain ⟨s1, s1b, s1c⟩ := hs
    have s1 : e ≤ n := s1
    have s1c : e = a + (pSp w ++ [32]).length := s1c rfl
    dsimp only at hQ hb
    refine iq i10 (y_numM (m0 := m0) (d + 2) hv (mTF_98 f2).1 (mTF_98 f2).2.1 k2 s1 (fun m3 v e1 hy n3 k3 v3 => ⟨_, rfl, ip i10 ?_⟩) (fun hy => ⟨_, rfl, iq i00 ⟨by decide, ?_⟩⟩))
    · rw [hy] at hQ hb
      have hpn := pNum_b (tx := tx) (n := n) s1 _ _ hy
      have pv := hpn.2.2 v rfl
      dsimp only at hQ hb
      have f3 : mTF g m0 m3 := mTF_tr f2 (mTF_n n3)
      have w3 : gI m3 120 (10 * g + gN G) = nI w := (n3.1 _ _ (by omega)).trans w2
      have s3 : gI m3 113 20 = nI (100 * g + gU G) := (n3.1 _ _ (by omega)).trans s2
      refine ⟨vp_in_nI (by omega) (by omega), vp_in_nI (by omega) (by omega), ?_⟩
      rw [nI_clamp (by omega), v3]
      have f4 : mTF g m0 (sI m3 121 (10 * g + gN G) (nI v)) := mTF_tr f3 (mTF_w m3 (by omega) (by omega) (by omega) (by omega) _)
      have o4 : mOld g G (sI m3 121 (10 * g + gN G) (nI v)) := mOld_w (mOld_n o2 n3) (Or.inr rfl) _
      have w4 : gI (sI m3 121 (10 * g + gN G) (nI v)) 120 (10 * g + gN G) = nI w := by rw [gIs, if_neg (by omega)]; exact w3
      have v4 : gI (sI m3 121 (10 * g + gN G) (nI v)) 121 (10 * g + gN G) = nI v := by rw [gIs, if_pos ⟨rfl, rfl⟩]
      have s4 : gI (sI m3 121 (10 * g + gN G) (nI v)) 113 20 = nI (100 * g + gU G) := by rw [gIs, if_neg (by omega)]; exact s3
      have k4 : gI (sI m3 121 (10 * g + gN G) (nI v)) 113 10 = nI e1 := by rw [gIs, if_neg (by omega)]; exact k3
      generalize sI m3 121 (10 * g + gN G) (nI v) = m4 at f4 o4 w4 v4 s4 k4
      rw [w4]
      unfold pBody at hQ hb
      by_cases q : w < 2
      · rw [if_pos q] at hQ hb
        refine iq (nI_ge (b := 2) q (by omega)) (y_takesM (m0 := m0) (k := 32) (d + 3) hv (mTF_98 f4).1 (mTF_98 f4).2.1 k4 hpn.1 (by omega) (fun t => ⟨_, rfl, iq i10 ?_⟩) (fun t => ⟨_, rfl, ip rfl ⟨by decide, ?_⟩⟩))
        · have ta := (pI_t.mp t).1
          rw [if_pos t] at hQ hb
          have nn : nFr m4 (sI m4 113 10 (nI (e1 + 1))) := nFr_k (nFr_refl m4) (Or.inl rfl) _
          have f5 : mTF g m0 (sI m4 113 10 (nI (e1 + 1))) := mTF_tr f4 (mTF_n nn)
          have o5 := mOld_n o4 nn
          have w5 := (nn.1 120 (10 * g + gN G) (by omega)).trans w4
          have v5 := (nn.1 121 (10 * g + gN G) (by omega)).trans v4
          have s5 := (nn.1 113 20 (by omega)).trans s4
          have k5 : gI (sI m4 113 10 (nI (e1 + 1))) 113 10 = nI (e1 + 1) := by rw [gIs, if_pos ⟨rfl, rfl⟩]
          generalize sI m4 113 10 (nI (e1 + 1)) = m5 at f5 o5 w5 v5 s5 k5
          refine y_takesEM (H0 := gBg G w v) (c := 10 * g + gN G) d hg (mGv_t hv f5) (Nat.le_add_left 1 _) (by omega) k5 (by rw [gU_Bg]; exact s5) (fun j hj => by rw [gU_Bg] at hj; exact o5.2 j hj) ta (by omega) (by rw [gU_Bg]; omega) (fun m7 h7 => ⟨_, rfl, ?_⟩)
          have f6 : mTF g m0 (sI (sI (sI m5 113 21 0) 113 22 0) 122 (10 * g + gN G) (nI (100 * g + gU (gBg G w v)))) := mTF_tr (mTF_tr (mTF_tr f5 (mTF_k m5 (by unfold rK; omega) _)) (mTF_k _ (by unfold rK; omega) _)) (mTF_w _ (by omega) (by omega) (by omega) (by omega) _)
          have u6 : ∀ q k, q ≠ 113 → ¬ (q = 122 ∧ k = 10 * g + gN G) → gI (sI (sI (sI m5 113 21 0) 113 22 0) 122 (10 * g + gN G) (nI (100 * g + gU (gBg G w v)))) q k = gI m5 q k := fun q k x y => by rw [gIs, if_neg y, gIs, if_neg (fun z => x z.1), gIs, if_neg (fun z => x z.1)]
          have u7 : gI (sI (sI (sI m5 113 21 0) 113 22 0) 122 (10 * g + gN G) (nI (100 * g + gU (gBg G w v)))) 122 (10 * g + gN G) = nI (100 * g + gU G) := by rw [gIs, if_pos ⟨rfl, rfl⟩, gU_Bg]
          generalize sI (sI (sI m5 113 21 0) 113 22 0) 122 (10 * g + gN G) (nI (100 * g + gU (gBg G w v))) = m6 at f6 u6 u7 h7
          rcases hz : pE tx n (pPart tx n 4) (e1 + 1) with ⟨_ | x, e2⟩
          · rw [hz] at hQ h7
            obtain ⟨H', W', h7⟩ := h7
            exact ip rfl ⟨by decide, hQ m7 ⟨mTF_tr f6 (mTF_e h7.1 (by omega) (by omega)), h7.2.1⟩⟩
          · rw [hz] at hQ h7
            obtain ⟨h7, k7⟩ := h7
            obtain ⟨⟨z1, z2, z3, z4⟩, i10', i21, _, i22, i20, ico⟩ := h7
            have e120 : ∀ k, gI m7 120 k = gI m6 120 k := (z1 120 (by omega)).1
            have e121 : ∀ k, gI m7 121 k = gI m6 121 k := (z1 121 (by omega)).1
            have hG := gU_cl G w v x
            have gE := gPs_E x (gBg G w v)
            obtain ⟨p1, p2, p3⟩ := gPs_N x (gBg G w v)
            refine iq i10 ⟨by decide, hQ m7 ⟨mTF_tr f6 (mTF_e ⟨z1, z2, z3, z4⟩ (by omega) (by omega)), i10', i20, fun k hk => ?_, ico⟩⟩
            rw [hG.2] at hk
            rw [p2, p3, e120, e121, u6 _ _ (by omega) (by omega), u6 _ _ (by omega) (by omega)]
            have eN : gN (gBg G w v) = gN G + 1 := rfl
            by_cases r : k = gN G
            · subst r
              rw [show gWd (gBg G w v) (gN G) = w from up_s _ _ _, show gNu (gBg G w v) (gN G) = v from up_s _ _ _]
              refine ⟨w5, v5, fun _ => ⟨?_, ?_⟩⟩
              · rw [(z3 _).1, u7, gSt_cl G w v x (Nat.le_refl _)]
                rfl
              · rw [gEn_la]
                exact k7
            · have hk2 : k < gN G := by omega
              obtain ⟨y1, y2, y3⟩ := o5.1 k hk2
              rw [show gWd (gBg G w v) k = gWd G k from up_n _ r, show gNu (gBg G w v) k = gNu G k from up_n _ r]
              refine ⟨y1, y2, fun z => ?_⟩
              rw [(z3 _).1, (z3 _).2 (by omega), u6 _ _ (by omega) (by omega), u6 _ _ (by omega) (by omega), gSt_cl G w v x (by omega), gEn_cl G w v x hk2]
              exact y3 z
        · rw [if_neg t] at hQ
          exact hQ m4 ⟨f4, k4⟩
      · rw [if_neg q] at hQ
        refine ip (nI_le (a := 2) (by omega) (by omega)) ⟨by decide, hQ m4 ⟨f4, k4, by rw [show gPs (gBg G w v) [] = gBg G w v from rfl, gU_Bg]; exact s4, fun k hk => ?_, fun j hj => ?_⟩⟩
        · have hk : k < gN G + 1 := hk
          by_cases r : k = gN G
          · subst r
            rw [show gWd (gPs (gBg G w v) []) (gN G) = w from up_s _ _ _, show gNu (gPs (gBg G w v) []) (gN G) = v from up_s _ _ _]
            exact ⟨w4, v4, fun z => absurd z q⟩
          · have hk2 : k < gN G := by omega
            obtain ⟨y1, y2, y3⟩ := o4.1 k hk2
            rw [show gWd (gPs (gBg G w v) []) k = gWd G k from up_n _ r, show gNu (gPs (gBg G w v) []) k = gNu G k from up_n _ r]
            refine ⟨y1, y2, fun z => ?_⟩
            rw [gSt_cl G w v [] (by omega), gEn_cl G w v [] hk2]
            exact y3 z
        · rw [show gPs (gBg G w v) [] = gBg G w v from rfl, gU_Bg] at hj
          exact o4.2 j hj
    · rw [hy] at hQ
      exact hQ m2 ⟨f2, k2⟩
end
