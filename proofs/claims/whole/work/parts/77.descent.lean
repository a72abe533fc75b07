/-! the class's descent lays what the grammar says (gen77.py) -/
theorem zb_m (b : Bool) : zb b &&& 1 = zb b := by cases b <;> decide
theorem i00 : ¬ ¬ (0 : Int32) = 0 := by decide
theorem i10 : ¬ (1 : Int32) = 0 := by decide
theorem i0n : ¬ (0 : Int32) ≤ -1 := by decide
theorem bt_i {b : Bool} {A B : Prop} (h : b = true) (x : A) : (bif b && (true && true) then A else B) := by rw [h]; exact x
theorem gLo_Pt (G : zG) (s w : Nat) : ∀ k, gLo (gPt G s) w k = gLo G w k
  | 0 => rfl
  | k + 1 => by
    unfold gLo
    rw [gLo_Pt G s w k]
    rfl
theorem gLo_Bg (G : zG) (w v x : Nat) : ∀ k, k ≤ gN G → gLo (gBg G w v) x k = gLo G x k
  | 0, _ => rfl
  | k + 1, h => by
    unfold gLo
    rw [gLo_Bg G w v x k (by omega), show gWd (gBg G w v) k = gWd G k from up_n _ (by omega), show gNu (gBg G w v) k = gNu G k from up_n _ (by omega)]
theorem gU_L {G : zG} (h : 1 ≤ gN G) : gU G = gEn G (gN G - 1) := by
  obtain ⟨N, hN⟩ : ∃ N, gN G = N + 1 := ⟨gN G - 1, by omega⟩
  unfold gU
  rw [hN]
  rfl
theorem gI_put (p : Nat) (m : zM) (c u : Nat) (x : Int32) (q k : Nat) : gI (putM p m c u x) q k = if q = p + 3 ∧ k = c - 1 then nI (u + 1) else if q = p ∧ k = 6 then nI (u + 1) else if q = p + 4 ∧ k = u then x else gI m q k := by
  unfold putM
  rw [gIs, gIs, gIs]
theorem zsm_put {P : Nat → Prop} {m0 m : zM} (h : zsm P m0 m) {p : Nat} (hp : ∀ q, p ≤ q → q ≤ p + 4 → P q) (c u : Nat) (x : Int32) : zsm P m0 (putM p m c u x) :=
  zsm_sI (zsm_sI (zsm_sI h (hp _ (by omega) (by omega)) _) (hp _ (by omega) (by omega)) _) (hp _ (by omega) (by omega)) _
section
variable {m0 : zM} {g n : Nat} {tx : Nat → Nat} {G : zG} {a : Nat} {m : zM}
theorem cRd_put (h : cRd m0 g n a G m) (h1 : 1 ≤ gN G) (hu : gU G < 100) (hg : g < 6) (s : Nat) : cRd m0 g n a (gPt G s) (putM (58 + 5 * g) m (gN G) (gU G) (cX s)) := by
  obtain ⟨a1, a2, a3, a4, ⟨x1, x2, x3, x4⟩, a6, a7, a8, a9⟩ := h
  refine ⟨zsm_put a1 (fun q x y => Or.inr ⟨x, by omega⟩) _ _ _, ?_, ?_, ?_, ⟨?_, ?_, ?_, fun k hk => ?_⟩, ?_, gMn_Pt a7 s, a8, ?_⟩
  · rw [gI_put, if_neg (by omega), if_neg (by omega), if_neg (by omega)]; exact a2
  · rw [gI_put, if_neg (by omega), if_neg (by omega), if_neg (by omega)]; exact a3
  · exact a4
  · rw [gI_put, if_neg (by omega), if_neg (by omega), if_neg (by omega)]; exact x1
  · rw [gI_put, if_neg (by omega), if_neg (by omega), if_neg (by omega), gLo_Pt]; exact x2
  · rw [gI_put, if_neg (by omega), if_neg (by omega), if_neg (by omega), gLo_Pt]; exact x3
  · have hk : k < gN G := hk
    obtain ⟨y1, y2, y3, y4⟩ := x4 k hk
    have hm := gMn_U a7 hk
    refine ⟨?_, ?_, ?_, fun j hj => ?_⟩
    · rw [gI_put, if_neg (by omega), if_neg (by omega), if_neg (by omega)]; exact y1
    · rw [gI_put, if_neg (by omega), if_neg (by omega), if_neg (by omega)]; exact y2
    · show _ = nI (up (gEn G) (gN G - 1) (gU G + 1) k)
      rw [gI_put]
      by_cases q : k = gN G - 1
      · rw [if_pos ⟨by omega, q⟩, q, up_s]
      · rw [if_neg (by omega), if_neg (by omega), if_neg (by omega), up_n _ q]; exact y3
    · show _ = cX (up (gCo G) (gU G) s j)
      have hj : j < up (gEn G) (gN G - 1) (gU G + 1) k := hj
      rw [gI_put, if_neg (by omega), if_neg (by omega)]
      by_cases q : j = gU G
      · rw [if_pos ⟨by omega, q⟩, q, up_s]
      · rw [if_neg (fun z => q z.2), up_n _ q]
        by_cases r : k = gN G - 1
        · subst r
          rw [up_s] at hj
          rw [← gU_L h1] at y4
          exact y4 j (by omega)
        · rw [up_n _ r] at hj
          exact y4 j hj
  · rw [gI_put, if_neg (by omega), if_pos ⟨rfl, rfl⟩, gU_Pt h1]
  · rw [gU_Pt h1]; exact hu
theorem y_putC (d : Nat) {Q : zQ} (hg : g < 6) (h : cRd m0 g n a G m) (h1 : 1 ≤ gN G) (hu : gU G < 100) (s : Nat) (hQ : ∀ m', cRd m0 g n a (gPt G s) m' → Q none m') : zCall (d + 1) m_Garden_put [.ref (58 + 5 * g), .int (cX s)] m Q :=
  y_putG d hg h.2.2.2.2.1.1 h1 h.2.2.2.2.2.2.2.1 h.2.2.2.2.2.1 hu _ (hQ _ (cRd_put h h1 hu hg s))
theorem y_putF (d : Nat) {Q : zQ} (hg : g < 6) (h : cRd m0 g n a G m) (h1 : 1 ≤ gN G) (s : Nat) (hQ : ∀ m' G', cRd m0 g n a G' m' → gN G' = gN G → Q none m') : zCall (d + 1) m_Garden_put [.ref (58 + 5 * g), .int (cX s)] m Q := by
  by_cases hu : gU G < 100
  · exact y_putC d hg h h1 hu s (fun m' hm => hQ m' _ hm rfl)
  · have := h.2.2.2.2.2.2.2.2
    exact y_putN d hg h.2.2.2.2.2.1 (by omega) (by omega) _ (hQ m G h rfl)
/-- what a reader leaves -/
def cDone (m0 : zM) (g n : Nat) (G : zG) (m : zM) : zP → Prop
  | (some x, e) => cRd m0 g n e (gPs G x) m
  | (none, e) => ∃ G', cRd m0 g n e G' m ∧ gN G' = gN G
theorem hr_l {f : Nat → Nat} {k : Nat} (h0 : f 0 = k) : (a < n ∧ f (tx a) < k) ↔ f (hr tx n a) < k := by
  unfold hr
  by_cases q : a < n
  · rw [if_pos q]; exact ⟨fun z => z.2, fun z => ⟨q, z⟩⟩
  · rw [if_neg q, h0]; exact ⟨fun z => absurd z.1 q, fun z => by omega⟩
theorem ix_5 : ∀ t, t < 128 → ixF (fun j => ([112, 107, 118, 116, 104, 100] : List Nat).getD j 0) t 6 0 = if pLt t < 6 then nI (pLt t) else -1 := by decide +kernel
theorem ix_6 : ∀ t, t < 128 → ixF (fun j => ([60, 61, 62] : List Nat).getD j 0) t 3 0 = if 60 ≤ t ∧ t ≤ 62 then nI (t - 60) else -1 := by decide +kernel
theorem ix_4 : ∀ t, t < 128 → ixF (fun j => ([115, 113, 102, 108] : List Nat).getD j 0) t 4 0 = if pWd t < 4 then nI (pWd t) else -1 := by decide +kernel
theorem cRd_b (hg : g < 6) (hv : rGv m0 n tx) (h : cRd m0 g n a G m) {i : Nat} (hi : i < 7) {j : Nat} (hj : j < zslen.getD i 0) : gI m (11 + i) j = (zsby.getD i []).getD j 0 := (cRd_g hg h (by omega) j).trans (hv.2.2 i hi j hj)
theorem y_testC (d : Nat) {Q : zQ} (hg : g < 6) (hv : rGv m0 n tx) (h : cRd m0 g n a G m) (ha : a ≤ n) (h1 : 1 ≤ gN G) (hu : gU G ≤ a) (hQ : ∀ m', cDone m0 g n G m' (pTest tx n a) → Q (some (.int (zb (pTest tx n a).1.isSome))) m') : zCall (d + 5) m_Reader_isTest [.ref 88] m Q := by
  have hn := hv.1
  refine en_Reader_isTest (d + 4) m (sg_Reader_isTest_0 (zCall_m _) m (y_here (d + 3) hg hv h ha ⟨_, rfl, y_ix_5 d (fun j hj => (cRd_b hg hv h (i := 1) (by omega) hj).trans ((by decide : ∀ j, j < 6 → (zsby.getD 1 []).getD j 0 = nI (([112, 107, 118, 116, 104, 100] : List Nat).getD j 0)) j hj)) (hr_b hv a) ⟨_, rfl, ?_⟩⟩))
  rw [ix_5 _ (hr_b hv a)]
  unfold pTest at hQ
  by_cases q : pLt (hr tx n a) < 6
  · have qa := (hr_l (tx := tx) (n := n) (f := pLt) (k := 6) rfl).mpr q
    have et : hr tx n a = tx a := if_pos qa.1
    rw [if_pos qa] at hQ
    rw [if_pos q, et]
    have hl : pLt (tx a) < 6 := qa.2
    refine ip (nI_pos' (by omega)) ?_
    rw [h.2.2.1, nI_1]
    have h2 := cRd_at h hg (a + 1)
    refine y_here (d + 3) hg hv h2 (by omega) ⟨_, rfl, y_ix_6 d (fun j hj => (cRd_b hg hv h2 (i := 2) (by omega) hj).trans ((by decide : ∀ j, j < 3 → (zsby.getD 2 []).getD j 0 = nI (([60, 61, 62] : List Nat).getD j 0)) j hj)) (hr_b hv (a + 1)) ⟨_, rfl, ?_⟩⟩
    rw [ix_6 _ (hr_b hv (a + 1))]
    by_cases r : a + 1 < n ∧ 60 ≤ tx (a + 1) ∧ tx (a + 1) ≤ 62
    · rw [if_pos r] at hQ
      have er : hr tx n (a + 1) = tx (a + 1) := if_pos r.1
      rw [er, if_pos r.2]
      refine ip (nI_pos' (by omega)) ?_
      rw [h2.2.2.1, nI_1]
      have h3 := cRd_at h2 hg (a + 1 + 1)
      refine y_num (d + 3) hg hv h3 (by omega) (fun m3 hm3 => ⟨_, rfl, ?_⟩)
      have hb := pNum_b (tx := tx) (n := n) (a := a + 1 + 1) (by omega)
      have hx : pNum tx n (a + 2) = pNum tx n (a + 1 + 1) := rfl
      rw [hx] at hQ
      rcases hy : pNum tx n (a + 1 + 1) with ⟨_ | v, e⟩
      · rw [hy] at hQ hm3
        exact iq i0n ⟨by decide, hQ m3 ⟨_, hm3, rfl⟩⟩
      · rw [hy] at hQ hm3
        obtain ⟨b1, b2, b3⟩ := hb _ _ hy
        have b4 := b3 v rfl
        refine ip (nI_pos' (by omega)) ⟨fun q16 hq => ?_, fun hq => ?_⟩
        · rw [hm3.2.2.2.1] at hq
          cases hq
          refine en_Garden_test (d + 3) _ _ _ m3 (sg_Garden_test_0 (zCall_m _) _ _ _ m3 ⟨_, rfl, bt_i (y_rc7 hg _) ?_⟩)
          have es : (nI (pLt (tx a)) * (3 : Int32) + nI (tx (a + 1) - 60)) * (100 : Int32) + nI v = cX (300 * pLt (tx a) + 100 * (tx (a + 1) - 60) + v) := by
            rw [cX_t (by omega), show (3 : Int32) = nI 3 from rfl, show (100 : Int32) = nI 100 from rfl, pk_mul, nI_add, pk_mul, nI_add]
            congr 1
            omega
          rw [show oN (some v, e).1 = nI v from rfl, es]
          exact y_putC (d + 3) hg hm3 h1 (by omega) _ (fun m' hm' => ⟨rfl, by decide, hQ m' hm'⟩)
        · rw [hm3.2.2.2.1] at hq
          cases hq
    · rw [if_neg r] at hQ
      have er : ¬ (60 ≤ hr tx n (a + 1) ∧ hr tx n (a + 1) ≤ 62) := by
        unfold hr
        by_cases q1 : a + 1 < n
        · rw [if_pos q1]; exact fun z => r ⟨q1, z⟩
        · rw [if_neg q1]; omega
      rw [if_neg er]
      exact iq (by decide) ⟨by decide, hQ _ ⟨_, h2, rfl⟩⟩
  · rw [if_neg (fun z => q ((hr_l (f := pLt) (k := 6) rfl).mp z))] at hQ
    rw [if_neg q]
    exact iq (by decide) ⟨by decide, hQ m ⟨_, h, rfl⟩⟩
/-- a reader of the class reads as p says -/
def cReads (m0 : zM) (g n D : Nat) (mth : Nat) (dp : Int32) (p : Nat → zP) : Prop := ∀ (Q : zQ) (m : zM) (G : zG) (a : Nat), cRd m0 g n a G m → a ≤ n → 1 ≤ gN G → gU G ≤ a → (∀ m', cDone m0 g n G m' (p a) → Q (some (.int (zb (p a).1.isSome))) m') → zCall D mth [.ref 88, .int dp] m Q
theorem pW_le (b : Bool) : pW b ≤ 1 := by cases b <;> decide
theorem y_isBothL {D : Nat} (hg : g < 6) (hv : rGv m0 n tx) {dp : Int32} {p : Nat → zP} (hb : ∀ a, a ≤ n → pOk (n := n) a 0 (p a)) (hp : cReads m0 g n (D + 2) m_Reader_isPart dp p) {Q : zQ} :
    ∀ (k : Nat) (b : Bool) (a : Nat) (G : zG) (m : zM), k ≤ 100 → (k = 100 ↔ b = true) → cRd m0 g n a G m → a ≤ n → 1 ≤ gN G → gU G + pW b ≤ a → (∀ m', cDone m0 g n G m' (pLst tx n p 38 1801 k b a) → Q (some (.int (zb (pLst tx n p 38 1801 k b a).1.isSome))) m') → zRun (zCall (D + 2)) 5 (some .boolean) zc_Reader_isBoth Q 2 [.ref 88, .int dp, .int (nI (100 - k))] [] m
  | 0, b, a, G, m, hk, hkb, h, ha, h1, hu, hQ => sg_Reader_isBoth_2 (zCall_m _) _ _ m (ip (by decide) ⟨by decide, hQ m ⟨G, h, rfl⟩⟩)
  | k + 1, b, a, G, m, hk, hkb, h, ha, h1, hu, hQ => by
    have hn := hv.1
    have hpb := hb a ha
    refine sg_Reader_isBoth_2 (zCall_m _) _ _ m (iq (nI_ge (b := 100) (by omega) (by omega)) (hp _ m G a h ha h1 (by omega) (fun m1 hm1 => ⟨_, rfl, ?_⟩)))
    rcases hx : p a with ⟨_ | x, e⟩
    · rw [hx] at hm1
      rw [show pLst tx n p 38 1801 (k + 1) b a = (none, e) from by unfold pLst; rw [hx]] at hQ
      exact iq i00 ⟨by decide, hQ m1 hm1⟩
    · rw [hx] at hm1 hpb
      obtain ⟨b1, b2, b3⟩ := hpb
      have hm1 : cRd m0 g n e (gPs G x) m1 := hm1
      have gu := gPs_U x G h1
      have gn := (gPs_N x G).1
      refine ip i10 ?_
      have fin : ∀ m2, cRd m0 g n e (gPs G (x ++ pT 1801 b)) m2 → gU (gPs G (x ++ pT 1801 b)) ≤ e → zCall (D + 2) m_Reader_skips [.ref 88, .int 38] m2 (fun o4 m5 => ∃ x6, o4 = some (.int x6) ∧ (if ¬ x6 = (0 : Int32) then zRun (zCall (D + 2)) 5 (some .boolean) zc_Reader_isBoth Q 2 [.ref 88, .int dp, .int (nI (100 - (k + 1)) + (1 : Int32))] [] m5
          else (1 : Int32) &&& 1 = (1 : Int32) ∧ Q (some (.int (1 : Int32))) m5)) := by
        intro m2 hm2 hu2
        have gn2 := (gPs_N (x ++ pT 1801 b) G).1
        refine y_skips D hg hv hm2 b2 (c := 38) (by omega) (by omega) (fun q => ⟨_, rfl, ip (by decide) ?_⟩) (fun q => ⟨_, rfl, iq (by decide) ⟨by decide, ?_⟩⟩)
        · have qa := (pI_t.mp q).1
          rw [nI_1, show 100 - (k + 1) + 1 = 100 - k by omega]
          refine y_isBothL hg hv hb hp k false (e + 1) _ _ (by omega) ⟨fun z => by omega, fun z => by cases z⟩ (cRd_at hm2 hg (e + 1)) (by omega) (by omega) (by show _ + 1 ≤ e + 1; omega) (fun m' hm' => ?_)
          rcases hz : pLst tx n p 38 1801 k false (e + 1) with ⟨_ | z, e2⟩
          · rw [show pLst tx n p 38 1801 (k + 1) b a = (none, e2) from by unfold pLst; rw [hx]; dsimp only; rw [if_pos q, hz]] at hQ
            rw [hz] at hm'
            obtain ⟨G', i1, i2⟩ := hm'
            exact hQ m' ⟨G', i1, by omega⟩
          · rw [show pLst tx n p 38 1801 (k + 1) b a = (some ((x ++ pT 1801 b) ++ z), e2) from by unfold pLst; rw [hx]; dsimp only; rw [if_pos q, hz]] at hQ
            rw [hz] at hm'
            have hm' : cRd m0 g n e2 (gPs (gPs G (x ++ pT 1801 b)) z) m' := hm'
            rw [← gPs_app] at hm'
            exact hQ m' hm'
        · rw [show pLst tx n p 38 1801 (k + 1) b a = (some (x ++ pT 1801 b), e) from by unfold pLst; rw [hx]; dsimp only; rw [if_neg q]] at hQ
          exact hQ m2 hm2
      cases b with
      | true =>
        have e0 : 100 - (k + 1) = 0 := by have := hkb.mpr rfl; omega
        have hu : gU G + 0 ≤ a := hu
        rw [show x ++ pT 1801 true = x from List.append_nil x] at fin
        have f1 := fin m1 hm1 (by omega)
        rw [e0] at f1 ⊢
        exact ip (by decide) f1
      | false =>
        have e0 : 1 ≤ 100 - (k + 1) := by
          have : ¬ (k + 1 = 100) := fun z => by have := hkb.mp z; cases this
          omega
        have hu : gU G + 1 ≤ a := hu
        refine iq (nI_ge (a := 0) (by omega) (by omega)) ⟨fun q7 hq => ?_, fun hq => ?_⟩
        · rw [hm1.2.2.2.1] at hq
          cases hq
          refine bt_i (y_rc7 hg _) (y_putC (s := 1801) (D + 1) hg hm1 (by omega) (by omega) (fun m2 hm2 => ⟨rfl, fin m2 ?_ ?_⟩))
          · rw [gPs_app]; exact hm2
          · rw [gPs_app]
            show gU (gPt (gPs G x) 1801) ≤ e
            rw [gU_Pt (by omega)]
            omega
        · rw [hm1.2.2.2.1] at hq
          cases hq
theorem y_isBothC {D : Nat} (hg : g < 6) (hv : rGv m0 n tx) {dp : Int32} {p : Nat → zP} (hb : ∀ a, a ≤ n → pOk (n := n) a 0 (p a)) (hp : cReads m0 g n (D + 2) m_Reader_isPart dp p) : cReads m0 g n (D + 3) m_Reader_isBoth dp (pLst tx n p 38 1801 100 true) := fun Q m G a h ha h1 hu hQ =>
  en_Reader_isBoth (D + 2) _ m (sg_Reader_isBoth_0 (zCall_m _) _ m (y_isBothL hg hv hb hp 100 true a G m (by omega) ⟨fun _ => rfl, fun _ => rfl⟩ h ha h1 hu hQ))
theorem y_isEitherL {D : Nat} (hg : g < 6) (hv : rGv m0 n tx) {dp : Int32} {p : Nat → zP} (hb : ∀ a, a ≤ n → pOk (n := n) a 0 (p a)) (hp : cReads m0 g n (D + 2) m_Reader_isBoth dp p) {Q : zQ} :
    ∀ (k : Nat) (b : Bool) (a : Nat) (G : zG) (m : zM), k ≤ 100 → (k = 100 ↔ b = true) → cRd m0 g n a G m → a ≤ n → 1 ≤ gN G → gU G + pW b ≤ a → (∀ m', cDone m0 g n G m' (pLst tx n p 124 1802 k b a) → Q (some (.int (zb (pLst tx n p 124 1802 k b a).1.isSome))) m') → zRun (zCall (D + 2)) 5 (some .boolean) zc_Reader_isEither Q 2 [.ref 88, .int dp, .int (nI (100 - k))] [] m
  | 0, b, a, G, m, hk, hkb, h, ha, h1, hu, hQ => sg_Reader_isEither_2 (zCall_m _) _ _ m (ip (by decide) ⟨by decide, hQ m ⟨G, h, rfl⟩⟩)
  | k + 1, b, a, G, m, hk, hkb, h, ha, h1, hu, hQ => by
    have hn := hv.1
    have hpb := hb a ha
    refine sg_Reader_isEither_2 (zCall_m _) _ _ m (iq (nI_ge (b := 100) (by omega) (by omega)) (hp _ m G a h ha h1 (by omega) (fun m1 hm1 => ⟨_, rfl, ?_⟩)))
    rcases hx : p a with ⟨_ | x, e⟩
    · rw [hx] at hm1
      rw [show pLst tx n p 124 1802 (k + 1) b a = (none, e) from by unfold pLst; rw [hx]] at hQ
      exact iq i00 ⟨by decide, hQ m1 hm1⟩
    · rw [hx] at hm1 hpb
      obtain ⟨b1, b2, b3⟩ := hpb
      have hm1 : cRd m0 g n e (gPs G x) m1 := hm1
      have gu := gPs_U x G h1
      have gn := (gPs_N x G).1
      refine ip i10 ?_
      have fin : ∀ m2, cRd m0 g n e (gPs G (x ++ pT 1802 b)) m2 → gU (gPs G (x ++ pT 1802 b)) ≤ e → zCall (D + 2) m_Reader_skips [.ref 88, .int 124] m2 (fun o4 m5 => ∃ x6, o4 = some (.int x6) ∧ (if ¬ x6 = (0 : Int32) then zRun (zCall (D + 2)) 5 (some .boolean) zc_Reader_isEither Q 2 [.ref 88, .int dp, .int (nI (100 - (k + 1)) + (1 : Int32))] [] m5
          else (1 : Int32) &&& 1 = (1 : Int32) ∧ Q (some (.int (1 : Int32))) m5)) := by
        intro m2 hm2 hu2
        have gn2 := (gPs_N (x ++ pT 1802 b) G).1
        refine y_skips D hg hv hm2 b2 (c := 124) (by omega) (by omega) (fun q => ⟨_, rfl, ip (by decide) ?_⟩) (fun q => ⟨_, rfl, iq (by decide) ⟨by decide, ?_⟩⟩)
        · have qa := (pI_t.mp q).1
          rw [nI_1, show 100 - (k + 1) + 1 = 100 - k by omega]
          refine y_isEitherL hg hv hb hp k false (e + 1) _ _ (by omega) ⟨fun z => by omega, fun z => by cases z⟩ (cRd_at hm2 hg (e + 1)) (by omega) (by omega) (by show _ + 1 ≤ e + 1; omega) (fun m' hm' => ?_)
          rcases hz : pLst tx n p 124 1802 k false (e + 1) with ⟨_ | z, e2⟩
          · rw [show pLst tx n p 124 1802 (k + 1) b a = (none, e2) from by unfold pLst; rw [hx]; dsimp only; rw [if_pos q, hz]] at hQ
            rw [hz] at hm'
            obtain ⟨G', i1, i2⟩ := hm'
            exact hQ m' ⟨G', i1, by omega⟩
          · rw [show pLst tx n p 124 1802 (k + 1) b a = (some ((x ++ pT 1802 b) ++ z), e2) from by unfold pLst; rw [hx]; dsimp only; rw [if_pos q, hz]] at hQ
            rw [hz] at hm'
            have hm' : cRd m0 g n e2 (gPs (gPs G (x ++ pT 1802 b)) z) m' := hm'
            rw [← gPs_app] at hm'
            exact hQ m' hm'
        · rw [show pLst tx n p 124 1802 (k + 1) b a = (some (x ++ pT 1802 b), e) from by unfold pLst; rw [hx]; dsimp only; rw [if_neg q]] at hQ
          exact hQ m2 hm2
      cases b with
      | true =>
        have e0 : 100 - (k + 1) = 0 := by have := hkb.mpr rfl; omega
        have hu : gU G + 0 ≤ a := hu
        rw [show x ++ pT 1802 true = x from List.append_nil x] at fin
        have f1 := fin m1 hm1 (by omega)
        rw [e0] at f1 ⊢
        exact ip (by decide) f1
      | false =>
        have e0 : 1 ≤ 100 - (k + 1) := by
          have : ¬ (k + 1 = 100) := fun z => by have := hkb.mp z; cases this
          omega
        have hu : gU G + 1 ≤ a := hu
        refine iq (nI_ge (a := 0) (by omega) (by omega)) ⟨fun q7 hq => ?_, fun hq => ?_⟩
        · rw [hm1.2.2.2.1] at hq
          cases hq
          refine bt_i (y_rc7 hg _) (y_putC (s := 1802) (D + 1) hg hm1 (by omega) (by omega) (fun m2 hm2 => ⟨rfl, fin m2 ?_ ?_⟩))
          · rw [gPs_app]; exact hm2
          · rw [gPs_app]
            show gU (gPt (gPs G x) 1802) ≤ e
            rw [gU_Pt (by omega)]
            omega
        · rw [hm1.2.2.2.1] at hq
          cases hq
theorem y_isEitherC {D : Nat} (hg : g < 6) (hv : rGv m0 n tx) {dp : Int32} {p : Nat → zP} (hb : ∀ a, a ≤ n → pOk (n := n) a 0 (p a)) (hp : cReads m0 g n (D + 2) m_Reader_isBoth dp p) : cReads m0 g n (D + 3) m_Reader_isEither dp (pLst tx n p 124 1802 100 true) := fun Q m G a h ha h1 hu hQ =>
  en_Reader_isEither (D + 2) _ m (sg_Reader_isEither_0 (zCall_m _) _ m (y_isEitherL hg hv hb hp 100 true a G m (by omega) ⟨fun _ => rfl, fun _ => rfl⟩ h ha h1 hu hQ))
theorem cRd_N (h : cRd m0 g n a G m) : gG m 88 = some (58 + 5 * g) := h.2.2.2.1
theorem y_isPartC (hg : g < 6) (hv : rGv m0 n tx) : ∀ (r d : Nat), r ≤ 4 → cReads m0 g n (d + 6 + 3 * r) m_Reader_isPart (nI (4 - r)) (pPart tx n r)
  | 0, d, hr, Q, m, G, a, h, ha, h1, hu, hQ => by
    unfold pPart at hQ
    have hb := hr_b hv a
    refine en_Reader_isPart (d + 5) _ m (sg_Reader_isPart_0 (zCall_m _) _ m (y_here (d + 4) hg hv h ha ⟨_, rfl, ?_⟩))
    by_cases q : pI tx n 33 a = true
    · rw [if_pos q] at hQ
      refine iq (fun z => z (by rw [(hr_p (by omega) a).mpr q]; rfl)) (iq (by decide) ⟨by decide, hQ m ⟨G, h, rfl⟩⟩)
    · rw [if_neg q] at hQ
      refine ip (nI_ne (b := 33) (by omega) (by omega) (fun z => q ((hr_p (by omega) a).mp z))) (y_here (d + 4) hg hv h ha ⟨_, rfl, ?_⟩)
      by_cases q2 : pI tx n 40 a = true
      · rw [if_pos q2] at hQ
        exact ip (by rw [(hr_p (by omega) a).mpr q2]; rfl) (iq (by decide) ⟨by decide, hQ m ⟨G, h, rfl⟩⟩)
      · rw [if_neg q2] at hQ
        refine iq (nI_ne (b := 40) (by omega) (by omega) (fun z => q2 ((hr_p (by omega) a).mp z))) (y_testC d hg hv h ha h1 hu (fun m' hm' => ⟨_, rfl, ?_, hQ m' hm'⟩))
        cases (pTest tx n a).1.isSome <;> decide
  | r + 1, d, hr, Q, m, G, a, h, ha, h1, hu, hQ => by
    have hn := hv.1
    unfold pPart at hQ
    have hb := hr_b hv a
    have IH := y_isPartC hg hv r
    have e4 : nI (4 - (r + 1)) + (1 : Int32) = nI (4 - r) := by rw [nI_1]; congr 1; omega
    have l4 : nI (4 - (r + 1)) < (4 : Int32) := nI_lt (b := 4) (by omega) (by omega)
    rw [show d + 6 + 3 * (r + 1) = (d + 8 + 3 * r) + 1 by omega]
    refine en_Reader_isPart (d + 8 + 3 * r) _ m (sg_Reader_isPart_0 (zCall_m _) _ m ?_)
    rw [show d + 8 + 3 * r = (d + 7 + 3 * r) + 1 by omega]
    refine y_here (d + 7 + 3 * r) hg hv h ha ⟨_, rfl, ?_⟩
    by_cases q : pI tx n 33 a = true
    · have qa := (pI_t.mp q).1
      rw [if_pos q] at hQ
      refine iq (fun z => z (by rw [(hr_p (by omega) a).mpr q]; rfl)) (ip l4 ?_)
      rw [e4, h.2.2.1, nI_1]
      have hI := IH (d + 2) (by omega)
      rw [show d + 2 + 6 + 3 * r = d + 7 + 3 * r + 1 by omega] at hI
      refine hI _ _ G (a + 1) (cRd_at h hg (a + 1)) (by omega) h1 (by omega) (fun m1 hm1 => ⟨_, rfl, fun q19 hq => ?_, fun hq => ?_⟩)
      · have hpb := pPart_b (tx := tx) r (a + 1) (show a + 1 ≤ n by omega)
        rcases hx : pPart tx n r (a + 1) with ⟨_ | x, e⟩
        · rw [hx] at hm1 hQ
          obtain ⟨G', i1, i2⟩ := hm1
          rw [cRd_N i1] at hq
          cases hq
          exact bt_i (y_rc7 hg _) (y_putF (s := 1800) (d + 7 + 3 * r) hg i1 (by omega) (fun m2 G2 hm2 hn2 => ⟨rfl, zb_m _, hQ m2 ⟨G2, hm2, by omega⟩⟩))
        · rw [hx] at hm1 hQ hpb
          obtain ⟨b1, b2, b3⟩ := hpb
          have hm1 : cRd m0 g n e (gPs G x) m1 := hm1
          rw [cRd_N hm1] at hq
          cases hq
          have gu := gPs_U x G h1
          have gn := (gPs_N x G).1
          refine bt_i (y_rc7 hg _) (y_putC (s := 1800) (d + 7 + 3 * r) hg hm1 (by omega) (by omega) (fun m2 hm2 => ⟨rfl, zb_m _, hQ m2 ?_⟩))
          show cRd m0 g n e (gPs G (x ++ [1800])) m2
          rw [gPs_app]
          exact hm2
      · have : ∃ e G', cRd m0 g n e G' m1 := by
          rcases hx : pPart tx n r (a + 1) with ⟨_ | x, e⟩ <;> rw [hx] at hm1
          · obtain ⟨G', i1, i2⟩ := hm1; exact ⟨_, _, i1⟩
          · exact ⟨_, _, hm1⟩
        obtain ⟨e, G', i⟩ := this
        rw [cRd_N i] at hq
        cases hq
    · rw [if_neg q] at hQ
      refine ip (nI_ne (b := 33) (by omega) (by omega) (fun z => q ((hr_p (by omega) a).mp z))) (y_here (d + 7 + 3 * r) hg hv h ha ⟨_, rfl, ?_⟩)
      by_cases q2 : pI tx n 40 a = true
      · have qa := (pI_t.mp q2).1
        rw [if_pos q2] at hQ
        refine ip (by rw [(hr_p (by omega) a).mpr q2]; rfl) (ip l4 ?_)
        rw [e4, h.2.2.1, nI_1]
        have hI := IH d (by omega)
        rw [show d + 6 + 3 * r = (d + 4 + 3 * r) + 2 by omega] at hI
        have hpb : ∀ a, a ≤ n → pOk (n := n) a 0 (pPart tx n r a) := fun a ha => pPart_b r a ha
        have hB := y_isBothC hg hv hpb hI
        rw [show d + 4 + 3 * r + 3 = (d + 5 + 3 * r) + 2 by omega] at hB
        have hE := y_isEitherC hg hv (fun a ha => pLst_b hpb 100 true a ha) hB
        rw [show d + 5 + 3 * r + 3 = d + 7 + 3 * r + 1 by omega] at hE
        have heb := pE_b (tx := tx) hpb (a := a + 1) (by omega)
        refine hE _ _ G (a + 1) (cRd_at h hg (a + 1)) (by omega) h1 (by omega) (fun m1 hm1 => ⟨_, rfl, ?_⟩)
        rcases hx : pE tx n (pPart tx n r) (a + 1) with ⟨_ | x, e⟩
        · rw [hx] at hQ
          unfold pE at hx
          rw [hx] at hm1 ⊢
          exact ip rfl ⟨by decide, hQ m1 hm1⟩
        · rw [hx] at hQ heb
          unfold pE at hx
          rw [hx] at hm1 ⊢
          obtain ⟨b1, b2, b3⟩ := heb
          have hm1 : cRd m0 g n e (gPs G x) m1 := hm1
          dsimp only at hQ
          refine iq i10 ?_
          rw [show d + 7 + 3 * r + 1 = (d + 6 + 3 * r) + 2 by omega]
          refine y_skips (d + 6 + 3 * r) hg hv hm1 b2 (c := 41) (by omega) (by omega) (fun q => ⟨_, rfl, iq (by decide) ⟨by decide, ?_⟩⟩) (fun q => ⟨_, rfl, ip (by decide) ⟨by decide, ?_⟩⟩)
          · rw [if_pos q] at hQ
            exact hQ _ (cRd_at hm1 hg (e + 1))
          · rw [if_neg q] at hQ
            exact hQ m1 ⟨_, hm1, (gPs_N x G).1⟩
      · rw [if_neg q2] at hQ
        rw [show d + 7 + 3 * r + 1 = (d + 3 + 3 * r) + 5 by omega]
        refine iq (nI_ne (b := 40) (by omega) (by omega) (fun z => q2 ((hr_p (by omega) a).mp z))) (y_testC (d + 3 + 3 * r) hg hv h ha h1 hu (fun m' hm' => ⟨_, rfl, ?_, hQ m' hm'⟩))
        cases (pTest tx n a).1.isSome <;> decide
theorem y_EC (d : Nat) (hg : g < 6) (hv : rGv m0 n tx) : cReads m0 g n (d + 20) m_Reader_isEither 0 (pE tx n (pPart tx n 4)) := by
  have hI := y_isPartC hg hv 4 d (by omega)
  have hpb : ∀ a, a ≤ n → pOk (n := n) a 0 (pPart tx n 4 a) := fun a ha => pPart_b 4 a ha
  exact y_isEitherC (D := d + 17) hg hv (fun a ha => pLst_b hpb 100 true a ha) (y_isBothC (D := d + 16) hg hv hpb hI)
end
