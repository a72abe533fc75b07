/-! a garden: its clauses, and what they slow (gen22.py) -/
theorem oI_add (a b : Int) : Int32.ofInt a + Int32.ofInt b = Int32.ofInt (a + b) := (Int32.ofInt_add a b).symm
theorem oI_sub (a b : Int) : Int32.ofInt a - Int32.ofInt b = Int32.ofInt (a - b) := (Int32.ofInt_sub a b).symm
theorem oI_nI (n : Nat) : Int32.ofInt (n : Int) = nI n := rfl
theorem oI_toInt {z : Int} (h1 : -2147483648 ≤ z) (h2 : z < 2147483648) : (Int32.ofInt z).toInt = z := by
  rw [Int32.toInt_ofInt, Int.bmod_def]
  simp only [Int32.size]
  omega
/-- clauses, their words and numbers, where each's code ends, the code -/
abbrev zG : Type := Nat × (Nat → Nat) × (Nat → Nat) × (Nat → Nat) × (Nat → Nat)
def gN (G : zG) : Nat := G.1
def gWd (G : zG) : Nat → Nat := G.2.1
def gNu (G : zG) : Nat → Nat := G.2.2.1
def gEn (G : zG) : Nat → Nat := G.2.2.2.1
def gCo (G : zG) : Nat → Nat := G.2.2.2.2
def gSt (G : zG) : Nat → Nat
  | 0 => 0
  | k + 1 => gEn G k
def gWf (G : zG) : Prop := gN G ≤ 10 ∧ ∀ k, k < gN G → gWd G k ≤ 3 ∧ gNu G k ≤ 99 ∧ gSt G k ≤ gEn G k ∧ gEn G k ≤ 100 ∧ (gWd G k < 2 → hW (gCo G) (gSt G k) 0 (gEn G k - gSt G k))
/-- the last number told with this word -/
def gLo (G : zG) (w : Nat) : Nat → Option Nat
  | 0 => none
  | k + 1 => if gWd G k = w then some (gNu G k) else gLo G w k
def gLc : Option Nat → Int32
  | none => -1
  | some x => nI x
theorem gLo_b {G : zG} (hw : gWf G) {w : Nat} : ∀ k, k ≤ gN G → ∀ x, gLo G w k = some x → x ≤ 99
  | 0, _, x, h => by cases h
  | k + 1, hk, x, h => by
    unfold gLo at h
    split at h
    · cases h
      exact (hw.2 k (by omega)).2.1
    · exact gLo_b hw k (by omega) x h
def gX (m : zM) (p : Nat) (G : zG) : Prop := gI m p 2 = nI (gN G) ∧ gI m p 0 = gLc (gLo G 2 (gN G)) ∧ gI m p 1 = gLc (gLo G 3 (gN G)) ∧ (∀ k, k < gN G → gI m (p + 1) k = nI (gWd G k) ∧ gI m (p + 2) k = nI (gNu G k) ∧ gI m (p + 3) k = nI (gEn G k) ∧ ∀ j, j < gEn G k → gI m (p + 4) j = cX (gCo G j))
/-- whether clause k holds -/
def gH (vw : Nat → Nat) (G : zG) (k : Nat) : Bool := hH (hR vw (gCo G) (gSt G k) [] (gEn G k - gSt G k))
def gZ (vw : Nat → Nat) (G : zG) : Nat → Int
  | 0 => 0
  | k + 1 => gZ vw G k + (if gWd G k = 0 then (if gH vw G k = true then (gNu G k : Int) else 0) else if gWd G k = 1 then (if gH vw G k = true then -(gNu G k : Int) else 0) else 0)
theorem gZ_b {vw : Nat → Nat} {G : zG} (hw : gWf G) : ∀ k, k ≤ gN G → -(99 * k : Int) ≤ gZ vw G k ∧ gZ vw G k ≤ 99 * k
  | 0, _ => by simp [gZ]
  | k + 1, h => by
    obtain ⟨a, b⟩ := gZ_b (vw := vw) hw k (by omega)
    have := (hw.2 k (by omega)).2.1
    unfold gZ
    split
    · split <;> omega
    · split
      · split <;> omega
      · omega
theorem y_standsC_58_26 (d : Nat) {Q : zQ} {m : zM} {vw : Nat → Nat} {G : zG} (hw : gWf G) (hx : gX m 58 G) (hv : ∀ l, l < 6 → gI m 26 l = nI (vw l) ∧ vw l < 2 ^ 31) {k : Nat} (hk : k < gN G) (h2 : gWd G k < 2) (h : Q (some (.int (zb (gH vw G k)))) m) : zCall (d + 1) m_Garden_stands [.ref 58, .ref 26, .int (nI (gSt G k)), .int (nI (gEn G k))] m Q := by
  obtain ⟨w1, w2, w3, w4, w5⟩ := hw.2 k hk
  exact en_Garden_stands_58_26 d _ _ m (sg_Garden_stands_58_26_0 (zCall_m d) _ _ m (y_stands_58_26 (zCall_m d) (vw := vw) (code := gCo G) (e := gEn G k) w4 (hx.2.2.2 k hk).2.2.2 hv _ (gEn G k - gSt G k) (gSt G k) 0 [] (by omega) (w5 h2) (by decide) (fun j hj => absurd hj (Nat.not_lt_zero _)) h))
theorem y_slow_58_26 (d : Nat) {Q : zQ} {m : zM} {vw : Nat → Nat} {G : zG} (hw : gWf G) (hx : gX m 58 G) (hv : ∀ l, l < 6 → gI m 26 l = nI (vw l) ∧ vw l < 2 ^ 31) (h : Q (some (.int (Int32.ofInt (gZ vw G (gN G))))) m) :
    ∀ (j k : Nat), k + j = gN G → zRun (zCall (d + 1)) 1 (some .int) zc_Garden_slowness Q 7 [.ref 58, .ref 26, .int (Int32.ofInt (gZ vw G k)), .int (nI (gSt G k)), .int (nI k)] [] m
  | 0, k, hk => by
    refine sg_Garden_slowness_58_26_7 (zCall_m _) _ _ _ m ?_
    rw [hx.1]
    have := hw.1
    refine ip (nI_le (by omega) (by omega)) ?_
    rw [show k = gN G by omega]
    exact h
  | j + 1, k, hk => by
    have h10 := hw.1
    obtain ⟨w1, w2, w3, w4, w5⟩ := hw.2 k (by omega)
    have x1 : gI m 59 k = nI (gWd G k) := (hx.2.2.2 k (by omega)).1
    have x2 : gI m 60 k = nI (gNu G k) := (hx.2.2.2 k (by omega)).2.1
    have x3 : gI m 61 k = nI (gEn G k) := (hx.2.2.2 k (by omega)).2.2.1
    have IH := y_slow_58_26 d hw hx hv h j (k + 1) (by omega)
    have hin : vp_in (nI k) 10 := vp_in_nI (by omega) (by omega)
    have hkc : (nI k).toNatClampNeg = k := nI_clamp (by omega)
    refine sg_Garden_slowness_58_26_7 (zCall_m _) _ _ _ m ?_
    rw [hx.1, hkc, x1, x3, nI_1]
    have st : gSt G (k + 1) = gEn G k := rfl
    rw [st] at IH
    unfold gZ at IH
    have go : ∀ {y : Int32}, y = Int32.ofInt (gZ vw G k + (if gWd G k = 0 then (if gH vw G k = true then (gNu G k : Int) else 0) else if gWd G k = 1 then (if gH vw G k = true then -(gNu G k : Int) else 0) else 0)) → zRun (zCall (d + 1)) 1 (some .int) zc_Garden_slowness Q 7 [.ref 58, .ref 26, .int y, .int (nI (gEn G k)), .int (nI (k + 1))] [] m := fun e => by rw [e]; exact IH
    refine iq (nI_ge (by omega) (by omega)) ⟨hin, ?_⟩
    by_cases c0 : gWd G k = 0
    · rw [c0]
      refine iq (fun z => z rfl) ⟨hin, y_standsC_58_26 d hw hx hv (by omega) (by omega) ⟨_, rfl, ?_⟩⟩
      simp only [hkc, x1, x2, x3, c0]
      cases hh : gH vw G k with
      | false => exact ip rfl ⟨hin, ip (by decide) ⟨hin, go (by rw [if_pos c0, if_neg (by rw [hh]; decide), Int.add_zero])⟩⟩
      | true => exact iq (by decide) ⟨hin, hin, go (by rw [if_pos c0, if_pos hh, ← oI_nI, oI_add])⟩
    · refine ip (nI_ne (b := 0) (by omega) (by decide) c0) ⟨hin, ?_⟩
      by_cases c1 : gWd G k = 1
      · rw [c1]
        refine iq (fun z => z rfl) ⟨hin, y_standsC_58_26 d hw hx hv (by omega) (by omega) ⟨_, rfl, ?_⟩⟩
        simp only [hkc, x1, x2, x3]
        cases hh : gH vw G k with
        | false => exact ip rfl ⟨hin, go (by rw [if_neg c0, if_pos c1, if_neg (by rw [hh]; decide), Int.add_zero])⟩
        | true => exact iq (by decide) ⟨hin, hin, go (by rw [if_neg c0, if_pos c1, if_pos hh, ← oI_nI, oI_sub, Int.sub_eq_add_neg])⟩
      · exact ip (nI_ne (b := 1) (by omega) (by decide) c1) ⟨hin, go (by rw [if_neg c0, if_neg c1, Int.add_zero])⟩
theorem y_slowC_58_26 (d : Nat) {Q : zQ} {m : zM} {vw : Nat → Nat} {G : zG} (hw : gWf G) (hx : gX m 58 G) (hv : ∀ l, l < 6 → gI m 26 l = nI (vw l) ∧ vw l < 2 ^ 31) (h : Q (some (.int (Int32.ofInt (gZ vw G (gN G))))) m) : zCall (d + 2) m_Garden_slowness [.ref 58, .ref 26] m Q :=
  en_Garden_slowness_58_26 (d + 1) m (sg_Garden_slowness_58_26_0 (zCall_m _) m (y_slow_58_26 d hw hx hv h (gN G) 0 (Nat.zero_add _)))
theorem y_standsC_58_50 (d : Nat) {Q : zQ} {m : zM} {vw : Nat → Nat} {G : zG} (hw : gWf G) (hx : gX m 58 G) (hv : ∀ l, l < 6 → gI m 50 l = nI (vw l) ∧ vw l < 2 ^ 31) {k : Nat} (hk : k < gN G) (h2 : gWd G k < 2) (h : Q (some (.int (zb (gH vw G k)))) m) : zCall (d + 1) m_Garden_stands [.ref 58, .ref 50, .int (nI (gSt G k)), .int (nI (gEn G k))] m Q := by
  obtain ⟨w1, w2, w3, w4, w5⟩ := hw.2 k hk
  exact en_Garden_stands_58_50 d _ _ m (sg_Garden_stands_58_50_0 (zCall_m d) _ _ m (y_stands_58_50 (zCall_m d) (vw := vw) (code := gCo G) (e := gEn G k) w4 (hx.2.2.2 k hk).2.2.2 hv _ (gEn G k - gSt G k) (gSt G k) 0 [] (by omega) (w5 h2) (by decide) (fun j hj => absurd hj (Nat.not_lt_zero _)) h))
theorem y_slow_58_50 (d : Nat) {Q : zQ} {m : zM} {vw : Nat → Nat} {G : zG} (hw : gWf G) (hx : gX m 58 G) (hv : ∀ l, l < 6 → gI m 50 l = nI (vw l) ∧ vw l < 2 ^ 31) (h : Q (some (.int (Int32.ofInt (gZ vw G (gN G))))) m) :
    ∀ (j k : Nat), k + j = gN G → zRun (zCall (d + 1)) 1 (some .int) zc_Garden_slowness Q 7 [.ref 58, .ref 50, .int (Int32.ofInt (gZ vw G k)), .int (nI (gSt G k)), .int (nI k)] [] m
  | 0, k, hk => by
    refine sg_Garden_slowness_58_50_7 (zCall_m _) _ _ _ m ?_
    rw [hx.1]
    have := hw.1
    refine ip (nI_le (by omega) (by omega)) ?_
    rw [show k = gN G by omega]
    exact h
  | j + 1, k, hk => by
    have h10 := hw.1
    obtain ⟨w1, w2, w3, w4, w5⟩ := hw.2 k (by omega)
    have x1 : gI m 59 k = nI (gWd G k) := (hx.2.2.2 k (by omega)).1
    have x2 : gI m 60 k = nI (gNu G k) := (hx.2.2.2 k (by omega)).2.1
    have x3 : gI m 61 k = nI (gEn G k) := (hx.2.2.2 k (by omega)).2.2.1
    have IH := y_slow_58_50 d hw hx hv h j (k + 1) (by omega)
    have hin : vp_in (nI k) 10 := vp_in_nI (by omega) (by omega)
    have hkc : (nI k).toNatClampNeg = k := nI_clamp (by omega)
    refine sg_Garden_slowness_58_50_7 (zCall_m _) _ _ _ m ?_
    rw [hx.1, hkc, x1, x3, nI_1]
    have st : gSt G (k + 1) = gEn G k := rfl
    rw [st] at IH
    unfold gZ at IH
    have go : ∀ {y : Int32}, y = Int32.ofInt (gZ vw G k + (if gWd G k = 0 then (if gH vw G k = true then (gNu G k : Int) else 0) else if gWd G k = 1 then (if gH vw G k = true then -(gNu G k : Int) else 0) else 0)) → zRun (zCall (d + 1)) 1 (some .int) zc_Garden_slowness Q 7 [.ref 58, .ref 50, .int y, .int (nI (gEn G k)), .int (nI (k + 1))] [] m := fun e => by rw [e]; exact IH
    refine iq (nI_ge (by omega) (by omega)) ⟨hin, ?_⟩
    by_cases c0 : gWd G k = 0
    · rw [c0]
      refine iq (fun z => z rfl) ⟨hin, y_standsC_58_50 d hw hx hv (by omega) (by omega) ⟨_, rfl, ?_⟩⟩
      simp only [hkc, x1, x2, x3, c0]
      cases hh : gH vw G k with
      | false => exact ip rfl ⟨hin, ip (by decide) ⟨hin, go (by rw [if_pos c0, if_neg (by rw [hh]; decide), Int.add_zero])⟩⟩
      | true => exact iq (by decide) ⟨hin, hin, go (by rw [if_pos c0, if_pos hh, ← oI_nI, oI_add])⟩
    · refine ip (nI_ne (b := 0) (by omega) (by decide) c0) ⟨hin, ?_⟩
      by_cases c1 : gWd G k = 1
      · rw [c1]
        refine iq (fun z => z rfl) ⟨hin, y_standsC_58_50 d hw hx hv (by omega) (by omega) ⟨_, rfl, ?_⟩⟩
        simp only [hkc, x1, x2, x3]
        cases hh : gH vw G k with
        | false => exact ip rfl ⟨hin, go (by rw [if_neg c0, if_pos c1, if_neg (by rw [hh]; decide), Int.add_zero])⟩
        | true => exact iq (by decide) ⟨hin, hin, go (by rw [if_neg c0, if_pos c1, if_pos hh, ← oI_nI, oI_sub, Int.sub_eq_add_neg])⟩
      · exact ip (nI_ne (b := 1) (by omega) (by decide) c1) ⟨hin, go (by rw [if_neg c0, if_neg c1, Int.add_zero])⟩
theorem y_slowC_58_50 (d : Nat) {Q : zQ} {m : zM} {vw : Nat → Nat} {G : zG} (hw : gWf G) (hx : gX m 58 G) (hv : ∀ l, l < 6 → gI m 50 l = nI (vw l) ∧ vw l < 2 ^ 31) (h : Q (some (.int (Int32.ofInt (gZ vw G (gN G))))) m) : zCall (d + 2) m_Garden_slowness [.ref 58, .ref 50] m Q :=
  en_Garden_slowness_58_50 (d + 1) m (sg_Garden_slowness_58_50_0 (zCall_m _) m (y_slow_58_50 d hw hx hv h (gN G) 0 (Nat.zero_add _)))
theorem y_standsC_63_26 (d : Nat) {Q : zQ} {m : zM} {vw : Nat → Nat} {G : zG} (hw : gWf G) (hx : gX m 63 G) (hv : ∀ l, l < 6 → gI m 26 l = nI (vw l) ∧ vw l < 2 ^ 31) {k : Nat} (hk : k < gN G) (h2 : gWd G k < 2) (h : Q (some (.int (zb (gH vw G k)))) m) : zCall (d + 1) m_Garden_stands [.ref 63, .ref 26, .int (nI (gSt G k)), .int (nI (gEn G k))] m Q := by
  obtain ⟨w1, w2, w3, w4, w5⟩ := hw.2 k hk
  exact en_Garden_stands_63_26 d _ _ m (sg_Garden_stands_63_26_0 (zCall_m d) _ _ m (y_stands_63_26 (zCall_m d) (vw := vw) (code := gCo G) (e := gEn G k) w4 (hx.2.2.2 k hk).2.2.2 hv _ (gEn G k - gSt G k) (gSt G k) 0 [] (by omega) (w5 h2) (by decide) (fun j hj => absurd hj (Nat.not_lt_zero _)) h))
theorem y_slow_63_26 (d : Nat) {Q : zQ} {m : zM} {vw : Nat → Nat} {G : zG} (hw : gWf G) (hx : gX m 63 G) (hv : ∀ l, l < 6 → gI m 26 l = nI (vw l) ∧ vw l < 2 ^ 31) (h : Q (some (.int (Int32.ofInt (gZ vw G (gN G))))) m) :
    ∀ (j k : Nat), k + j = gN G → zRun (zCall (d + 1)) 1 (some .int) zc_Garden_slowness Q 7 [.ref 63, .ref 26, .int (Int32.ofInt (gZ vw G k)), .int (nI (gSt G k)), .int (nI k)] [] m
  | 0, k, hk => by
    refine sg_Garden_slowness_63_26_7 (zCall_m _) _ _ _ m ?_
    rw [hx.1]
    have := hw.1
    refine ip (nI_le (by omega) (by omega)) ?_
    rw [show k = gN G by omega]
    exact h
  | j + 1, k, hk => by
    have h10 := hw.1
    obtain ⟨w1, w2, w3, w4, w5⟩ := hw.2 k (by omega)
    have x1 : gI m 64 k = nI (gWd G k) := (hx.2.2.2 k (by omega)).1
    have x2 : gI m 65 k = nI (gNu G k) := (hx.2.2.2 k (by omega)).2.1
    have x3 : gI m 66 k = nI (gEn G k) := (hx.2.2.2 k (by omega)).2.2.1
    have IH := y_slow_63_26 d hw hx hv h j (k + 1) (by omega)
    have hin : vp_in (nI k) 10 := vp_in_nI (by omega) (by omega)
    have hkc : (nI k).toNatClampNeg = k := nI_clamp (by omega)
    refine sg_Garden_slowness_63_26_7 (zCall_m _) _ _ _ m ?_
    rw [hx.1, hkc, x1, x3, nI_1]
    have st : gSt G (k + 1) = gEn G k := rfl
    rw [st] at IH
    unfold gZ at IH
    have go : ∀ {y : Int32}, y = Int32.ofInt (gZ vw G k + (if gWd G k = 0 then (if gH vw G k = true then (gNu G k : Int) else 0) else if gWd G k = 1 then (if gH vw G k = true then -(gNu G k : Int) else 0) else 0)) → zRun (zCall (d + 1)) 1 (some .int) zc_Garden_slowness Q 7 [.ref 63, .ref 26, .int y, .int (nI (gEn G k)), .int (nI (k + 1))] [] m := fun e => by rw [e]; exact IH
    refine iq (nI_ge (by omega) (by omega)) ⟨hin, ?_⟩
    by_cases c0 : gWd G k = 0
    · rw [c0]
      refine iq (fun z => z rfl) ⟨hin, y_standsC_63_26 d hw hx hv (by omega) (by omega) ⟨_, rfl, ?_⟩⟩
      simp only [hkc, x1, x2, x3, c0]
      cases hh : gH vw G k with
      | false => exact ip rfl ⟨hin, ip (by decide) ⟨hin, go (by rw [if_pos c0, if_neg (by rw [hh]; decide), Int.add_zero])⟩⟩
      | true => exact iq (by decide) ⟨hin, hin, go (by rw [if_pos c0, if_pos hh, ← oI_nI, oI_add])⟩
    · refine ip (nI_ne (b := 0) (by omega) (by decide) c0) ⟨hin, ?_⟩
      by_cases c1 : gWd G k = 1
      · rw [c1]
        refine iq (fun z => z rfl) ⟨hin, y_standsC_63_26 d hw hx hv (by omega) (by omega) ⟨_, rfl, ?_⟩⟩
        simp only [hkc, x1, x2, x3]
        cases hh : gH vw G k with
        | false => exact ip rfl ⟨hin, go (by rw [if_neg c0, if_pos c1, if_neg (by rw [hh]; decide), Int.add_zero])⟩
        | true => exact iq (by decide) ⟨hin, hin, go (by rw [if_neg c0, if_pos c1, if_pos hh, ← oI_nI, oI_sub, Int.sub_eq_add_neg])⟩
      · exact ip (nI_ne (b := 1) (by omega) (by decide) c1) ⟨hin, go (by rw [if_neg c0, if_neg c1, Int.add_zero])⟩
theorem y_slowC_63_26 (d : Nat) {Q : zQ} {m : zM} {vw : Nat → Nat} {G : zG} (hw : gWf G) (hx : gX m 63 G) (hv : ∀ l, l < 6 → gI m 26 l = nI (vw l) ∧ vw l < 2 ^ 31) (h : Q (some (.int (Int32.ofInt (gZ vw G (gN G))))) m) : zCall (d + 2) m_Garden_slowness [.ref 63, .ref 26] m Q :=
  en_Garden_slowness_63_26 (d + 1) m (sg_Garden_slowness_63_26_0 (zCall_m _) m (y_slow_63_26 d hw hx hv h (gN G) 0 (Nat.zero_add _)))
theorem y_standsC_63_50 (d : Nat) {Q : zQ} {m : zM} {vw : Nat → Nat} {G : zG} (hw : gWf G) (hx : gX m 63 G) (hv : ∀ l, l < 6 → gI m 50 l = nI (vw l) ∧ vw l < 2 ^ 31) {k : Nat} (hk : k < gN G) (h2 : gWd G k < 2) (h : Q (some (.int (zb (gH vw G k)))) m) : zCall (d + 1) m_Garden_stands [.ref 63, .ref 50, .int (nI (gSt G k)), .int (nI (gEn G k))] m Q := by
  obtain ⟨w1, w2, w3, w4, w5⟩ := hw.2 k hk
  exact en_Garden_stands_63_50 d _ _ m (sg_Garden_stands_63_50_0 (zCall_m d) _ _ m (y_stands_63_50 (zCall_m d) (vw := vw) (code := gCo G) (e := gEn G k) w4 (hx.2.2.2 k hk).2.2.2 hv _ (gEn G k - gSt G k) (gSt G k) 0 [] (by omega) (w5 h2) (by decide) (fun j hj => absurd hj (Nat.not_lt_zero _)) h))
theorem y_slow_63_50 (d : Nat) {Q : zQ} {m : zM} {vw : Nat → Nat} {G : zG} (hw : gWf G) (hx : gX m 63 G) (hv : ∀ l, l < 6 → gI m 50 l = nI (vw l) ∧ vw l < 2 ^ 31) (h : Q (some (.int (Int32.ofInt (gZ vw G (gN G))))) m) :
    ∀ (j k : Nat), k + j = gN G → zRun (zCall (d + 1)) 1 (some .int) zc_Garden_slowness Q 7 [.ref 63, .ref 50, .int (Int32.ofInt (gZ vw G k)), .int (nI (gSt G k)), .int (nI k)] [] m
  | 0, k, hk => by
    refine sg_Garden_slowness_63_50_7 (zCall_m _) _ _ _ m ?_
    rw [hx.1]
    have := hw.1
    refine ip (nI_le (by omega) (by omega)) ?_
    rw [show k = gN G by omega]
    exact h
  | j + 1, k, hk => by
    have h10 := hw.1
    obtain ⟨w1, w2, w3, w4, w5⟩ := hw.2 k (by omega)
    have x1 : gI m 64 k = nI (gWd G k) := (hx.2.2.2 k (by omega)).1
    have x2 : gI m 65 k = nI (gNu G k) := (hx.2.2.2 k (by omega)).2.1
    have x3 : gI m 66 k = nI (gEn G k) := (hx.2.2.2 k (by omega)).2.2.1
    have IH := y_slow_63_50 d hw hx hv h j (k + 1) (by omega)
    have hin : vp_in (nI k) 10 := vp_in_nI (by omega) (by omega)
    have hkc : (nI k).toNatClampNeg = k := nI_clamp (by omega)
    refine sg_Garden_slowness_63_50_7 (zCall_m _) _ _ _ m ?_
    rw [hx.1, hkc, x1, x3, nI_1]
    have st : gSt G (k + 1) = gEn G k := rfl
    rw [st] at IH
    unfold gZ at IH
    have go : ∀ {y : Int32}, y = Int32.ofInt (gZ vw G k + (if gWd G k = 0 then (if gH vw G k = true then (gNu G k : Int) else 0) else if gWd G k = 1 then (if gH vw G k = true then -(gNu G k : Int) else 0) else 0)) → zRun (zCall (d + 1)) 1 (some .int) zc_Garden_slowness Q 7 [.ref 63, .ref 50, .int y, .int (nI (gEn G k)), .int (nI (k + 1))] [] m := fun e => by rw [e]; exact IH
    refine iq (nI_ge (by omega) (by omega)) ⟨hin, ?_⟩
    by_cases c0 : gWd G k = 0
    · rw [c0]
      refine iq (fun z => z rfl) ⟨hin, y_standsC_63_50 d hw hx hv (by omega) (by omega) ⟨_, rfl, ?_⟩⟩
      simp only [hkc, x1, x2, x3, c0]
      cases hh : gH vw G k with
      | false => exact ip rfl ⟨hin, ip (by decide) ⟨hin, go (by rw [if_pos c0, if_neg (by rw [hh]; decide), Int.add_zero])⟩⟩
      | true => exact iq (by decide) ⟨hin, hin, go (by rw [if_pos c0, if_pos hh, ← oI_nI, oI_add])⟩
    · refine ip (nI_ne (b := 0) (by omega) (by decide) c0) ⟨hin, ?_⟩
      by_cases c1 : gWd G k = 1
      · rw [c1]
        refine iq (fun z => z rfl) ⟨hin, y_standsC_63_50 d hw hx hv (by omega) (by omega) ⟨_, rfl, ?_⟩⟩
        simp only [hkc, x1, x2, x3]
        cases hh : gH vw G k with
        | false => exact ip rfl ⟨hin, go (by rw [if_neg c0, if_pos c1, if_neg (by rw [hh]; decide), Int.add_zero])⟩
        | true => exact iq (by decide) ⟨hin, hin, go (by rw [if_neg c0, if_pos c1, if_pos hh, ← oI_nI, oI_sub, Int.sub_eq_add_neg])⟩
      · exact ip (nI_ne (b := 1) (by omega) (by decide) c1) ⟨hin, go (by rw [if_neg c0, if_neg c1, Int.add_zero])⟩
theorem y_slowC_63_50 (d : Nat) {Q : zQ} {m : zM} {vw : Nat → Nat} {G : zG} (hw : gWf G) (hx : gX m 63 G) (hv : ∀ l, l < 6 → gI m 50 l = nI (vw l) ∧ vw l < 2 ^ 31) (h : Q (some (.int (Int32.ofInt (gZ vw G (gN G))))) m) : zCall (d + 2) m_Garden_slowness [.ref 63, .ref 50] m Q :=
  en_Garden_slowness_63_50 (d + 1) m (sg_Garden_slowness_63_50_0 (zCall_m _) m (y_slow_63_50 d hw hx hv h (gN G) 0 (Nat.zero_add _)))
theorem y_standsC_68_26 (d : Nat) {Q : zQ} {m : zM} {vw : Nat → Nat} {G : zG} (hw : gWf G) (hx : gX m 68 G) (hv : ∀ l, l < 6 → gI m 26 l = nI (vw l) ∧ vw l < 2 ^ 31) {k : Nat} (hk : k < gN G) (h2 : gWd G k < 2) (h : Q (some (.int (zb (gH vw G k)))) m) : zCall (d + 1) m_Garden_stands [.ref 68, .ref 26, .int (nI (gSt G k)), .int (nI (gEn G k))] m Q := by
  obtain ⟨w1, w2, w3, w4, w5⟩ := hw.2 k hk
  exact en_Garden_stands_68_26 d _ _ m (sg_Garden_stands_68_26_0 (zCall_m d) _ _ m (y_stands_68_26 (zCall_m d) (vw := vw) (code := gCo G) (e := gEn G k) w4 (hx.2.2.2 k hk).2.2.2 hv _ (gEn G k - gSt G k) (gSt G k) 0 [] (by omega) (w5 h2) (by decide) (fun j hj => absurd hj (Nat.not_lt_zero _)) h))
theorem y_slow_68_26 (d : Nat) {Q : zQ} {m : zM} {vw : Nat → Nat} {G : zG} (hw : gWf G) (hx : gX m 68 G) (hv : ∀ l, l < 6 → gI m 26 l = nI (vw l) ∧ vw l < 2 ^ 31) (h : Q (some (.int (Int32.ofInt (gZ vw G (gN G))))) m) :
    ∀ (j k : Nat), k + j = gN G → zRun (zCall (d + 1)) 1 (some .int) zc_Garden_slowness Q 7 [.ref 68, .ref 26, .int (Int32.ofInt (gZ vw G k)), .int (nI (gSt G k)), .int (nI k)] [] m
  | 0, k, hk => by
    refine sg_Garden_slowness_68_26_7 (zCall_m _) _ _ _ m ?_
    rw [hx.1]
    have := hw.1
    refine ip (nI_le (by omega) (by omega)) ?_
    rw [show k = gN G by omega]
    exact h
  | j + 1, k, hk => by
    have h10 := hw.1
    obtain ⟨w1, w2, w3, w4, w5⟩ := hw.2 k (by omega)
    have x1 : gI m 69 k = nI (gWd G k) := (hx.2.2.2 k (by omega)).1
    have x2 : gI m 70 k = nI (gNu G k) := (hx.2.2.2 k (by omega)).2.1
    have x3 : gI m 71 k = nI (gEn G k) := (hx.2.2.2 k (by omega)).2.2.1
    have IH := y_slow_68_26 d hw hx hv h j (k + 1) (by omega)
    have hin : vp_in (nI k) 10 := vp_in_nI (by omega) (by omega)
    have hkc : (nI k).toNatClampNeg = k := nI_clamp (by omega)
    refine sg_Garden_slowness_68_26_7 (zCall_m _) _ _ _ m ?_
    rw [hx.1, hkc, x1, x3, nI_1]
    have st : gSt G (k + 1) = gEn G k := rfl
    rw [st] at IH
    unfold gZ at IH
    have go : ∀ {y : Int32}, y = Int32.ofInt (gZ vw G k + (if gWd G k = 0 then (if gH vw G k = true then (gNu G k : Int) else 0) else if gWd G k = 1 then (if gH vw G k = true then -(gNu G k : Int) else 0) else 0)) → zRun (zCall (d + 1)) 1 (some .int) zc_Garden_slowness Q 7 [.ref 68, .ref 26, .int y, .int (nI (gEn G k)), .int (nI (k + 1))] [] m := fun e => by rw [e]; exact IH
    refine iq (nI_ge (by omega) (by omega)) ⟨hin, ?_⟩
    by_cases c0 : gWd G k = 0
    · rw [c0]
      refine iq (fun z => z rfl) ⟨hin, y_standsC_68_26 d hw hx hv (by omega) (by omega) ⟨_, rfl, ?_⟩⟩
      simp only [hkc, x1, x2, x3, c0]
      cases hh : gH vw G k with
      | false => exact ip rfl ⟨hin, ip (by decide) ⟨hin, go (by rw [if_pos c0, if_neg (by rw [hh]; decide), Int.add_zero])⟩⟩
      | true => exact iq (by decide) ⟨hin, hin, go (by rw [if_pos c0, if_pos hh, ← oI_nI, oI_add])⟩
    · refine ip (nI_ne (b := 0) (by omega) (by decide) c0) ⟨hin, ?_⟩
      by_cases c1 : gWd G k = 1
      · rw [c1]
        refine iq (fun z => z rfl) ⟨hin, y_standsC_68_26 d hw hx hv (by omega) (by omega) ⟨_, rfl, ?_⟩⟩
        simp only [hkc, x1, x2, x3]
        cases hh : gH vw G k with
        | false => exact ip rfl ⟨hin, go (by rw [if_neg c0, if_pos c1, if_neg (by rw [hh]; decide), Int.add_zero])⟩
        | true => exact iq (by decide) ⟨hin, hin, go (by rw [if_neg c0, if_pos c1, if_pos hh, ← oI_nI, oI_sub, Int.sub_eq_add_neg])⟩
      · exact ip (nI_ne (b := 1) (by omega) (by decide) c1) ⟨hin, go (by rw [if_neg c0, if_neg c1, Int.add_zero])⟩
theorem y_slowC_68_26 (d : Nat) {Q : zQ} {m : zM} {vw : Nat → Nat} {G : zG} (hw : gWf G) (hx : gX m 68 G) (hv : ∀ l, l < 6 → gI m 26 l = nI (vw l) ∧ vw l < 2 ^ 31) (h : Q (some (.int (Int32.ofInt (gZ vw G (gN G))))) m) : zCall (d + 2) m_Garden_slowness [.ref 68, .ref 26] m Q :=
  en_Garden_slowness_68_26 (d + 1) m (sg_Garden_slowness_68_26_0 (zCall_m _) m (y_slow_68_26 d hw hx hv h (gN G) 0 (Nat.zero_add _)))
theorem y_standsC_68_50 (d : Nat) {Q : zQ} {m : zM} {vw : Nat → Nat} {G : zG} (hw : gWf G) (hx : gX m 68 G) (hv : ∀ l, l < 6 → gI m 50 l = nI (vw l) ∧ vw l < 2 ^ 31) {k : Nat} (hk : k < gN G) (h2 : gWd G k < 2) (h : Q (some (.int (zb (gH vw G k)))) m) : zCall (d + 1) m_Garden_stands [.ref 68, .ref 50, .int (nI (gSt G k)), .int (nI (gEn G k))] m Q := by
  obtain ⟨w1, w2, w3, w4, w5⟩ := hw.2 k hk
  exact en_Garden_stands_68_50 d _ _ m (sg_Garden_stands_68_50_0 (zCall_m d) _ _ m (y_stands_68_50 (zCall_m d) (vw := vw) (code := gCo G) (e := gEn G k) w4 (hx.2.2.2 k hk).2.2.2 hv _ (gEn G k - gSt G k) (gSt G k) 0 [] (by omega) (w5 h2) (by decide) (fun j hj => absurd hj (Nat.not_lt_zero _)) h))
theorem y_slow_68_50 (d : Nat) {Q : zQ} {m : zM} {vw : Nat → Nat} {G : zG} (hw : gWf G) (hx : gX m 68 G) (hv : ∀ l, l < 6 → gI m 50 l = nI (vw l) ∧ vw l < 2 ^ 31) (h : Q (some (.int (Int32.ofInt (gZ vw G (gN G))))) m) :
    ∀ (j k : Nat), k + j = gN G → zRun (zCall (d + 1)) 1 (some .int) zc_Garden_slowness Q 7 [.ref 68, .ref 50, .int (Int32.ofInt (gZ vw G k)), .int (nI (gSt G k)), .int (nI k)] [] m
  | 0, k, hk => by
    refine sg_Garden_slowness_68_50_7 (zCall_m _) _ _ _ m ?_
    rw [hx.1]
    have := hw.1
    refine ip (nI_le (by omega) (by omega)) ?_
    rw [show k = gN G by omega]
    exact h
  | j + 1, k, hk => by
    have h10 := hw.1
    obtain ⟨w1, w2, w3, w4, w5⟩ := hw.2 k (by omega)
    have x1 : gI m 69 k = nI (gWd G k) := (hx.2.2.2 k (by omega)).1
    have x2 : gI m 70 k = nI (gNu G k) := (hx.2.2.2 k (by omega)).2.1
    have x3 : gI m 71 k = nI (gEn G k) := (hx.2.2.2 k (by omega)).2.2.1
    have IH := y_slow_68_50 d hw hx hv h j (k + 1) (by omega)
    have hin : vp_in (nI k) 10 := vp_in_nI (by omega) (by omega)
    have hkc : (nI k).toNatClampNeg = k := nI_clamp (by omega)
    refine sg_Garden_slowness_68_50_7 (zCall_m _) _ _ _ m ?_
    rw [hx.1, hkc, x1, x3, nI_1]
    have st : gSt G (k + 1) = gEn G k := rfl
    rw [st] at IH
    unfold gZ at IH
    have go : ∀ {y : Int32}, y = Int32.ofInt (gZ vw G k + (if gWd G k = 0 then (if gH vw G k = true then (gNu G k : Int) else 0) else if gWd G k = 1 then (if gH vw G k = true then -(gNu G k : Int) else 0) else 0)) → zRun (zCall (d + 1)) 1 (some .int) zc_Garden_slowness Q 7 [.ref 68, .ref 50, .int y, .int (nI (gEn G k)), .int (nI (k + 1))] [] m := fun e => by rw [e]; exact IH
    refine iq (nI_ge (by omega) (by omega)) ⟨hin, ?_⟩
    by_cases c0 : gWd G k = 0
    · rw [c0]
      refine iq (fun z => z rfl) ⟨hin, y_standsC_68_50 d hw hx hv (by omega) (by omega) ⟨_, rfl, ?_⟩⟩
      simp only [hkc, x1, x2, x3, c0]
      cases hh : gH vw G k with
      | false => exact ip rfl ⟨hin, ip (by decide) ⟨hin, go (by rw [if_pos c0, if_neg (by rw [hh]; decide), Int.add_zero])⟩⟩
      | true => exact iq (by decide) ⟨hin, hin, go (by rw [if_pos c0, if_pos hh, ← oI_nI, oI_add])⟩
    · refine ip (nI_ne (b := 0) (by omega) (by decide) c0) ⟨hin, ?_⟩
      by_cases c1 : gWd G k = 1
      · rw [c1]
        refine iq (fun z => z rfl) ⟨hin, y_standsC_68_50 d hw hx hv (by omega) (by omega) ⟨_, rfl, ?_⟩⟩
        simp only [hkc, x1, x2, x3]
        cases hh : gH vw G k with
        | false => exact ip rfl ⟨hin, go (by rw [if_neg c0, if_pos c1, if_neg (by rw [hh]; decide), Int.add_zero])⟩
        | true => exact iq (by decide) ⟨hin, hin, go (by rw [if_neg c0, if_pos c1, if_pos hh, ← oI_nI, oI_sub, Int.sub_eq_add_neg])⟩
      · exact ip (nI_ne (b := 1) (by omega) (by decide) c1) ⟨hin, go (by rw [if_neg c0, if_neg c1, Int.add_zero])⟩
theorem y_slowC_68_50 (d : Nat) {Q : zQ} {m : zM} {vw : Nat → Nat} {G : zG} (hw : gWf G) (hx : gX m 68 G) (hv : ∀ l, l < 6 → gI m 50 l = nI (vw l) ∧ vw l < 2 ^ 31) (h : Q (some (.int (Int32.ofInt (gZ vw G (gN G))))) m) : zCall (d + 2) m_Garden_slowness [.ref 68, .ref 50] m Q :=
  en_Garden_slowness_68_50 (d + 1) m (sg_Garden_slowness_68_50_0 (zCall_m _) m (y_slow_68_50 d hw hx hv h (gN G) 0 (Nat.zero_add _)))
theorem y_standsC_73_26 (d : Nat) {Q : zQ} {m : zM} {vw : Nat → Nat} {G : zG} (hw : gWf G) (hx : gX m 73 G) (hv : ∀ l, l < 6 → gI m 26 l = nI (vw l) ∧ vw l < 2 ^ 31) {k : Nat} (hk : k < gN G) (h2 : gWd G k < 2) (h : Q (some (.int (zb (gH vw G k)))) m) : zCall (d + 1) m_Garden_stands [.ref 73, .ref 26, .int (nI (gSt G k)), .int (nI (gEn G k))] m Q := by
  obtain ⟨w1, w2, w3, w4, w5⟩ := hw.2 k hk
  exact en_Garden_stands_73_26 d _ _ m (sg_Garden_stands_73_26_0 (zCall_m d) _ _ m (y_stands_73_26 (zCall_m d) (vw := vw) (code := gCo G) (e := gEn G k) w4 (hx.2.2.2 k hk).2.2.2 hv _ (gEn G k - gSt G k) (gSt G k) 0 [] (by omega) (w5 h2) (by decide) (fun j hj => absurd hj (Nat.not_lt_zero _)) h))
theorem y_slow_73_26 (d : Nat) {Q : zQ} {m : zM} {vw : Nat → Nat} {G : zG} (hw : gWf G) (hx : gX m 73 G) (hv : ∀ l, l < 6 → gI m 26 l = nI (vw l) ∧ vw l < 2 ^ 31) (h : Q (some (.int (Int32.ofInt (gZ vw G (gN G))))) m) :
    ∀ (j k : Nat), k + j = gN G → zRun (zCall (d + 1)) 1 (some .int) zc_Garden_slowness Q 7 [.ref 73, .ref 26, .int (Int32.ofInt (gZ vw G k)), .int (nI (gSt G k)), .int (nI k)] [] m
  | 0, k, hk => by
    refine sg_Garden_slowness_73_26_7 (zCall_m _) _ _ _ m ?_
    rw [hx.1]
    have := hw.1
    refine ip (nI_le (by omega) (by omega)) ?_
    rw [show k = gN G by omega]
    exact h
  | j + 1, k, hk => by
    have h10 := hw.1
    obtain ⟨w1, w2, w3, w4, w5⟩ := hw.2 k (by omega)
    have x1 : gI m 74 k = nI (gWd G k) := (hx.2.2.2 k (by omega)).1
    have x2 : gI m 75 k = nI (gNu G k) := (hx.2.2.2 k (by omega)).2.1
    have x3 : gI m 76 k = nI (gEn G k) := (hx.2.2.2 k (by omega)).2.2.1
    have IH := y_slow_73_26 d hw hx hv h j (k + 1) (by omega)
    have hin : vp_in (nI k) 10 := vp_in_nI (by omega) (by omega)
    have hkc : (nI k).toNatClampNeg = k := nI_clamp (by omega)
    refine sg_Garden_slowness_73_26_7 (zCall_m _) _ _ _ m ?_
    rw [hx.1, hkc, x1, x3, nI_1]
    have st : gSt G (k + 1) = gEn G k := rfl
    rw [st] at IH
    unfold gZ at IH
    have go : ∀ {y : Int32}, y = Int32.ofInt (gZ vw G k + (if gWd G k = 0 then (if gH vw G k = true then (gNu G k : Int) else 0) else if gWd G k = 1 then (if gH vw G k = true then -(gNu G k : Int) else 0) else 0)) → zRun (zCall (d + 1)) 1 (some .int) zc_Garden_slowness Q 7 [.ref 73, .ref 26, .int y, .int (nI (gEn G k)), .int (nI (k + 1))] [] m := fun e => by rw [e]; exact IH
    refine iq (nI_ge (by omega) (by omega)) ⟨hin, ?_⟩
    by_cases c0 : gWd G k = 0
    · rw [c0]
      refine iq (fun z => z rfl) ⟨hin, y_standsC_73_26 d hw hx hv (by omega) (by omega) ⟨_, rfl, ?_⟩⟩
      simp only [hkc, x1, x2, x3, c0]
      cases hh : gH vw G k with
      | false => exact ip rfl ⟨hin, ip (by decide) ⟨hin, go (by rw [if_pos c0, if_neg (by rw [hh]; decide), Int.add_zero])⟩⟩
      | true => exact iq (by decide) ⟨hin, hin, go (by rw [if_pos c0, if_pos hh, ← oI_nI, oI_add])⟩
    · refine ip (nI_ne (b := 0) (by omega) (by decide) c0) ⟨hin, ?_⟩
      by_cases c1 : gWd G k = 1
      · rw [c1]
        refine iq (fun z => z rfl) ⟨hin, y_standsC_73_26 d hw hx hv (by omega) (by omega) ⟨_, rfl, ?_⟩⟩
        simp only [hkc, x1, x2, x3]
        cases hh : gH vw G k with
        | false => exact ip rfl ⟨hin, go (by rw [if_neg c0, if_pos c1, if_neg (by rw [hh]; decide), Int.add_zero])⟩
        | true => exact iq (by decide) ⟨hin, hin, go (by rw [if_neg c0, if_pos c1, if_pos hh, ← oI_nI, oI_sub, Int.sub_eq_add_neg])⟩
      · exact ip (nI_ne (b := 1) (by omega) (by decide) c1) ⟨hin, go (by rw [if_neg c0, if_neg c1, Int.add_zero])⟩
theorem y_slowC_73_26 (d : Nat) {Q : zQ} {m : zM} {vw : Nat → Nat} {G : zG} (hw : gWf G) (hx : gX m 73 G) (hv : ∀ l, l < 6 → gI m 26 l = nI (vw l) ∧ vw l < 2 ^ 31) (h : Q (some (.int (Int32.ofInt (gZ vw G (gN G))))) m) : zCall (d + 2) m_Garden_slowness [.ref 73, .ref 26] m Q :=
  en_Garden_slowness_73_26 (d + 1) m (sg_Garden_slowness_73_26_0 (zCall_m _) m (y_slow_73_26 d hw hx hv h (gN G) 0 (Nat.zero_add _)))
theorem y_standsC_73_50 (d : Nat) {Q : zQ} {m : zM} {vw : Nat → Nat} {G : zG} (hw : gWf G) (hx : gX m 73 G) (hv : ∀ l, l < 6 → gI m 50 l = nI (vw l) ∧ vw l < 2 ^ 31) {k : Nat} (hk : k < gN G) (h2 : gWd G k < 2) (h : Q (some (.int (zb (gH vw G k)))) m) : zCall (d + 1) m_Garden_stands [.ref 73, .ref 50, .int (nI (gSt G k)), .int (nI (gEn G k))] m Q := by
  obtain ⟨w1, w2, w3, w4, w5⟩ := hw.2 k hk
  exact en_Garden_stands_73_50 d _ _ m (sg_Garden_stands_73_50_0 (zCall_m d) _ _ m (y_stands_73_50 (zCall_m d) (vw := vw) (code := gCo G) (e := gEn G k) w4 (hx.2.2.2 k hk).2.2.2 hv _ (gEn G k - gSt G k) (gSt G k) 0 [] (by omega) (w5 h2) (by decide) (fun j hj => absurd hj (Nat.not_lt_zero _)) h))
theorem y_slow_73_50 (d : Nat) {Q : zQ} {m : zM} {vw : Nat → Nat} {G : zG} (hw : gWf G) (hx : gX m 73 G) (hv : ∀ l, l < 6 → gI m 50 l = nI (vw l) ∧ vw l < 2 ^ 31) (h : Q (some (.int (Int32.ofInt (gZ vw G (gN G))))) m) :
    ∀ (j k : Nat), k + j = gN G → zRun (zCall (d + 1)) 1 (some .int) zc_Garden_slowness Q 7 [.ref 73, .ref 50, .int (Int32.ofInt (gZ vw G k)), .int (nI (gSt G k)), .int (nI k)] [] m
  | 0, k, hk => by
    refine sg_Garden_slowness_73_50_7 (zCall_m _) _ _ _ m ?_
    rw [hx.1]
    have := hw.1
    refine ip (nI_le (by omega) (by omega)) ?_
    rw [show k = gN G by omega]
    exact h
  | j + 1, k, hk => by
    have h10 := hw.1
    obtain ⟨w1, w2, w3, w4, w5⟩ := hw.2 k (by omega)
    have x1 : gI m 74 k = nI (gWd G k) := (hx.2.2.2 k (by omega)).1
    have x2 : gI m 75 k = nI (gNu G k) := (hx.2.2.2 k (by omega)).2.1
    have x3 : gI m 76 k = nI (gEn G k) := (hx.2.2.2 k (by omega)).2.2.1
    have IH := y_slow_73_50 d hw hx hv h j (k + 1) (by omega)
    have hin : vp_in (nI k) 10 := vp_in_nI (by omega) (by omega)
    have hkc : (nI k).toNatClampNeg = k := nI_clamp (by omega)
    refine sg_Garden_slowness_73_50_7 (zCall_m _) _ _ _ m ?_
    rw [hx.1, hkc, x1, x3, nI_1]
    have st : gSt G (k + 1) = gEn G k := rfl
    rw [st] at IH
    unfold gZ at IH
    have go : ∀ {y : Int32}, y = Int32.ofInt (gZ vw G k + (if gWd G k = 0 then (if gH vw G k = true then (gNu G k : Int) else 0) else if gWd G k = 1 then (if gH vw G k = true then -(gNu G k : Int) else 0) else 0)) → zRun (zCall (d + 1)) 1 (some .int) zc_Garden_slowness Q 7 [.ref 73, .ref 50, .int y, .int (nI (gEn G k)), .int (nI (k + 1))] [] m := fun e => by rw [e]; exact IH
    refine iq (nI_ge (by omega) (by omega)) ⟨hin, ?_⟩
    by_cases c0 : gWd G k = 0
    · rw [c0]
      refine iq (fun z => z rfl) ⟨hin, y_standsC_73_50 d hw hx hv (by omega) (by omega) ⟨_, rfl, ?_⟩⟩
      simp only [hkc, x1, x2, x3, c0]
      cases hh : gH vw G k with
      | false => exact ip rfl ⟨hin, ip (by decide) ⟨hin, go (by rw [if_pos c0, if_neg (by rw [hh]; decide), Int.add_zero])⟩⟩
      | true => exact iq (by decide) ⟨hin, hin, go (by rw [if_pos c0, if_pos hh, ← oI_nI, oI_add])⟩
    · refine ip (nI_ne (b := 0) (by omega) (by decide) c0) ⟨hin, ?_⟩
      by_cases c1 : gWd G k = 1
      · rw [c1]
        refine iq (fun z => z rfl) ⟨hin, y_standsC_73_50 d hw hx hv (by omega) (by omega) ⟨_, rfl, ?_⟩⟩
        simp only [hkc, x1, x2, x3]
        cases hh : gH vw G k with
        | false => exact ip rfl ⟨hin, go (by rw [if_neg c0, if_pos c1, if_neg (by rw [hh]; decide), Int.add_zero])⟩
        | true => exact iq (by decide) ⟨hin, hin, go (by rw [if_neg c0, if_pos c1, if_pos hh, ← oI_nI, oI_sub, Int.sub_eq_add_neg])⟩
      · exact ip (nI_ne (b := 1) (by omega) (by decide) c1) ⟨hin, go (by rw [if_neg c0, if_neg c1, Int.add_zero])⟩
theorem y_slowC_73_50 (d : Nat) {Q : zQ} {m : zM} {vw : Nat → Nat} {G : zG} (hw : gWf G) (hx : gX m 73 G) (hv : ∀ l, l < 6 → gI m 50 l = nI (vw l) ∧ vw l < 2 ^ 31) (h : Q (some (.int (Int32.ofInt (gZ vw G (gN G))))) m) : zCall (d + 2) m_Garden_slowness [.ref 73, .ref 50] m Q :=
  en_Garden_slowness_73_50 (d + 1) m (sg_Garden_slowness_73_50_0 (zCall_m _) m (y_slow_73_50 d hw hx hv h (gN G) 0 (Nat.zero_add _)))
theorem y_standsC_78_26 (d : Nat) {Q : zQ} {m : zM} {vw : Nat → Nat} {G : zG} (hw : gWf G) (hx : gX m 78 G) (hv : ∀ l, l < 6 → gI m 26 l = nI (vw l) ∧ vw l < 2 ^ 31) {k : Nat} (hk : k < gN G) (h2 : gWd G k < 2) (h : Q (some (.int (zb (gH vw G k)))) m) : zCall (d + 1) m_Garden_stands [.ref 78, .ref 26, .int (nI (gSt G k)), .int (nI (gEn G k))] m Q := by
  obtain ⟨w1, w2, w3, w4, w5⟩ := hw.2 k hk
  exact en_Garden_stands_78_26 d _ _ m (sg_Garden_stands_78_26_0 (zCall_m d) _ _ m (y_stands_78_26 (zCall_m d) (vw := vw) (code := gCo G) (e := gEn G k) w4 (hx.2.2.2 k hk).2.2.2 hv _ (gEn G k - gSt G k) (gSt G k) 0 [] (by omega) (w5 h2) (by decide) (fun j hj => absurd hj (Nat.not_lt_zero _)) h))
theorem y_slow_78_26 (d : Nat) {Q : zQ} {m : zM} {vw : Nat → Nat} {G : zG} (hw : gWf G) (hx : gX m 78 G) (hv : ∀ l, l < 6 → gI m 26 l = nI (vw l) ∧ vw l < 2 ^ 31) (h : Q (some (.int (Int32.ofInt (gZ vw G (gN G))))) m) :
    ∀ (j k : Nat), k + j = gN G → zRun (zCall (d + 1)) 1 (some .int) zc_Garden_slowness Q 7 [.ref 78, .ref 26, .int (Int32.ofInt (gZ vw G k)), .int (nI (gSt G k)), .int (nI k)] [] m
  | 0, k, hk => by
    refine sg_Garden_slowness_78_26_7 (zCall_m _) _ _ _ m ?_
    rw [hx.1]
    have := hw.1
    refine ip (nI_le (by omega) (by omega)) ?_
    rw [show k = gN G by omega]
    exact h
  | j + 1, k, hk => by
    have h10 := hw.1
    obtain ⟨w1, w2, w3, w4, w5⟩ := hw.2 k (by omega)
    have x1 : gI m 79 k = nI (gWd G k) := (hx.2.2.2 k (by omega)).1
    have x2 : gI m 80 k = nI (gNu G k) := (hx.2.2.2 k (by omega)).2.1
    have x3 : gI m 81 k = nI (gEn G k) := (hx.2.2.2 k (by omega)).2.2.1
    have IH := y_slow_78_26 d hw hx hv h j (k + 1) (by omega)
    have hin : vp_in (nI k) 10 := vp_in_nI (by omega) (by omega)
    have hkc : (nI k).toNatClampNeg = k := nI_clamp (by omega)
    refine sg_Garden_slowness_78_26_7 (zCall_m _) _ _ _ m ?_
    rw [hx.1, hkc, x1, x3, nI_1]
    have st : gSt G (k + 1) = gEn G k := rfl
    rw [st] at IH
    unfold gZ at IH
    have go : ∀ {y : Int32}, y = Int32.ofInt (gZ vw G k + (if gWd G k = 0 then (if gH vw G k = true then (gNu G k : Int) else 0) else if gWd G k = 1 then (if gH vw G k = true then -(gNu G k : Int) else 0) else 0)) → zRun (zCall (d + 1)) 1 (some .int) zc_Garden_slowness Q 7 [.ref 78, .ref 26, .int y, .int (nI (gEn G k)), .int (nI (k + 1))] [] m := fun e => by rw [e]; exact IH
    refine iq (nI_ge (by omega) (by omega)) ⟨hin, ?_⟩
    by_cases c0 : gWd G k = 0
    · rw [c0]
      refine iq (fun z => z rfl) ⟨hin, y_standsC_78_26 d hw hx hv (by omega) (by omega) ⟨_, rfl, ?_⟩⟩
      simp only [hkc, x1, x2, x3, c0]
      cases hh : gH vw G k with
      | false => exact ip rfl ⟨hin, ip (by decide) ⟨hin, go (by rw [if_pos c0, if_neg (by rw [hh]; decide), Int.add_zero])⟩⟩
      | true => exact iq (by decide) ⟨hin, hin, go (by rw [if_pos c0, if_pos hh, ← oI_nI, oI_add])⟩
    · refine ip (nI_ne (b := 0) (by omega) (by decide) c0) ⟨hin, ?_⟩
      by_cases c1 : gWd G k = 1
      · rw [c1]
        refine iq (fun z => z rfl) ⟨hin, y_standsC_78_26 d hw hx hv (by omega) (by omega) ⟨_, rfl, ?_⟩⟩
        simp only [hkc, x1, x2, x3]
        cases hh : gH vw G k with
        | false => exact ip rfl ⟨hin, go (by rw [if_neg c0, if_pos c1, if_neg (by rw [hh]; decide), Int.add_zero])⟩
        | true => exact iq (by decide) ⟨hin, hin, go (by rw [if_neg c0, if_pos c1, if_pos hh, ← oI_nI, oI_sub, Int.sub_eq_add_neg])⟩
      · exact ip (nI_ne (b := 1) (by omega) (by decide) c1) ⟨hin, go (by rw [if_neg c0, if_neg c1, Int.add_zero])⟩
theorem y_slowC_78_26 (d : Nat) {Q : zQ} {m : zM} {vw : Nat → Nat} {G : zG} (hw : gWf G) (hx : gX m 78 G) (hv : ∀ l, l < 6 → gI m 26 l = nI (vw l) ∧ vw l < 2 ^ 31) (h : Q (some (.int (Int32.ofInt (gZ vw G (gN G))))) m) : zCall (d + 2) m_Garden_slowness [.ref 78, .ref 26] m Q :=
  en_Garden_slowness_78_26 (d + 1) m (sg_Garden_slowness_78_26_0 (zCall_m _) m (y_slow_78_26 d hw hx hv h (gN G) 0 (Nat.zero_add _)))
theorem y_standsC_78_50 (d : Nat) {Q : zQ} {m : zM} {vw : Nat → Nat} {G : zG} (hw : gWf G) (hx : gX m 78 G) (hv : ∀ l, l < 6 → gI m 50 l = nI (vw l) ∧ vw l < 2 ^ 31) {k : Nat} (hk : k < gN G) (h2 : gWd G k < 2) (h : Q (some (.int (zb (gH vw G k)))) m) : zCall (d + 1) m_Garden_stands [.ref 78, .ref 50, .int (nI (gSt G k)), .int (nI (gEn G k))] m Q := by
  obtain ⟨w1, w2, w3, w4, w5⟩ := hw.2 k hk
  exact en_Garden_stands_78_50 d _ _ m (sg_Garden_stands_78_50_0 (zCall_m d) _ _ m (y_stands_78_50 (zCall_m d) (vw := vw) (code := gCo G) (e := gEn G k) w4 (hx.2.2.2 k hk).2.2.2 hv _ (gEn G k - gSt G k) (gSt G k) 0 [] (by omega) (w5 h2) (by decide) (fun j hj => absurd hj (Nat.not_lt_zero _)) h))
theorem y_slow_78_50 (d : Nat) {Q : zQ} {m : zM} {vw : Nat → Nat} {G : zG} (hw : gWf G) (hx : gX m 78 G) (hv : ∀ l, l < 6 → gI m 50 l = nI (vw l) ∧ vw l < 2 ^ 31) (h : Q (some (.int (Int32.ofInt (gZ vw G (gN G))))) m) :
    ∀ (j k : Nat), k + j = gN G → zRun (zCall (d + 1)) 1 (some .int) zc_Garden_slowness Q 7 [.ref 78, .ref 50, .int (Int32.ofInt (gZ vw G k)), .int (nI (gSt G k)), .int (nI k)] [] m
  | 0, k, hk => by
    refine sg_Garden_slowness_78_50_7 (zCall_m _) _ _ _ m ?_
    rw [hx.1]
    have := hw.1
    refine ip (nI_le (by omega) (by omega)) ?_
    rw [show k = gN G by omega]
    exact h
  | j + 1, k, hk => by
    have h10 := hw.1
    obtain ⟨w1, w2, w3, w4, w5⟩ := hw.2 k (by omega)
    have x1 : gI m 79 k = nI (gWd G k) := (hx.2.2.2 k (by omega)).1
    have x2 : gI m 80 k = nI (gNu G k) := (hx.2.2.2 k (by omega)).2.1
    have x3 : gI m 81 k = nI (gEn G k) := (hx.2.2.2 k (by omega)).2.2.1
    have IH := y_slow_78_50 d hw hx hv h j (k + 1) (by omega)
    have hin : vp_in (nI k) 10 := vp_in_nI (by omega) (by omega)
    have hkc : (nI k).toNatClampNeg = k := nI_clamp (by omega)
    refine sg_Garden_slowness_78_50_7 (zCall_m _) _ _ _ m ?_
    rw [hx.1, hkc, x1, x3, nI_1]
    have st : gSt G (k + 1) = gEn G k := rfl
    rw [st] at IH
    unfold gZ at IH
    have go : ∀ {y : Int32}, y = Int32.ofInt (gZ vw G k + (if gWd G k = 0 then (if gH vw G k = true then (gNu G k : Int) else 0) else if gWd G k = 1 then (if gH vw G k = true then -(gNu G k : Int) else 0) else 0)) → zRun (zCall (d + 1)) 1 (some .int) zc_Garden_slowness Q 7 [.ref 78, .ref 50, .int y, .int (nI (gEn G k)), .int (nI (k + 1))] [] m := fun e => by rw [e]; exact IH
    refine iq (nI_ge (by omega) (by omega)) ⟨hin, ?_⟩
    by_cases c0 : gWd G k = 0
    · rw [c0]
      refine iq (fun z => z rfl) ⟨hin, y_standsC_78_50 d hw hx hv (by omega) (by omega) ⟨_, rfl, ?_⟩⟩
      simp only [hkc, x1, x2, x3, c0]
      cases hh : gH vw G k with
      | false => exact ip rfl ⟨hin, ip (by decide) ⟨hin, go (by rw [if_pos c0, if_neg (by rw [hh]; decide), Int.add_zero])⟩⟩
      | true => exact iq (by decide) ⟨hin, hin, go (by rw [if_pos c0, if_pos hh, ← oI_nI, oI_add])⟩
    · refine ip (nI_ne (b := 0) (by omega) (by decide) c0) ⟨hin, ?_⟩
      by_cases c1 : gWd G k = 1
      · rw [c1]
        refine iq (fun z => z rfl) ⟨hin, y_standsC_78_50 d hw hx hv (by omega) (by omega) ⟨_, rfl, ?_⟩⟩
        simp only [hkc, x1, x2, x3]
        cases hh : gH vw G k with
        | false => exact ip rfl ⟨hin, go (by rw [if_neg c0, if_pos c1, if_neg (by rw [hh]; decide), Int.add_zero])⟩
        | true => exact iq (by decide) ⟨hin, hin, go (by rw [if_neg c0, if_pos c1, if_pos hh, ← oI_nI, oI_sub, Int.sub_eq_add_neg])⟩
      · exact ip (nI_ne (b := 1) (by omega) (by decide) c1) ⟨hin, go (by rw [if_neg c0, if_neg c1, Int.add_zero])⟩
theorem y_slowC_78_50 (d : Nat) {Q : zQ} {m : zM} {vw : Nat → Nat} {G : zG} (hw : gWf G) (hx : gX m 78 G) (hv : ∀ l, l < 6 → gI m 50 l = nI (vw l) ∧ vw l < 2 ^ 31) (h : Q (some (.int (Int32.ofInt (gZ vw G (gN G))))) m) : zCall (d + 2) m_Garden_slowness [.ref 78, .ref 50] m Q :=
  en_Garden_slowness_78_50 (d + 1) m (sg_Garden_slowness_78_50_0 (zCall_m _) m (y_slow_78_50 d hw hx hv h (gN G) 0 (Nat.zero_add _)))
theorem y_standsC_83_26 (d : Nat) {Q : zQ} {m : zM} {vw : Nat → Nat} {G : zG} (hw : gWf G) (hx : gX m 83 G) (hv : ∀ l, l < 6 → gI m 26 l = nI (vw l) ∧ vw l < 2 ^ 31) {k : Nat} (hk : k < gN G) (h2 : gWd G k < 2) (h : Q (some (.int (zb (gH vw G k)))) m) : zCall (d + 1) m_Garden_stands [.ref 83, .ref 26, .int (nI (gSt G k)), .int (nI (gEn G k))] m Q := by
  obtain ⟨w1, w2, w3, w4, w5⟩ := hw.2 k hk
  exact en_Garden_stands_83_26 d _ _ m (sg_Garden_stands_83_26_0 (zCall_m d) _ _ m (y_stands_83_26 (zCall_m d) (vw := vw) (code := gCo G) (e := gEn G k) w4 (hx.2.2.2 k hk).2.2.2 hv _ (gEn G k - gSt G k) (gSt G k) 0 [] (by omega) (w5 h2) (by decide) (fun j hj => absurd hj (Nat.not_lt_zero _)) h))
theorem y_slow_83_26 (d : Nat) {Q : zQ} {m : zM} {vw : Nat → Nat} {G : zG} (hw : gWf G) (hx : gX m 83 G) (hv : ∀ l, l < 6 → gI m 26 l = nI (vw l) ∧ vw l < 2 ^ 31) (h : Q (some (.int (Int32.ofInt (gZ vw G (gN G))))) m) :
    ∀ (j k : Nat), k + j = gN G → zRun (zCall (d + 1)) 1 (some .int) zc_Garden_slowness Q 7 [.ref 83, .ref 26, .int (Int32.ofInt (gZ vw G k)), .int (nI (gSt G k)), .int (nI k)] [] m
  | 0, k, hk => by
    refine sg_Garden_slowness_83_26_7 (zCall_m _) _ _ _ m ?_
    rw [hx.1]
    have := hw.1
    refine ip (nI_le (by omega) (by omega)) ?_
    rw [show k = gN G by omega]
    exact h
  | j + 1, k, hk => by
    have h10 := hw.1
    obtain ⟨w1, w2, w3, w4, w5⟩ := hw.2 k (by omega)
    have x1 : gI m 84 k = nI (gWd G k) := (hx.2.2.2 k (by omega)).1
    have x2 : gI m 85 k = nI (gNu G k) := (hx.2.2.2 k (by omega)).2.1
    have x3 : gI m 86 k = nI (gEn G k) := (hx.2.2.2 k (by omega)).2.2.1
    have IH := y_slow_83_26 d hw hx hv h j (k + 1) (by omega)
    have hin : vp_in (nI k) 10 := vp_in_nI (by omega) (by omega)
    have hkc : (nI k).toNatClampNeg = k := nI_clamp (by omega)
    refine sg_Garden_slowness_83_26_7 (zCall_m _) _ _ _ m ?_
    rw [hx.1, hkc, x1, x3, nI_1]
    have st : gSt G (k + 1) = gEn G k := rfl
    rw [st] at IH
    unfold gZ at IH
    have go : ∀ {y : Int32}, y = Int32.ofInt (gZ vw G k + (if gWd G k = 0 then (if gH vw G k = true then (gNu G k : Int) else 0) else if gWd G k = 1 then (if gH vw G k = true then -(gNu G k : Int) else 0) else 0)) → zRun (zCall (d + 1)) 1 (some .int) zc_Garden_slowness Q 7 [.ref 83, .ref 26, .int y, .int (nI (gEn G k)), .int (nI (k + 1))] [] m := fun e => by rw [e]; exact IH
    refine iq (nI_ge (by omega) (by omega)) ⟨hin, ?_⟩
    by_cases c0 : gWd G k = 0
    · rw [c0]
      refine iq (fun z => z rfl) ⟨hin, y_standsC_83_26 d hw hx hv (by omega) (by omega) ⟨_, rfl, ?_⟩⟩
      simp only [hkc, x1, x2, x3, c0]
      cases hh : gH vw G k with
      | false => exact ip rfl ⟨hin, ip (by decide) ⟨hin, go (by rw [if_pos c0, if_neg (by rw [hh]; decide), Int.add_zero])⟩⟩
      | true => exact iq (by decide) ⟨hin, hin, go (by rw [if_pos c0, if_pos hh, ← oI_nI, oI_add])⟩
    · refine ip (nI_ne (b := 0) (by omega) (by decide) c0) ⟨hin, ?_⟩
      by_cases c1 : gWd G k = 1
      · rw [c1]
        refine iq (fun z => z rfl) ⟨hin, y_standsC_83_26 d hw hx hv (by omega) (by omega) ⟨_, rfl, ?_⟩⟩
        simp only [hkc, x1, x2, x3]
        cases hh : gH vw G k with
        | false => exact ip rfl ⟨hin, go (by rw [if_neg c0, if_pos c1, if_neg (by rw [hh]; decide), Int.add_zero])⟩
        | true => exact iq (by decide) ⟨hin, hin, go (by rw [if_neg c0, if_pos c1, if_pos hh, ← oI_nI, oI_sub, Int.sub_eq_add_neg])⟩
      · exact ip (nI_ne (b := 1) (by omega) (by decide) c1) ⟨hin, go (by rw [if_neg c0, if_neg c1, Int.add_zero])⟩
theorem y_slowC_83_26 (d : Nat) {Q : zQ} {m : zM} {vw : Nat → Nat} {G : zG} (hw : gWf G) (hx : gX m 83 G) (hv : ∀ l, l < 6 → gI m 26 l = nI (vw l) ∧ vw l < 2 ^ 31) (h : Q (some (.int (Int32.ofInt (gZ vw G (gN G))))) m) : zCall (d + 2) m_Garden_slowness [.ref 83, .ref 26] m Q :=
  en_Garden_slowness_83_26 (d + 1) m (sg_Garden_slowness_83_26_0 (zCall_m _) m (y_slow_83_26 d hw hx hv h (gN G) 0 (Nat.zero_add _)))
theorem y_standsC_83_50 (d : Nat) {Q : zQ} {m : zM} {vw : Nat → Nat} {G : zG} (hw : gWf G) (hx : gX m 83 G) (hv : ∀ l, l < 6 → gI m 50 l = nI (vw l) ∧ vw l < 2 ^ 31) {k : Nat} (hk : k < gN G) (h2 : gWd G k < 2) (h : Q (some (.int (zb (gH vw G k)))) m) : zCall (d + 1) m_Garden_stands [.ref 83, .ref 50, .int (nI (gSt G k)), .int (nI (gEn G k))] m Q := by
  obtain ⟨w1, w2, w3, w4, w5⟩ := hw.2 k hk
  exact en_Garden_stands_83_50 d _ _ m (sg_Garden_stands_83_50_0 (zCall_m d) _ _ m (y_stands_83_50 (zCall_m d) (vw := vw) (code := gCo G) (e := gEn G k) w4 (hx.2.2.2 k hk).2.2.2 hv _ (gEn G k - gSt G k) (gSt G k) 0 [] (by omega) (w5 h2) (by decide) (fun j hj => absurd hj (Nat.not_lt_zero _)) h))
theorem y_slow_83_50 (d : Nat) {Q : zQ} {m : zM} {vw : Nat → Nat} {G : zG} (hw : gWf G) (hx : gX m 83 G) (hv : ∀ l, l < 6 → gI m 50 l = nI (vw l) ∧ vw l < 2 ^ 31) (h : Q (some (.int (Int32.ofInt (gZ vw G (gN G))))) m) :
    ∀ (j k : Nat), k + j = gN G → zRun (zCall (d + 1)) 1 (some .int) zc_Garden_slowness Q 7 [.ref 83, .ref 50, .int (Int32.ofInt (gZ vw G k)), .int (nI (gSt G k)), .int (nI k)] [] m
  | 0, k, hk => by
    refine sg_Garden_slowness_83_50_7 (zCall_m _) _ _ _ m ?_
    rw [hx.1]
    have := hw.1
    refine ip (nI_le (by omega) (by omega)) ?_
    rw [show k = gN G by omega]
    exact h
  | j + 1, k, hk => by
    have h10 := hw.1
    obtain ⟨w1, w2, w3, w4, w5⟩ := hw.2 k (by omega)
    have x1 : gI m 84 k = nI (gWd G k) := (hx.2.2.2 k (by omega)).1
    have x2 : gI m 85 k = nI (gNu G k) := (hx.2.2.2 k (by omega)).2.1
    have x3 : gI m 86 k = nI (gEn G k) := (hx.2.2.2 k (by omega)).2.2.1
    have IH := y_slow_83_50 d hw hx hv h j (k + 1) (by omega)
    have hin : vp_in (nI k) 10 := vp_in_nI (by omega) (by omega)
    have hkc : (nI k).toNatClampNeg = k := nI_clamp (by omega)
    refine sg_Garden_slowness_83_50_7 (zCall_m _) _ _ _ m ?_
    rw [hx.1, hkc, x1, x3, nI_1]
    have st : gSt G (k + 1) = gEn G k := rfl
    rw [st] at IH
    unfold gZ at IH
    have go : ∀ {y : Int32}, y = Int32.ofInt (gZ vw G k + (if gWd G k = 0 then (if gH vw G k = true then (gNu G k : Int) else 0) else if gWd G k = 1 then (if gH vw G k = true then -(gNu G k : Int) else 0) else 0)) → zRun (zCall (d + 1)) 1 (some .int) zc_Garden_slowness Q 7 [.ref 83, .ref 50, .int y, .int (nI (gEn G k)), .int (nI (k + 1))] [] m := fun e => by rw [e]; exact IH
    refine iq (nI_ge (by omega) (by omega)) ⟨hin, ?_⟩
    by_cases c0 : gWd G k = 0
    · rw [c0]
      refine iq (fun z => z rfl) ⟨hin, y_standsC_83_50 d hw hx hv (by omega) (by omega) ⟨_, rfl, ?_⟩⟩
      simp only [hkc, x1, x2, x3, c0]
      cases hh : gH vw G k with
      | false => exact ip rfl ⟨hin, ip (by decide) ⟨hin, go (by rw [if_pos c0, if_neg (by rw [hh]; decide), Int.add_zero])⟩⟩
      | true => exact iq (by decide) ⟨hin, hin, go (by rw [if_pos c0, if_pos hh, ← oI_nI, oI_add])⟩
    · refine ip (nI_ne (b := 0) (by omega) (by decide) c0) ⟨hin, ?_⟩
      by_cases c1 : gWd G k = 1
      · rw [c1]
        refine iq (fun z => z rfl) ⟨hin, y_standsC_83_50 d hw hx hv (by omega) (by omega) ⟨_, rfl, ?_⟩⟩
        simp only [hkc, x1, x2, x3]
        cases hh : gH vw G k with
        | false => exact ip rfl ⟨hin, go (by rw [if_neg c0, if_pos c1, if_neg (by rw [hh]; decide), Int.add_zero])⟩
        | true => exact iq (by decide) ⟨hin, hin, go (by rw [if_neg c0, if_pos c1, if_pos hh, ← oI_nI, oI_sub, Int.sub_eq_add_neg])⟩
      · exact ip (nI_ne (b := 1) (by omega) (by decide) c1) ⟨hin, go (by rw [if_neg c0, if_neg c1, Int.add_zero])⟩
theorem y_slowC_83_50 (d : Nat) {Q : zQ} {m : zM} {vw : Nat → Nat} {G : zG} (hw : gWf G) (hx : gX m 83 G) (hv : ∀ l, l < 6 → gI m 50 l = nI (vw l) ∧ vw l < 2 ^ 31) (h : Q (some (.int (Int32.ofInt (gZ vw G (gN G))))) m) : zCall (d + 2) m_Garden_slowness [.ref 83, .ref 50] m Q :=
  en_Garden_slowness_83_50 (d + 1) m (sg_Garden_slowness_83_50_0 (zCall_m _) m (y_slow_83_50 d hw hx hv h (gN G) 0 (Nat.zero_add _)))
