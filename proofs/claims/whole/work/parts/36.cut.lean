/-! cut -/
def fstF (P : Nat → Bool) : Nat → Nat → Option Nat
  | 0, _ => none
  | j + 1, k => if P k = true then some k else fstF P j (k + 1)
theorem fstF_p {P : Nat → Bool} : ∀ {j k w : Nat}, fstF P j k = some w → P w = true ∧ w < k + j
  | 0, _, _, h => by cases h
  | j + 1, k, w, h => by
    unfold fstF at h
    split at h
    · rename_i hp
      cases h
      exact ⟨hp, by omega⟩
    · obtain ⟨a, b⟩ := fstF_p h
      exact ⟨a, by omega⟩
def pC (V : zV) (one other many w : Nat) : Bool := decide (nI w &&& (z1 one ||| z1 other) = 0) && (decide (pop (nI w) = many) && !hrd (vDo V (vD V ||| nI w)) one other)
def ctF (V : zV) (one other : Nat) : Nat → Nat → Option (Nat × Nat)
  | 0, _ => none
  | j + 1, many => match fstF (pC V one other many) (2 ^ vN V) 0 with
    | some w => some (many, w)
    | none => ctF V one other j (many + 1)
def ctW : Option (Nat × Nat) → Int32
  | none => -5
  | some (_, w) => nI w
def ctN : Option (Nat × Nat) → Int32
  | none => -5
  | some (k, _) => nI k
theorem ctF_p {V : zV} {one other : Nat} : ∀ {j many k w : Nat}, ctF V one other j many = some (k, w) → pop (nI w) = k ∧ w < 2 ^ vN V
  | 0, _, _, _, h => by cases h
  | j + 1, many, k, w, h => by
    unfold ctF at h
    cases hf : fstF (pC V one other many) (2 ^ vN V) 0 with
    | some w' =>
      rw [hf] at h
      cases h
      obtain ⟨a, b⟩ := fstF_p hf
      unfold pC at a
      simp only [Bool.and_eq_true, decide_eq_true_eq] at a
      exact ⟨a.2.1, by omega⟩
    | none =>
      rw [hf] at h
      exact ctF_p h
def aCut (V : zV) (a b c : Int32) : Int32 := if zr a (vN V) = true then (if zr b (vN V) = true then (if zr c 2 = true then (if a.toNatClampNeg = b.toNatClampNeg then -2 else if c.toNatClampNeg = 1 then ctW (ctF V a.toNatClampNeg b.toNatClampNeg 4 0) else ctN (ctF V a.toNatClampNeg b.toNatClampNeg 4 0)) else -1) else -1) else -1
theorem z1_pow : ∀ n, n ≤ 8 → z1 n = nI (2 ^ n) := by decide +kernel
theorem pow_8 : ∀ n, n ≤ 8 → 2 ^ n ≤ 256 := by decide +kernel
theorem ybl_of {w n : Nat} (h : w < 2 ^ n) (hn : n ≤ 8) : ybl (nI w) n := fun i hi hb => by
  have := pow_8 n hn
  rw [bt_of (by omega)] at hb
  refine Classical.byContradiction fun z => ?_
  rw [Nat.testBit_lt_two_pow (Nat.lt_of_lt_of_le h (Nat.pow_le_pow_right (by omega) (by omega)))] at hb
  cases hb
theorem y_few (d : Nat) {Q : zQ} {m : zM} {V : zV} (hV : vX m 21 V) {one other : Nat} (h1 : one < vN V) (h2 : other < vN V) :
    ∀ j many, many + j = 4 → Q (some (.int (ctW (ctF V one other j many)))) m → ∀ u, zle [.ref 90, .int (nI one), .int (nI other), .int (z1 one ||| z1 other), .int (nI (2 ^ vN V)), .int (nI many), .retAddr 0] u → zRun (zCall (d + 3)) 4 (some .int) zc_Qu_fewestBetween Q 25 u [] m
  | 0, many, hk, h, u, hu => by
    refine zRun_le (zCall_m _) hu (sg_Qu_fewestBetween_25 (zCall_m _) _ _ _ _ _ m ?_)
    exact ip (nI_lt (a := 3) (by omega) (by omega)) h
  | j + 1, many, hk, h, u, hu => by
    have h8 := hV.1.1
    have hp8 := pow_8 (vN V) h8
    refine zRun_le (zCall_m _) hu (sg_Qu_fewestBetween_25 (zCall_m _) _ _ _ _ _ m ?_)
    refine iq (nI_nlt (a := 3) (by omega) (by decide)) ?_
    unfold ctF at h
    have inner : ∀ i w, w + i = 2 ^ vN V → (match fstF (pC V one other many) i w with
        | some w' => Q (some (.int (nI w'))) m
        | none => Q (some (.int (ctW (ctF V one other j (many + 1))))) m) →
        zRun (zCall (d + 3)) 4 (some .int) zc_Qu_fewestBetween Q 34 [.ref 90, .int (nI one), .int (nI other), .int (z1 one ||| z1 other), .int (nI (2 ^ vN V)), .int (nI many), .int (nI w)] [] m := by
      intro i
      induction i with
      | zero =>
        intro w hw hq
        refine sg_Qu_fewestBetween_34 (zCall_m _) _ _ _ _ _ _ m (ip (nI_le (by omega) (by omega)) ?_)
        rw [nI_1]
        exact y_few d hV h1 h2 j (many + 1) (by omega) hq _ (by repeat (first | exact zle_nil | apply zle_same | apply zle_new _ rfl))
      | succ i ih =>
        intro w hw hq
        refine sg_Qu_fewestBetween_34 (zCall_m _) _ _ _ _ _ _ m (iq (nI_ge (by omega) (by omega)) ?_)
        rw [nI_1 w]
        have hyb : ybl (nI w) (vN V) := ybl_of (by omega) h8
        unfold fstF at hq
        have next : pC V one other many w = false → zRun (zCall (d + 3)) 4 (some .int) zc_Qu_fewestBetween Q 34 [.ref 90, .int (nI one), .int (nI other), .int (z1 one ||| z1 other), .int (nI (2 ^ vN V)), .int (nI many), .int (nI (w + 1))] [] m := fun hp => by
          rw [hp] at hq
          exact ih (w + 1) (by omega) hq
        by_cases q1 : nI w &&& (z1 one ||| z1 other) = 0
        · refine iq (fun z => z q1) (y_bitCount _ hyb h8 ⟨_, rfl, ?_⟩)
          have hpb := pop_b hyb h8
          by_cases q2 : pop (nI w) = many
          · refine iq (fun z => z (by rw [q2])) (y_reachC d hV hyb h1 h2 ⟨_, rfl, zb_d (fun z => ?_) (fun z => ?_)⟩)
            · have hp : pC V one other many w = true := by
                unfold pC
                rw [decide_eq_true q1, decide_eq_true q2, z]; rfl
              rw [if_pos hp] at hq
              exact hq
            · exact next (by unfold pC; rw [z]; simp)
          · exact ip (nI_ne (by omega) (by omega) q2) (next (by unfold pC; rw [decide_eq_false q2]; simp))
        · exact ip q1 (next (by unfold pC; rw [decide_eq_false q1]; rfl))
    refine inner (2 ^ vN V) 0 (Nat.zero_add _) ?_
    cases hf : fstF (pC V one other many) (2 ^ vN V) 0 with
    | some w => rw [hf] at h; exact h
    | none => rw [hf] at h; exact h
theorem yX_cut (d : Nat) {Q : zQ} {m : zM} {V : zV} (hV : vX m 21 V) (a b c : Int32) (h : ∀ m', zsm hP3 m m' → Q (some (.int (aCut V a b c))) m') : zCall (d + 8) m_Box_cut [.ref 20, .int a, .int b, .int c] m Q := by
  have h8 := hV.1.1
  replace h := h m (zsm_refl m)
  unfold aCut at h
  refine en_Box_cut (d + 7) _ _ _ m (sg_Box_cut_0 (zCall_m _) _ _ _ m (y_Hedge_has _ a hV.2.1 (by omega) ⟨_, rfl, zb_c (fun ha => ?_) (fun ha => y_Hedge_has _ b hV.2.1 (by omega) ⟨_, rfl, zb_c (fun hb => ?_) (fun hb => zr_d (n := 2) (by decide) (fun hc => ?_) (fun hc => ?_) (fun hc => ?_))⟩)⟩))
  · rw [ha] at h; exact h
  · rw [ha, hb] at h; exact h
  · rw [ha, hb, hc] at h; exact h
  · rw [ha, hb, hc] at h; exact h
  · rw [ha, hb, hc] at h
    simp only [if_true] at h
    obtain ⟨a1, a2⟩ := zr_k ha
    obtain ⟨b1, b2⟩ := zr_k hb
    obtain ⟨c1, c2⟩ := zr_k hc
    generalize a.toNatClampNeg = one at a1 a2 h
    generalize b.toNatClampNeg = other at b1 b2 h
    generalize c.toNatClampNeg = what at c1 c2 h
    subst a2 b2 c2
    by_cases e : one = other
    · rw [if_pos e] at h
      exact iq (fun z => z (by rw [e])) h
    · rw [if_neg e] at h
      refine ip (nI_ne (by omega) (by omega) e) ?_
      refine en_Qu_fewestBetween (d + 6) _ _ m (sg_Qu_fewestBetween_0 (zCall_m _) _ _ m (y_Box_bit _ _ ⟨_, rfl, y_Box_bit _ _ ⟨_, rfl, y_Box_bit _ _ ⟨_, rfl, ?_⟩⟩⟩))
      rw [hV.2.1, show (1 : Int32) <<< (nI (vN V) &&& 31) = nI (2 ^ vN V) from z1_pow _ h8]
      refine y_few _ hV a1 b1 4 0 rfl ⟨_, rfl, ?_⟩ _ (zle_refl _)
      rcases (show what = 0 ∨ what = 1 by omega) with rfl | rfl
      · refine iq (by decide) ?_
        cases hct : ctF V one other 4 0 with
        | none =>
          rw [hct] at h
          exact iq (fun z => z rfl) h
        | some x =>
          obtain ⟨k, w⟩ := x
          obtain ⟨p1, p2⟩ := ctF_p hct
          have hp8 := pow_8 (vN V) h8
          rw [hct] at h
          refine ip (e5_s (x := w) (by omega)) (y_bitCount _ (ybl_of p2 h8) h8 ⟨_, rfl, ?_⟩)
          show Q (some (.int (nI (pop (nI w))))) m
          rw [p1]
          exact h
      · exact ip rfl h
