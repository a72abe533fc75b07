/-! round -/
def rdF (V : zV) (one : Nat) : Nat → Option (Nat × Nat)
  | 0 => none
  | k + 1 => match sW (s1 V one) k with
    | none => rdF V one k
    | some x => if bt (vT V k) one = true then (match rdF V one k with
      | none => some (k, x + vTakes V k)
      | some (q, t) => if x + vTakes V k < t then some (k, x + vTakes V k) else some (q, t)) else rdF V one k
theorem rdF_p {V : zV} (hw : vWf V) {one : Nat} : ∀ {n q t : Nat}, n ≤ vN V → rdF V one n = some (q, t) → q < n ∧ sW (s1 V one) q ≠ none ∧ t ≤ 18765
  | 0, _, _, _, h => by cases h
  | k + 1, q, t, hn, h => by
    unfold rdF at h
    cases hx : sW (s1 V one) k with
    | none =>
      rw [hx] at h
      obtain ⟨a, b, c⟩ := rdF_p hw (by omega) h
      exact ⟨by omega, b, c⟩
    | some x =>
      rw [hx] at h
      have hxb := sT_wb hw _ k x hx
      have htb := (vTakes_b hw (p := k) (by omega)).2
      dsimp only at h
      split at h
      · cases hr : rdF V one k with
        | none =>
          rw [hr] at h
          cases h
          exact ⟨by omega, by rw [hx]; simp, by omega⟩
        | some y =>
          obtain ⟨q', t'⟩ := y
          rw [hr] at h
          dsimp only at h
          split at h
          · cases h
            exact ⟨by omega, by rw [hx]; simp, by omega⟩
          · cases h
            obtain ⟨a, b, c⟩ := rdF_p hw (by omega) hr
            exact ⟨by omega, b, c⟩
      · obtain ⟨a, b, c⟩ := rdF_p hw (by omega) h
        exact ⟨by omega, b, c⟩
def rd1 : Option (Nat × Nat) → Int32
  | none => -5
  | some (q, _) => nI q
def rd2 : Option (Nat × Nat) → Int32
  | none => -5
  | some (_, t) => nI t
def rd3 (V : zV) (one w : Nat) : Option (Nat × Nat) → Int32
  | none => -5
  | some (q, _) => nI (vSays V q (wd1 V one w q))
def aRound (V : zV) (a b c : Int32) : Int32 := if zr a (vN V) = true then (if zr c 2 = true then (if zr b 10000 = true then (if c.toNatClampNeg = 0 then rd2 (rdF V a.toNatClampNeg (vN V)) else rd3 V a.toNatClampNeg b.toNatClampNeg (rdF V a.toNatClampNeg (vN V))) else -2) else -1) else -1
theorem y_back (d : Nat) {Q : zQ} {m : zM} {V : zV} (hV : vX m 21 V) {one w what : Nat} (h1 : one < vN V) (hw : w < 10000) (hwt : what < 2) (hs : hSaid m V (fun p => decide (p = one))) (hd : hWds m V (fun p => decide (p = one)) w)
    (h : Q (some (.int (if what = 0 then rd2 (rdF V one (vN V)) else rd3 V one w (rdF V one (vN V))))) m) :
    ∀ j k, k + j = vN V → ∀ u, zle [.ref 90, .int (nI one), .int (nI w), .int (nI what), .int (rd1 (rdF V one k)), .int (rd2 (rdF V one k)), .int (nI k), .retAddr 0] u → zRun (zCall (d + 3)) 4 (some .int) zc_Qu_comingBack Q 17 u [] m
  | 0, k, hk, u, hu => by
    have h8 := hV.1.1
    refine zRun_le (zCall_m _) hu (sg_Qu_comingBack_17 (zCall_m _) _ _ _ _ _ _ m ?_)
    rw [hV.2.1]
    refine ip (nI_le (by omega) (by omega)) ?_
    rw [show k = vN V by omega]
    cases hr : rdF V one (vN V) with
    | none =>
      rw [hr] at h
      have e : (if what = 0 then rd2 none else rd3 V one w none) = -5 := by split <;> rfl
      rw [e] at h
      exact ip rfl h
    | some y =>
      obtain ⟨q, t⟩ := y
      obtain ⟨a, b, c⟩ := rdF_p hV.1 (Nat.le_refl _) hr
      rw [hr] at h
      refine iq (e5_s (x := q) (by omega)) ?_
      rcases (show what = 0 ∨ what = 1 by omega) with rfl | rfl
      · exact iq (fun z => z rfl) h
      · refine ip (by decide) (y_wordAt (p := q) _ hV.1 hw hs hd a ⟨_, rfl, ?_⟩)
        have hwb := wd1_b hV.1 (one := one) hw q
        cases hx : sW (s1 V one) q with
        | none => exact absurd hx b
        | some x => exact y_says_21 d hV (p := q) (w := wd1 V one w q) a hwb ⟨_, rfl, h⟩
  | j + 1, k, hk, u, hu => by
    have h8 := hV.1.1
    have IH := y_back d hV h1 hw hwt hs hd h j (k + 1) (by omega)
    have hin : vp_in (nI k) 8 := vp_in_nI (by omega) (by omega)
    have hcl : (nI k).toNatClampNeg = k := nI_clamp (by omega)
    have hm94 : gI m 94 k = e5 (sW (s1 V one) k) := (hs.1.1 k (by omega)).1
    have hm93 : gI m 93 k = nI (vTakes V k) := hs.2 k (by omega)
    have htb := (vTakes_b hV.1 (p := k) (by omega)).2
    refine zRun_le (zCall_m _) hu (sg_Qu_comingBack_17 (zCall_m _) _ _ _ _ _ _ m ?_)
    rw [hV.2.1]
    refine iq (nI_ge (by omega) (by omega)) ⟨hin, ?_⟩
    rw [hcl, hm94, nI_1, (hV.2.2.1 k (by omega)).2.2]
    unfold rdF at IH
    cases hx : sW (s1 V one) k with
    | none =>
      rw [hx] at IH
      exact ip rfl (IH _ (zle_refl _))
    | some x =>
      rw [hx] at IH
      have hxb := sT_wb hV.1 _ k x hx
      refine iq (e5_s (x := x) (by omega)) ⟨hin, y_Box_holds _ _ (by omega) ⟨_, rfl, zb_d (fun z => ?_) (fun z => ?_)⟩⟩
      · rw [z] at IH
        exact IH _ (zle_refl _)
      · rw [z] at IH
        simp only [if_true] at IH
        have e : gI m 94 k + gI m 93 k = nI (x + vTakes V k) := by
          rw [hm94, hx, hm93]
          exact nI_add x _
        rw [e]
        refine ⟨hin, hin, ?_⟩
        cases hr : rdF V one k with
        | none =>
          rw [hr] at IH
          exact ip rfl (IH _ (by repeat (first | exact zle_nil | apply zle_same | apply zle_new _ rfl)))
        | some y =>
          obtain ⟨q, t⟩ := y
          obtain ⟨a, b, c⟩ := rdF_p hV.1 (by omega) hr
          rw [hr] at IH
          dsimp only at IH
          refine iq (e5_s (x := q) (by omega)) ?_
          show @ite Prop (nI t ≤ nI (x + vTakes V k)) _ _ _
          by_cases l : x + vTakes V k < t
          · rw [if_pos l] at IH
            exact iq (nI_ge l (by omega)) (IH _ (by repeat (first | exact zle_nil | apply zle_same | apply zle_new _ rfl)))
          · rw [if_neg l] at IH
            exact ip (nI_le (by omega) (by omega)) (IH _ (by repeat (first | exact zle_nil | apply zle_same | apply zle_new _ rfl)))
theorem yX_round (d : Nat) {Q : zQ} {m : zM} {V : zV} (hV : vX m 21 V) (a b c : Int32) (h : ∀ m', zsm hP3 m m' → Q (some (.int (aRound V a b c))) m') : zCall (d + 8) m_Box_round [.ref 20, .int a, .int b, .int c] m Q := by
  have h8 := hV.1.1
  have h0 := h m (zsm_refl m)
  unfold aRound at h h0
  refine en_Box_round (d + 7) _ _ _ m (sg_Box_round_0 (zCall_m _) _ _ _ m (y_Hedge_has _ a hV.2.1 (by omega) ⟨_, rfl, zb_c (fun ha => ?_) (fun ha => zr_d (n := 2) (by decide) (fun hc => ?_) (fun hc => ?_) (fun hc => y_Box_isWord _ b ⟨_, rfl, zb_d (fun hb => ?_) (fun hb => ?_)⟩))⟩))
  · rw [ha] at h0; exact h0
  · rw [ha, hc] at h0; exact h0
  · rw [ha, hc] at h0; exact h0
  · rw [ha, hc, hb] at h0; exact h0
  · rw [ha, hc, hb] at h
    simp only [if_true] at h
    clear h0
    obtain ⟨a1, a2⟩ := zr_k ha
    obtain ⟨b1, b2⟩ := zr_k hb
    obtain ⟨c1, c2⟩ := zr_k hc
    generalize a.toNatClampNeg = one at a1 a2 h
    generalize b.toNatClampNeg = w at b1 b2 h
    generalize c.toNatClampNeg = what at c1 c2 h
    subst a2 b2 c2
    refine en_Qu_comingBack (d + 6) _ _ _ m (sg_Qu_comingBack_0 (zCall_m _) _ _ _ m (y_say d hV (one := one) (w0 := w) (by omega) b1 fun m' hs hsd hwd => ⟨rfl, ?_⟩))
    exact y_back _ (vX_sm hV hs (fun q a b z => by unfold hP3 at z; omega) (fun q a b z => by unfold hP3 at z; omega)) a1 b1 c1 hsd hwd ⟨_, rfl, h m' hs⟩ (vN V) 0 (Nat.zero_add _) _ (zle_refl _)
