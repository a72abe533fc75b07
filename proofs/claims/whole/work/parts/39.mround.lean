/-! round of the reference -/
theorem nxF_nil {w : Nat → Option Nat} {dn : Nat → Bool} (h : ∀ p, w p = none) (n : Nat) : nxF w dn n = none := by
  cases hp : nxF w dn n with
  | none => rfl
  | some p =>
    obtain ⟨_, _, x, c, _⟩ := nxF_some hp
    rw [h p] at c
    cases c
theorem s1_dead {V : zV} {one : Nat} (hd : bt (vD V) one = true) (p : Nat) : sW (s1 V one) p = none := by
  have h0 : ∀ p, sW (st0 V (fun p => decide (p = one))) p = none := fun p => by
    show (if (decide (p < vN V) && (decide (p = one) && !bt (vD V) p)) = true then some 0 else none) = none
    by_cases e : p = one
    · subst e
      rw [hd]
      simp
    · rw [decide_eq_false e]
      simp
  have hr : ∀ k, rnS V (vTakes V) k (st0 V (fun p => decide (p = one))) = st0 V (fun p => decide (p = one)) := fun k => by
    cases k with
    | zero => rfl
    | succ k =>
      unfold rnS
      rw [nxF_nil h0]
  show sW (rnS V (vTakes V) (vN V) (st0 V (fun p => decide (p = one)))) p = none
  rw [hr]
  exact h0 p
theorem rdF_none {V : zV} {one : Nat} (h : ∀ p, sW (s1 V one) p = none) : ∀ n, rdF V one n = none
  | 0 => rfl
  | k + 1 => by
    unfold rdF
    rw [h k]
    exact rdF_none h k
theorem y_mround (d : Nat) {Q : zQ} {m : zM} {V : zV} (hV : vM m V) {one w what : Nat} {w1 : Nat → Nat} (h1 : one < vN V) (hw : w < 10000) (hwt : what < 2) (hm : mX m V (vTakes V) w w1 (s1 V one))
    (h : Q (some (.int (if what = 0 then rd2 (rdF V one (vN V)) else rd3 V one w (rdF V one (vN V))))) m) :
    ∀ j k, k + j = vN V → ∀ u, zle [.ref 113, .int (nI one), .int (nI w), .int (nI what), .int (rd2 (rdF V one k)), .int (rd3 V one w (rdF V one k)), .int (nI k), .retAddr 0] u → zRun (zCall (d + 4)) 9 (some .int) zc_Mod_round Q 63 u [] m
  | 0, k, hk, u, hu => by
    have h8 := hV.1.1
    refine zRun_le (zCall_m _) hu (sg_Mod_round_63 (zCall_m _) _ _ _ _ _ _ m ?_)
    rw [hV.2.1]
    refine ip (nI_le (by omega) (by omega)) ?_
    rw [show k = vN V by omega]
    rcases (show what = 0 ∨ what = 1 by omega) with rfl | rfl
    · exact iq (fun z => z rfl) h
    · exact ip (by decide) h
  | j + 1, k, hk, u, hu => by
    have h8 := hV.1.1
    have IH := y_mround d hV h1 hw hwt hm h j (k + 1) (by omega)
    have hin : vp_in (nI k) 8 := vp_in_nI (by omega) (by omega)
    have hcl : (nI k).toNatClampNeg = k := nI_clamp (by omega)
    have hm128 : gI m 128 k = e1 (sW (s1 V one) k) := (hm.1 k (by omega)).1
    have hm132 : gI m 132 k = nI (vTakes V k) := (hm.1 k (by omega)).2.2.2
    have htb := (vTakes_b hV.1 (p := k) (by omega)).2
    refine zRun_le (zCall_m _) hu (sg_Mod_round_63 (zCall_m _) _ _ _ _ _ _ m ?_)
    rw [hV.2.1]
    refine iq (nI_ge (by omega) (by omega)) ⟨hin, ?_⟩
    rw [hcl, hm128, nI_1, (hV.2.2.1 k (by omega)).2.2]
    unfold rdF at IH
    cases hx : sW (s1 V one) k with
    | none =>
      rw [hx] at IH
      exact ip (by decide) (IH _ (zle_refl _))
    | some x =>
      rw [hx] at IH
      have hxb := sT_wb hV.1 _ k x hx
      refine iq (e1_n (x := x) (by omega)) ⟨hin, y_Mod_has _ _ (by omega) ⟨_, rfl, zb_d (fun z => ?_) (fun z => ?_)⟩⟩
      · rw [z] at IH
        exact IH _ (zle_refl _)
      · rw [z] at IH
        simp only [if_true] at IH
        have e : gI m 128 k + gI m 132 k = nI (x + vTakes V k) := by
          rw [hm128, hx, hm132]
          exact nI_add x _
        have hwb := wd1_b hV.1 (one := one) hw k
        have h130 : gI m 130 k = nI (wd1 V one w k) := mX_wd hV.1 hm (by omega) (by rw [hx]; simp)
        rw [e, h130]
        refine ⟨hin, hin, ?_⟩
        cases hr : rdF V one k with
        | none =>
          rw [hr] at IH
          exact ip (by decide) ⟨hin, y_msays d hV (by omega) hwb ⟨_, rfl, IH _ (by repeat (first | exact zle_nil | apply zle_same | apply zle_new _ rfl))⟩⟩
        | some y =>
          obtain ⟨q, t⟩ := y
          obtain ⟨a, b, c⟩ := rdF_p hV.1 (by omega) hr
          rw [hr] at IH
          dsimp only at IH
          refine iq (e1_n (x := t) (by omega)) ?_
          show @ite Prop (nI (x + vTakes V k) < nI t) _ _ _
          by_cases l : x + vTakes V k < t
          · rw [if_pos l] at IH
            exact ip (nI_lt l (by omega)) ⟨hin, y_msays d hV (by omega) hwb ⟨_, rfl, IH _ (by repeat (first | exact zle_nil | apply zle_same | apply zle_new _ rfl))⟩⟩
          · rw [if_neg l] at IH
            exact iq (nI_nlt (by omega) (by omega)) (IH _ (by repeat (first | exact zle_nil | apply zle_same | apply zle_new _ rfl)))
theorem yM_round (d : Nat) {Q : zQ} {m : zM} {V : zV} (hV : vM m V) (a b c : Int32) (h : ∀ m', zsm mP m m' → Q (some (.int (aRound V a b c))) m') : zCall (d + 8) m_Mod_round [.ref 113, .int a, .int b, .int c] m Q := by
  have h8 := hV.1.1
  have h0 := h m (zsm_refl m)
  unfold aRound at h h0
  refine en_Mod_round (d + 7) _ _ _ m (sg_Mod_round_0 (zCall_m _) _ _ _ m (y_Mod_isPlant _ a hV.2.1 (by omega) ⟨_, rfl, zb_c (fun ha => ?_) (fun ha => y_Mod_in _ c _ (n := 2) (by decide) ⟨_, rfl, zb_d (fun hc => ?_) (fun hc => y_Mod_isWord _ b ⟨_, rfl, zb_d (fun hb => ?_) (fun hb => ?_)⟩)⟩)⟩))
  · rw [ha] at h0; exact h0
  · rw [ha, hc] at h0; exact h0
  · rw [ha, hc, hb] at h0; exact h0
  · rw [ha, hc, hb] at h
    simp only [if_true] at h
    clear h0
    obtain ⟨a1, a2⟩ := zr_k ha
    obtain ⟨b1, b2⟩ := zr_k hb
    obtain ⟨c1, c2⟩ := zr_k hc
    generalize a.toNatClampNeg = one at a1 a2 h
    generalize b.toNatClampNeg = w at b1 b2 h
    generalize c.toNatClampNeg = what at c1 c2 h
    subst a2 b2 c2
    refine y_lay d hV (one := one) (w0 := w) a1 b1 fun m' hs hm => ⟨rfl, ?_⟩
    have hV' := vM_mP hV hs
    have h := h m' hs
    refine y_Mod_has _ _ (by omega) ⟨_, rfl, ?_⟩
    rw [hV'.2.2.2.2.1]
    refine zb_c (fun z => ?_) (fun z => ?_)
    · exact y_mround _ hV' a1 b1 c1 hm h (vN V) 0 (Nat.zero_add _) _ (zle_refl _)
    · rw [rdF_none (s1_dead z)] at h
      have e : (if what = 0 then rd2 none else rd3 V one w none) = -5 := by split <;> rfl
      rw [e] at h
      exact h
