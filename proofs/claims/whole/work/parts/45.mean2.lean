/-! mean: the loops -/
def hC (w : Nat → Option Nat) : Nat → Nat := cnt (fun p => (w p).isSome)
theorem smF_b {w : Nat → Option Nat} (hb : ∀ p x, w p = some x → x ≤ 16680) : ∀ n, smF w n ≤ 16680 * n
  | 0 => Nat.le_refl _
  | k + 1 => by
    have := smF_b hb k
    unfold smF
    cases hx : w k with
    | none => simp; omega
    | some x =>
      have := hb k x hx
      simp
      omega
theorem cnt_cg {f g : Nat → Bool} : ∀ {n : Nat}, (∀ p, p < n → f p = g p) → cnt f n = cnt g n
  | 0, _ => rfl
  | k + 1, h => by
    unfold cnt
    rw [h k (by omega), cnt_cg (fun p hp => h p (by omega))]
theorem sT_cnt {V : zV} (hw : vWf V) (b : Nat → Bool) : (sO (sT V b)).length = hC (sW (sT V b)) (vN V) := by
  refine (sT_J hw b).2.2.2.2.2.2.1.trans (cnt_cg fun p hp => ?_)
  cases hx : sW (sT V b) p with
  | none =>
    cases hd : sD (sT V b) p with
    | false => rfl
    | true =>
      obtain ⟨x, h⟩ := (sT_J hw b).2.2.1 p hd
      rw [hx] at h
      cases h
  | some x => exact ((sT_J hw b).2.1 p).mpr (sT_in hw b (by rw [hx]; simp))
def aMean (V : zV) (a b : Int32) : Int64 := if zr a (vN V) = true then (if zr b 2 = true then aLow (smF (sW (s1 V a.toNatClampNeg)) (vN V)) (hC (sW (s1 V a.toNatClampNeg)) (vN V)) b.toNatClampNeg else -9223372036854775808) else -9223372036854775808
theorem y_mmean (d : Nat) {Q : zQ} {m : zM} {V : zV} (hV : vM m V) {one w0 part : Nat} {w1 : Nat → Nat} (v1 : Int32) (hp : part < 2) (hm : mX m V (vTakes V) w0 w1 (s1 V one)) (h : Q (some (.long (aLow (smF (sW (s1 V one)) (vN V)) (hC (sW (s1 V one)) (vN V)) part))) m) :
    ∀ j k, k + j = vN V → zRun (zCall (d + 2)) 9 (some .long) zc_Mod_mean Q 36 [.ref 113, .int v1, .int (nI part), .int (nI (smF (sW (s1 V one)) k)), .int (nI (hC (sW (s1 V one)) k)), .int (nI k)] [] m
  | 0, k, hk => by
    have h8 := hV.1.1
    have hb := smF_b (sT_wb hV.1 (fun p => decide (p = one))) (vN V)
    have hc := cnt_le (fun p => (sW (s1 V one) p).isSome) (vN V)
    have hb : smF (sW (s1 V one)) (vN V) ≤ 16680 * vN V := hb
    have hc : hC (sW (s1 V one)) (vN V) ≤ vN V := hc
    refine sg_Mod_mean_36 (zCall_m _) _ _ _ _ _ m ?_
    rw [hV.2.1]
    refine ip (nI_le (by omega) (by omega)) ?_
    rw [show k = vN V by omega]
    by_cases e : hC (sW (s1 V one)) (vN V) = 0
    · unfold aLow at h
      rw [if_pos e] at h
      exact iq (fun z => z (by rw [e]; rfl)) h
    · exact ip (nI_ne0 (by omega) (by omega)) (y_mlow d (by omega) (by omega) e hp ⟨_, rfl, h⟩)
  | j + 1, k, hk => by
    have h8 := hV.1.1
    have IH := y_mmean d hV v1 hp hm h j (k + 1) (by omega)
    have hin : vp_in (nI k) 8 := vp_in_nI (by omega) (by omega)
    refine sg_Mod_mean_36 (zCall_m _) _ _ _ _ _ m ?_
    rw [hV.2.1]
    refine iq (nI_ge (by omega) (by omega)) ⟨hin, ?_⟩
    rw [nI_clamp (by omega), (hm.1 k (by omega)).1, nI_1, nI_1]
    unfold smF hC cnt at IH
    cases hx : sW (s1 V one) k with
    | none =>
      rw [hx] at IH
      exact iq (by decide) IH
    | some x =>
      rw [hx] at IH
      have hxb := sT_wb hV.1 _ k x hx
      refine ip (nI_pos' (n := x) (by omega)) ⟨hin, ?_⟩
      rw [show nI (smF (sW (s1 V one)) k) + e1 (some x) = nI (smF (sW (s1 V one)) k + x) from nI_add _ x]
      exact IH
theorem yM_mean (d : Nat) {Q : zQ} {m : zM} {V : zV} (hV : vM m V) (a b : Int32) (h : ∀ m', zsm mP m m' → Q (some (.long (aMean V a b))) m') : zCall (d + 8) m_Mod_mean [.ref 113, .int a, .int b] m Q := by
  have h8 := hV.1.1
  have h0 := h m (zsm_refl m)
  unfold aMean at h h0
  refine en_Mod_mean (d + 7) _ _ m (sg_Mod_mean_0 (zCall_m _) _ _ m (y_Mod_isPlant _ a hV.2.1 (by omega) ⟨_, rfl, zb_c (fun ha => ?_) (fun ha => y_Mod_in _ b _ (n := 2) (by decide) ⟨_, rfl, zb_d (fun hb => ?_) (fun hb => ?_)⟩)⟩))
  · rw [ha] at h0; exact h0
  · rw [ha, hb] at h0; exact h0
  · rw [ha, hb] at h
    simp only [if_true] at h
    clear h0
    obtain ⟨a1, a2⟩ := zr_k ha
    obtain ⟨b1, b2⟩ := zr_k hb
    generalize a.toNatClampNeg = one at a1 a2 h
    generalize b.toNatClampNeg = part at b1 b2 h
    subst a2 b2
    refine y_lay d hV (one := one) (w0 := 0) a1 (by omega) fun m' hs hm => ⟨rfl, ?_⟩
    exact y_mmean _ (vM_mP hV hs) _ b1 hm (h m' hs) (vN V) 0 (Nat.zero_add _)
