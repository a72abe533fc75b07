/-! who of the reference -/
theorem y_mseen (d : Nat) {Q : zQ} {m : zM} {V : zV} (hV : vWf V) {R : zRw} (hR : rM 8 33 136 137 138 m R) (hw : rW 5 8 (vN V) 10000 R) {a one w many : Nat} {fi : Int32} (h0 : w < 10000) (hmy : many < 2 ^ 30) (hm : mX m V (vTakes V) w (fun _ => 0) (s1 V one))
    (ht : ∀ u, zle [.ref 113, .int (nI a), .int (nI (many + 1)), .int (if many = 0 then nI (100 * one + w) else fi), .int (nI one), .int (nI (w + 1)), .retAddr 0, .retAddr 0] u → okB V R one w (rC R) 0 = true → zRun (zCall d) 9 (some .int) zc_Mod_who Q 32 u [] m)
    (hf : ∀ u, zle [.ref 113, .int (nI a), .int (nI many), .int fi, .int (nI one), .int (nI (w + 1)), .retAddr 0, .retAddr 0] u → okB V R one w (rC R) 0 = false → zRun (zCall d) 9 (some .int) zc_Mod_who Q 32 u [] m) :
    ∀ j k, k + j = rC R → okB V R one w (rC R) 0 = okB V R one w j k → zRun (zCall d) 9 (some .int) zc_Mod_who Q 53 [.ref 113, .int (nI a), .int (nI many), .int fi, .int (nI one), .int (nI w), .int 1, .int (nI k)] [] m
  | 0, k, hk, he => by
    have hc := hw.1
    refine sg_Mod_who_53 (zCall_m _) _ _ _ _ _ _ _ m ?_
    rw [hR.1]
    refine ip (nI_le (by omega) (by omega)) (ip (by decide) ?_)
    rw [nI_1, nI_1]
    have ht := fun u hu => ht u hu he
    by_cases e : many = 0
    · rw [if_pos e] at ht
      refine iq (fun z => z (by rw [e]; rfl)) ?_
      rw [show (100 : Int32) = nI 100 from rfl, pk_mul, nI_add]
      exact ht _ (by repeat (first | exact zle_nil | apply zle_same | apply zle_new _ rfl))
    · rw [if_neg e] at ht
      exact ip (nI_ne0 (by omega) (by omega)) (ht _ (by repeat (first | exact zle_nil | apply zle_same | apply zle_new _ rfl)))
  | j + 1, k, hk, he => by
    have hc := hw.1
    have h8 := hV.1
    obtain ⟨w1, w2, w3⟩ := hw.2 k (by omega)
    have w2 := w2 (by omega)
    obtain ⟨r1, r2, r3⟩ := hR.2 k (by omega)
    have r2 := r2 (by omega)
    have r3 := r3 (by decide)
    have hin : vp_in (nI k) 5 := vp_in_nI (by omega) (by omega)
    have hia : vp_in (nI (rA R k)) 8 := vp_in_nI (by omega) (by omega)
    have hcl : (nI k).toNatClampNeg = k := nI_clamp (by omega)
    have hwb := wd1_b hV (one := one) h0 (rA R k)
    have hb : ∀ x, sW (s1 V one) (rA R k) = some x → x < 2 ^ 31 := fun x z => by have := sT_wb hV _ _ x z; omega
    replace he : okB V R one w (rC R) 0 = ((decide (sW (s1 V one) (rA R k) = some (rE R k)) && decide (((sW (s1 V one) (rA R k)).map fun _ => wd1 V one w (rA R k)) = some (rB R k))) && okB V R one w j (k + 1)) := he
    -- where it does not hold
    have no : okB V R one w (rC R) 0 = false → zRun (zCall d) 9 (some .int) zc_Mod_who Q 53 [.ref 113, .int (nI a), .int (nI many), .int fi, .int (nI one), .int (nI w), .int 0, .int (nI (k + 1))] [] m := fun hz => by
      refine sg_Mod_who_53 (zCall_m _) _ _ _ _ _ _ _ m ?_
      rw [hR.1, nI_1 w]
      have g := hf _ (show zle [.ref 113, .int (nI a), .int (nI many), .int fi, .int (nI one), .int (nI (w + 1)), .retAddr 0, .retAddr 0] [.ref 113, .int (nI a), .int (nI many), .int fi, .int (nI one), .int (nI (w + 1)), .int 0, .int (nI (k + 1))] by repeat (first | exact zle_nil | apply zle_same | apply zle_new _ rfl)) hz
      by_cases e : rC R ≤ k + 1
      · exact ip (nI_le e (by omega)) (iq (fun z => z rfl) g)
      · exact iq (nI_ge (by omega) (by omega)) (ip rfl (iq (fun z => z rfl) g))
    refine sg_Mod_who_53 (zCall_m _) _ _ _ _ _ _ _ m ?_
    rw [hR.1]
    refine iq (nI_ge (by omega) (by omega)) (iq (by decide) ⟨hin, ?_⟩)
    rw [hcl, r1, nI_clamp (by omega), r2, r3, nI_1 k]
    refine ⟨hia, hin, ?_⟩
    have m1 : gI m 128 (rA R k) = e1 (sW (s1 V one) (rA R k)) := (hm.1 _ w1).1
    rw [m1]
    by_cases e : sW (s1 V one) (rA R k) = some (rE R k)
    · refine iq (fun z => z ((e1_some hb (by omega)).mpr e)) ⟨hin, hia, hin, ?_⟩
      have m2 : gI m 130 (rA R k) = nI (wd1 V one w (rA R k)) := mX_wd hV hm w1 (by rw [e]; simp)
      rw [m2]
      rw [decide_eq_true e, Bool.true_and, e] at he
      by_cases e2 : wd1 V one w (rA R k) = rB R k
      · refine iq (fun z => z (by rw [e2])) (y_mseen d hV hR hw h0 hmy hm ht hf j (k + 1) (by omega) ?_)
        rw [he, decide_eq_true (show (Option.map (fun _ => wd1 V one w (rA R k)) (some (rE R k))) = some (rB R k) by rw [e2]; rfl), Bool.true_and]
      · refine ip (nI_ne (by omega) (by omega) e2) (no ?_)
        rw [he, decide_eq_false (show ¬ (Option.map (fun _ => wd1 V one w (rA R k)) (some (rE R k))) = some (rB R k) from fun z => e2 (Option.some.inj z)), Bool.false_and]
    · refine ip (fun z => e ((e1_some hb (by omega)).mp z)) (no ?_)
      rw [he, decide_eq_false e, Bool.false_and, Bool.false_and]
theorem y_mwayB (d : Nat) {Q : zQ} {m : zM} {V : zV} (hV : vM m V) {R : zRw} (hR : rM 8 33 136 137 138 m R) (hw : rW 5 8 (vN V) 10000 R) {a one : Nat} (ho : one < vN V)
    (K : ∀ m', zsm mP m m' → ∀ u, zle [.ref 113, .int (nI a), .int (nI (cnt (fW V R) (100 * (one + 1)))), .int (e5 (ff (fW V R) (100 * (one + 1)))), .int (nI (one + 1)), .retAddr 0, .retAddr 0, .retAddr 0] u → zRun (zCall (d + 7)) 9 (some .int) zc_Mod_who Q 20 u [] m') :
    ∀ j k m', k + j = 100 → zsm mP m m' → ∀ u, zle [.ref 113, .int (nI a), .int (nI (cnt (fW V R) (100 * one + k))), .int (e5 (ff (fW V R) (100 * one + k))), .int (nI one), .int (nI k), .retAddr 0, .retAddr 0] u → zRun (zCall (d + 7)) 9 (some .int) zc_Mod_who Q 32 u [] m'
  | 0, k, m', hk, hs, u, hu => by
    refine zRun_le (zCall_m _) hu (sg_Mod_who_32 (zCall_m _) _ _ _ _ _ m' (ip (nI_le (a := 100) (by omega) (by omega)) ?_))
    rw [nI_1, show k = 100 by omega]
    exact K m' hs _ (by repeat (first | exact zle_nil | apply zle_same | apply zle_new _ rfl))
  | j + 1, k, m', hk, hs, u, hu => by
    have hV' := vM_mP hV hs
    have h8 := hV.1.1
    have hcb := cnt_le (fW V R) (100 * one + k)
    have IH := fun m2 hs2 => y_mwayB d hV hR hw ho K j (k + 1) m2 (by omega) hs2
    refine zRun_le (zCall_m _) hu (sg_Mod_who_32 (zCall_m _) _ _ _ _ _ m' (iq (nI_ge (b := 100) (by omega) (by omega)) ?_))
    refine y_lay d hV' (one := one) (w0 := k) ho (by omega) fun m2 hs2 hm2 => ⟨rfl, ?_⟩
    have hs' := zsm_tr hs hs2
    have hR2 := rM_sm hR hs' (by unfold mP; omega) (by unfold mP; omega) (by unfold mP; omega) (by unfold mP; omega)
    refine y_mseen (d + 7) hV.1 hR2 hw (by omega) (by omega) hm2 (fun u hu hb => ?_) (fun u hu hb => ?_) (rC R) 0 (Nat.zero_add _) rfl
    · have hf : fW V R (100 * one + k) = true := by rw [fW_at V R (by omega)]; exact hb
      have IH := IH m2 hs'
      rw [← Nat.add_assoc, cnt_1 _ _ _ hf] at IH
      refine IH u ?_
      by_cases e : cnt (fW V R) (100 * one + k) = 0
      · rw [if_pos e] at hu
        rw [ff_y (ff_0.mpr e) hf]
        exact hu
      · rw [if_neg e] at hu
        cases hx : ff (fW V R) (100 * one + k) with
        | none => exact absurd (ff_0.mp hx) e
        | some x =>
          rw [hx] at hu
          rw [ff_s hx]
          exact hu
    · have hf : fW V R (100 * one + k) = false := by rw [fW_at V R (by omega)]; exact hb
      have IH := IH m2 hs'
      rw [← Nat.add_assoc, cnt_1 _ _ _ hf] at IH
      refine IH u ?_
      cases hx : ff (fW V R) (100 * one + k) with
      | none =>
        rw [hx] at hu
        rw [ff_n hx hf]
        exact hu
      | some x =>
        rw [hx] at hu
        rw [ff_s hx]
        exact hu
theorem y_mwayA (d : Nat) {Q : zQ} {m : zM} {V : zV} (hV : vM m V) {R : zRw} (hR : rM 8 33 136 137 138 m R) (hw : rW 5 8 (vN V) 10000 R) {a : Nat} (ha : a < 2)
    (h : ∀ m', zsm mP m m' → Q (some (.int (if a = 0 then nI (cnt (fW V R) (100 * vN V)) else e5 (ff (fW V R) (100 * vN V))))) m') :
    ∀ j one m', one + j = vN V → zsm mP m m' → ∀ u, zle [.ref 113, .int (nI a), .int (nI (cnt (fW V R) (100 * one))), .int (e5 (ff (fW V R) (100 * one))), .int (nI one), .retAddr 0, .retAddr 0, .retAddr 0] u → zRun (zCall (d + 7)) 9 (some .int) zc_Mod_who Q 20 u [] m'
  | 0, one, m', hk, hs, u, hu => by
    have hV' := vM_mP hV hs
    have h8 := hV.1.1
    have h := h m' hs
    refine zRun_le (zCall_m _) hu (sg_Mod_who_20 (zCall_m _) _ _ _ _ m' ?_)
    rw [hV'.2.1]
    refine ip (nI_le (by omega) (by omega)) ?_
    rw [show one = vN V by omega]
    rcases (show a = 0 ∨ a = 1 by omega) with rfl | rfl
    · exact iq (fun z => z rfl) h
    · exact ip (by decide) h
  | j + 1, one, m', hk, hs, u, hu => by
    have hV' := vM_mP hV hs
    have h8 := hV.1.1
    refine zRun_le (zCall_m _) hu (sg_Mod_who_20 (zCall_m _) _ _ _ _ m' ?_)
    rw [hV'.2.1]
    refine iq (nI_ge (by omega) (by omega)) ?_
    exact y_mwayB d hV hR hw (by omega) (fun m2 hs2 => y_mwayA d hV hR hw ha h j (one + 1) m2 (by omega) hs2) 100 0 m' (Nat.zero_add _) hs _ (zle_refl _)
theorem yM_who (d : Nat) {Q : zQ} {m : zM} {V : zV} (hV : vM m V) {R : zRw} (hR : rM 8 33 136 137 138 m R) (hw : rW 5 8 (vN V) 10000 R) (a : Int32) (h : ∀ m', zsm mP m m' → Q (some (.int (aWho V R a))) m') : zCall (d + 8) m_Mod_who [.ref 113, .int a] m Q := by
  have h8 := hV.1.1
  have h0 := h m (zsm_refl m)
  unfold aWho at h h0
  refine en_Mod_who (d + 7) _ m (sg_Mod_who_0 (zCall_m _) _ m (y_Mod_in _ a _ (n := 2) (by decide) ⟨_, rfl, zb_d (fun ha => ?_) (fun ha => ?_)⟩))
  · rw [ha] at h0; exact h0
  · rw [ha] at h
    simp only [if_true] at h
    clear h0
    obtain ⟨a1, a2⟩ := zr_k ha
    generalize a.toNatClampNeg = w at a1 a2 h
    subst a2
    exact y_mwayA d hV hR hw a1 h (vN V) 0 m (Nat.zero_add _) (zsm_refl m) _ (zle_refl _)
