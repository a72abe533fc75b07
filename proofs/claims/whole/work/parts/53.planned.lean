/-! planned -/
def hP5 (q : Nat) : Prop := q = 26 ∨ (45 ≤ q ∧ q ≤ 56) ∨ (91 ≤ q ∧ q ≤ 97)
theorem vX_5 {m m' : zM} {V : zV} (hV : vX m 21 V) (hs : zsm hP5 m m') : vX m' 21 V := vX_sm hV hs (fun q a b z => by unfold hP5 at z; omega) (fun q a b z => by unfold hP5 at z; omega)
def vHo (V : zV) (x : Nat) : zV := (vN V, vK V, vV V, vT V, vR V, vD V, x, vG V)
theorem vHo_w {V : zV} (hw : vWf V) {x : Nat} (hx : x ≤ 10047) : vWf (vHo V x) := ⟨hw.1, hw.2.1, hw.2.2.1, hw.2.2.2.1, hx, hw.2.2.2.2.2⟩
theorem vX_dead {m : zM} {h : Nat} {V : zV} (hV : vX m h V) (hh : h < 58) {x : Int32} (hx : ybl x (vN V)) : vX (sI m h 5 x) h (vDo V x) := by
  obtain ⟨h0, h1, h2, h3, h4, h5, h6, h7⟩ := hV
  have hs : ∀ q, q ≠ h → ∀ k, gI (sI m h 5 x) q k = gI m q k := fun q hq k => by rw [gI_sI, if_neg (fun z => hq z.1)]
  have ht : ∀ k, k ≠ 5 → gI (sI m h 5 x) h k = gI m h k := fun k hk => by rw [gI_sI, if_neg (fun z => hk z.2)]
  refine ⟨vDo_w h0 hx, (ht 0 (by decide)).trans h1, fun j hj => ?_, fun j hj => (hs _ (by omega) j).trans (h3 j hj), ?_, (ht 6 (by decide)).trans h5, h6, fun g G e => gX_sm (P := fun q => q = h) (h7 g G e) (zsm_sI (P := fun q => q = h) (zsm_refl m) (show h = h from rfl) _) (fun q a b z => by omega)⟩
  · obtain ⟨a, b, c⟩ := h2 j hj
    exact ⟨(hs _ (by omega) j).trans a, (hs _ (by omega) j).trans b, (hs _ (by omega) j).trans c⟩
  · rw [gI_sI, if_pos ⟨rfl, rfl⟩]; rfl
theorem vX_hour {m : zM} {h : Nat} {V : zV} (hV : vX m h V) (hh : h < 58) {x : Nat} (hx : x ≤ 10047) : vX (sI m h 6 (nI x)) h (vHo V x) := by
  obtain ⟨h0, h1, h2, h3, h4, h5, h6, h7⟩ := hV
  have hs : ∀ q, q ≠ h → ∀ k, gI (sI m h 6 (nI x)) q k = gI m q k := fun q hq k => by rw [gI_sI, if_neg (fun z => hq z.1)]
  have ht : ∀ k, k ≠ 6 → gI (sI m h 6 (nI x)) h k = gI m h k := fun k hk => by rw [gI_sI, if_neg (fun z => hk z.2)]
  refine ⟨vHo_w h0 hx, (ht 0 (by decide)).trans h1, fun j hj => ?_, fun j hj => (hs _ (by omega) j).trans (h3 j hj), (ht 5 (by decide)).trans h4, ?_, h6, fun g G e => gX_sm (P := fun q => q = h) (h7 g G e) (zsm_sI (P := fun q => q = h) (zsm_refl m) (show h = h from rfl) _) (fun q a b z => by omega)⟩
  · obtain ⟨a, b, c⟩ := h2 j hj
    exact ⟨(hs _ (by omega) j).trans a, (hs _ (by omega) j).trans b, (hs _ (by omega) j).trans c⟩
  · rw [gI_sI, if_pos ⟨rfl, rfl⟩]; rfl
theorem vM_hour {m : zM} {V : zV} (hV : vM m V) {x : Nat} (hx : x ≤ 10047) : vM (sI m 113 1 (nI x)) (vHo V x) := by
  obtain ⟨h0, h1, h2, h3, h4, h5, h6, h7⟩ := hV
  have hs : ∀ q, q ≠ 113 → ∀ k, gI (sI m 113 1 (nI x)) q k = gI m q k := fun q hq k => by rw [gI_sI, if_neg (fun z => hq z.1)]
  have ht : ∀ k, k ≠ 1 → gI (sI m 113 1 (nI x)) 113 k = gI m 113 k := fun k hk => by rw [gI_sI, if_neg (fun z => hk z.2)]
  refine ⟨vHo_w h0 hx, (ht 0 (by decide)).trans h1, fun j hj => ?_, fun j hj => (hs 117 (by decide) j).trans (h3 j hj), (ht 2 (by decide)).trans h4, ?_, (ht 8 (by decide)).trans h6, fun g G e => gMo_sm (P := fun q => q = 113) (h7 g G e) (zsm_sI (P := fun q => q = 113) (zsm_refl m) (show (113 : Nat) = 113 from rfl) _) (fun q a b z => by omega)⟩
  · obtain ⟨a, b, c⟩ := h2 j hj
    exact ⟨(hs 114 (by decide) j).trans a, (hs 115 (by decide) j).trans b, (hs 116 (by decide) j).trans c⟩
  · rw [gI_sI, if_pos ⟨rfl, rfl⟩]; rfl
theorem ybl_and {x y : Int32} {n : Nat} (hx : ybl x n) : ybl (x &&& y) n := fun i hi h => by
  rw [b_and, Bool.and_eq_true] at h
  exact hx i hi h.1
def plS (V : zV) (a b : Nat) : zV := if a = 0 then vDo V (vD V ||| z1 b) else if a = 1 then vDo V (vD V &&& (z1 b ^^^ (-1))) else vHo V (vHr V + 6)
def plV (V : zV) (R : zRw) : Nat → zV
  | 0 => V
  | k + 1 => plS (plV V R k) (rA R k) (rB R k)
theorem plS_n (V : zV) (a b : Nat) : vN (plS V a b) = vN V := by
  unfold plS
  split
  · rfl
  · split <;> rfl
theorem plS_h (V : zV) (a b : Nat) : vHr (plS V a b) ≤ vHr V + 6 := by
  unfold plS
  split
  · exact Nat.le_add_right _ _
  · split
    · exact Nat.le_add_right _ _
    · exact Nat.le_refl _
theorem plS_w {V : zV} (hw : vWf V) {a b : Nat} (hb : a < 2 → b < vN V) (hh : vHr V + 6 ≤ 10047) : vWf (plS V a b) := by
  have h8 := hw.1
  unfold plS
  split
  · exact vDo_w hw (ybl_or hw.2.2.2.1 (ybl_z1 (hb (by omega)) (by omega)))
  · split
    · exact vDo_w hw (ybl_and hw.2.2.2.1)
    · exact vHo_w hw hh
theorem plV_w {V : zV} (hw : vWf V) {R : zRw} (hR : rW 8 2 3 (vN V) R) (hh : vHr V ≤ 9999) : ∀ k, k ≤ rC R → vN (plV V R k) = vN V ∧ vHr (plV V R k) ≤ vHr V + 6 * k ∧ vWf (plV V R k)
  | 0, _ => ⟨rfl, Nat.le_refl _, hw⟩
  | k + 1, hk => by
    obtain ⟨a, b, c⟩ := plV_w hw hR hh k (by omega)
    have h1 := hR.1
    have h2 := hR.2 k (by omega)
    have h3 := plS_h (plV V R k) (rA R k) (rB R k)
    refine ⟨(plS_n _ _ _).trans a, ?_, plS_w c (fun z => by rw [a]; exact h2.2.1 z) (by omega)⟩
    show vHr (plS (plV V R k) (rA R k) (rB R k)) ≤ _
    omega
def aPlanned (V : zV) (R : zRw) (a b : Int32) : Int32 := if zr a (vN V) = true then (if zr b (vN V) = true then e5 (sW (s1 (plV V R (rC R)) a.toNatClampNeg) b.toNatClampNeg) else -1) else -1
theorem y_xplan (d : Nat) {Q : zQ} {m : zM} {V : zV} (hV : vX m 21 V) {R : zRw} (hR : rX 2 29 m R) (hw : rW 8 2 3 (vN V) R) (hh : vHr V ≤ 9999) {one other : Nat} (h1 : one < vN V) (h2 : other < vN V)
    (h : ∀ m', zsm hP5 m m' → Q (some (.int (e5 (sW (s1 (plV V R (rC R)) one) other)))) m') :
    ∀ j k m', k + j = rC R → zsm hP5 m m' → vX m' 45 (plV V R k) → ∀ u, zle [.ref 90, .int (nI one), .int (nI other), .int (nI k), .retAddr 0] u → zRun (zCall (d + 5)) 4 (some .int) zc_Qu_hoursAfterThePlan Q 13 u [] m'
  | 0, k, m', hk, hs, hX, u, hu => by
    have hR' := rX_sm hR hs (by unfold hP5; omega) (by unfold hP5; omega)
    have hc := hw.1
    have h8 := hV.1.1
    have hn := (plV_w hV.1 hw hh k (by omega)).1
    refine zRun_le (zCall_m _) hu (sg_Qu_hoursAfterThePlan_13 (zCall_m _) _ _ _ m' ?_)
    rw [hR'.1]
    refine ip (nI_le (by omega) (by omega)) (y_measureC_45 d hX fun m1 hs1 ht1 => ⟨rfl, y_Box_bit _ _ ⟨_, rfl, ?_⟩⟩)
    have hX1 := vX_sm hX hs1 (fun q a b z => by omega) (fun q a b z => by omega)
    refine y_sp1_45 (d + 1) hX1 ht1 (one := one) (by omega) fun m2 hs2 hx2 => ⟨rfl, vp_in_nI (by omega) (by omega), ?_⟩
    rw [nI_clamp (by omega), (hx2.1 other (by omega)).1]
    have h := h m2 (zsm_tr hs (zsm_tr (zsm_mo (P' := hP5) (fun q z => by unfold hP5; omega) hs1) (zsm_mo (P' := hP5) (fun q z => by unfold hP2 at z; unfold hP5; omega) hs2)))
    rw [show k = rC R by omega]
    exact h
  | j + 1, k, m', hk, hs, hX, u, hu => by
    have hR' := rX_sm hR hs (by unfold hP5; omega) (by unfold hP5; omega)
    have hc := hw.1
    have h8 := hV.1.1
    obtain ⟨hn, hh2, hw2⟩ := plV_w hV.1 hw hh k (by omega)
    obtain ⟨w1, w2, w3⟩ := hw.2 k (by omega)
    obtain ⟨r1, r2, r3⟩ := hR'.2 k (by omega)
    have r1 : gI m' 30 (3 * k) = nI (rA R k) := r1
    have IH := fun m2 hs2 hX2 u hu => y_xplan d hV hR hw hh h1 h2 h j (k + 1) m2 (by omega) hs2 hX2 u hu
    have hX2 : ∀ x, x < 2 → rA R k = x → ∀ c, c = (if x = 0 then (1 : Int32) else 0) → vX (sI m' 45 5 (zw (vD (plV V R k)) (rB R k) c)) 45 (plV V R (k + 1)) := fun x hx ex c hc => by
      have wb := w2 (by omega)
      show vX _ 45 (plS (plV V R k) (rA R k) (rB R k))
      unfold plS
      rcases (show x = 0 ∨ x = 1 by omega) with rfl | rfl
      · rw [if_pos ex]
        subst hc
        exact vX_dead hX (by decide) (ybl_or hw2.2.2.2.1 (ybl_z1 (by omega) (by omega)))
      · rw [if_neg (by omega), if_pos ex]
        subst hc
        exact vX_dead hX (by decide) (ybl_and hw2.2.2.2.1)
    have hs2 : ∀ k x, zsm hP5 m (sI m' 45 k x) := fun k x => zsm_sI (P := hP5) hs (by unfold hP5; omega) _
    refine zRun_le (zCall_m _) hu (sg_Qu_hoursAfterThePlan_13 (zCall_m _) _ _ _ m' ?_)
    rw [hR'.1, nI_1]
    refine iq (nI_ge (by omega) (by omega)) (y_cell_29 (i := 0) _ (by omega) (by omega) ⟨_, rfl, ?_⟩)
    have r0 : gI m' 30 (3 * k + 0) = nI (rA R k) := r1
    rw [r0, hX.2.2.2.2.1]
    rcases (show rA R k = 0 ∨ rA R k = 1 ∨ rA R k = 2 by omega) with e | e | e
    · have r2 : gI m' 30 (3 * k + 1) = nI (rB R k) := r2 (by omega)
      rw [show nI (rA R k) = 0 by rw [e]; rfl]
      refine ip rfl (y_cell_29 (i := 1) _ (by omega) (by omega) ⟨_, rfl, iq (fun z => z rfl) ?_⟩)
      rw [r2]
      exact y_Box_with _ _ _ _ ⟨_, rfl, IH _ (hs2 _ _) (hX2 0 (by omega) e 1 rfl) _ (by repeat (first | exact zle_nil | apply zle_same | apply zle_new _ rfl))⟩
    · have r2 : gI m' 30 (3 * k + 1) = nI (rB R k) := r2 (by omega)
      rw [show nI (rA R k) = 1 by rw [e]; rfl]
      refine iq (by decide) (iq (fun z => z rfl) (y_cell_29 (i := 1) _ (by omega) (by omega) ⟨_, rfl, ip (by decide) ?_⟩))
      rw [r2]
      exact y_Box_with _ _ _ _ ⟨_, rfl, IH _ (hs2 _ _) (hX2 1 (by omega) e 0 rfl) _ (by repeat (first | exact zle_nil | apply zle_same | apply zle_new _ rfl))⟩
    · rw [show nI (rA R k) = 2 by rw [e]; rfl]
      refine iq (by decide) (ip (by decide) ?_)
      rw [hX.2.2.2.2.2.1, show nI (vHr (plV V R k)) + 6 = nI (vHr (plV V R k) + 6) from nI_add _ 6]
      refine IH _ (hs2 _ _) ?_ _ (by repeat (first | exact zle_nil | apply zle_same | apply zle_new _ rfl))
      show vX _ 45 (plS (plV V R k) (rA R k) (rB R k))
      unfold plS
      rw [if_neg (by omega), if_neg (by omega)]
      exact vX_hour hX (by decide) (by omega)
theorem yX_planned (d : Nat) {Q : zQ} {m : zM} {V : zV} (hV : vX m 21 V) (hg : ∀ q, gG m 21 = some q → zsh q = 1) {R : zRw} (hR : rX 2 29 m R) (hw : rW 8 2 3 (vN V) R) (hh : vHr V ≤ 9999) (a b : Int32) (h : ∀ m', zsm hP5 m m' → Q (some (.int (aPlanned V R a b))) m') : zCall (d + 7) m_Box_planned [.ref 20, .int a, .int b] m Q := by
  have h8 := hV.1.1
  have h0 := h m (zsm_refl m)
  unfold aPlanned at h h0
  refine en_Box_planned (d + 6) _ _ m (sg_Box_planned_0 (zCall_m _) _ _ m (y_Hedge_has _ a hV.2.1 (by omega) ⟨_, rfl, zb_c (fun ha => ?_) (fun ha => y_Hedge_has _ b hV.2.1 (by omega) ⟨_, rfl, zb_d (fun hb => ?_) (fun hb => ?_)⟩)⟩))
  · rw [ha] at h0; exact h0
  · rw [ha, hb] at h0; exact h0
  · rw [ha, hb] at h
    simp only [if_true] at h
    clear h0
    obtain ⟨a1, a2⟩ := zr_k ha
    obtain ⟨b1, b2⟩ := zr_k hb
    generalize a.toNatClampNeg = one at a1 a2 h
    generalize b.toNatClampNeg = other at b1 b2 h
    subst a2 b2
    refine en_Qu_hoursAfterThePlan (d + 5) _ _ m (sg_Qu_hoursAfterThePlan_0 (zCall_m _) _ _ m (y_become_45 (d + 3) hg fun m1 hs1 hb1 => ⟨rfl, ?_⟩))
    exact y_xplan d hV hR hw hh a1 b1 (fun m' hs => ⟨_, rfl, h m' hs⟩) (rC R) 0 m1 (Nat.zero_add _) (zsm_mo (fun q z => by unfold hP5; omega) hs1) (bX_vX hV hb1 hs1 (fun q a b z => by omega)) _ (zle_refl _)
/-! planned of the reference -/
def rsM (m : zM) (D : Int32) (H : Nat) : zM := sI (sI m 113 2 D) 113 1 (nI H)
theorem rsM_sm {P : Nat → Prop} {m m' m2 : zM} {D : Int32} {H : Nat} (h : zsm P m (rsM m' D H)) (h2 : zsm P m' m2) : zsm P m (rsM m2 D H) := fun q hq => by
  obtain ⟨a, b, c⟩ := h q hq
  obtain ⟨a2, b2, c2⟩ := h2 q hq
  refine ⟨fun k => ?_, fun k => (b2 k).trans (b k), c2.trans c⟩
  have a := a k
  unfold rsM at a ⊢
  rw [gI_sI, gI_sI] at a ⊢
  rw [a2 k]
  exact a
theorem rsM_1 {P : Nat → Prop} {m m' : zM} {D : Int32} {H k : Nat} (hk : k = 1 ∨ k = 2) (x : Int32) (h : zsm P m (rsM m' D H)) : zsm P m (rsM (sI m' 113 k x) D H) := fun q hq => by
  obtain ⟨a, b, c⟩ := h q hq
  refine ⟨fun j => ?_, fun j => (b j), c⟩
  have a := a j
  unfold rsM at a ⊢
  rw [gI_sI, gI_sI] at a ⊢
  rw [gI_sI]
  by_cases e1 : q = 113 ∧ j = 1
  · rw [if_pos e1] at a ⊢; exact a
  · rw [if_neg e1] at a ⊢
    by_cases e2 : q = 113 ∧ j = 2
    · rw [if_pos e2] at a ⊢; exact a
    · rw [if_neg e2] at a ⊢
      rw [if_neg (fun z => by omega)]
      exact a
theorem rsM_0 {m : zM} {V : zV} (hV : vM m V) (P : Nat → Prop) : zsm P m (rsM m (vD V) (vHr V)) := fun q hq => by
  refine ⟨fun j => ?_, fun j => rfl, rfl⟩
  unfold rsM
  rw [gI_sI, gI_sI]
  by_cases e1 : q = 113 ∧ j = 1
  · rw [if_pos e1, e1.1, e1.2]; exact hV.2.2.2.2.2.1.symm
  · rw [if_neg e1]
    by_cases e2 : q = 113 ∧ j = 2
    · rw [if_pos e2, e2.1, e2.2]; exact hV.2.2.2.2.1.symm
    · rw [if_neg e2]
theorem y_mplan (d : Nat) {Q : zQ} {m : zM} {V : zV} (hV : vM m V) {R : zRw} (hw : rW 8 2 3 (vN V) R) (hh : vHr V ≤ 9999) {one other : Nat} (h1 : one < vN V) (h2 : other < vN V)
    (h : ∀ m', zsm mP m m' → Q (some (.int (e5 (sW (s1 (plV V R (rC R)) one) other)))) m') :
    ∀ j k m', k + j = rC R → zsm mP m (rsM m' (vD V) (vHr V)) → rM 2 37 139 140 0 m' R → vM m' (plV V R k) → zRun (zCall (d + 8)) 9 (some .int) zc_Mod_planned Q 32 [.ref 113, .int (nI one), .int (nI other), .int (vD V), .int (nI (vHr V)), .int (nI k)] [] m'
  | 0, k, m', hk, hs, hR, hM => by
    have hc := hw.1
    have hn := (plV_w hV.1 hw hh k (by omega)).1
    refine sg_Mod_planned_32 (zCall_m _) _ _ _ _ _ m' ?_
    rw [hR.1]
    refine ip (nI_le (by omega) (by omega)) (y_whenOf d hM (one := one) (other := other) (by omega) (by omega) fun m2 hs2 => ⟨_, rfl, ?_⟩)
    have h := h _ (rsM_sm hs hs2)
    rw [show k = rC R by omega]
    exact h
  | j + 1, k, m', hk, hs, hR, hM => by
    have hc := hw.1
    have h8 := hV.1.1
    obtain ⟨hn, hh2, hw2⟩ := plV_w hV.1 hw hh k (by omega)
    obtain ⟨w1, w2, w3⟩ := hw.2 k (by omega)
    obtain ⟨r1, r2, _⟩ := hR.2 k (by omega)
    have hin : vp_in (nI k) 8 := vp_in_nI (by omega) (by omega)
    have hcl : (nI k).toNatClampNeg = k := nI_clamp (by omega)
    have IH := fun m2 hs2 hR2 hM2 => y_mplan d hV hw hh h1 h2 h j (k + 1) m2 (by omega) hs2 hR2 hM2
    have hR2 : ∀ i x, (i = 1 ∨ i = 2) → rM 2 37 139 140 0 (sI m' 113 i x) R := fun i x hi => by
      refine ⟨?_, fun j hj => hR.2 j hj⟩
      rw [gI_sI, if_neg (fun z => by omega)]
      exact hR.1
    refine sg_Mod_planned_32 (zCall_m _) _ _ _ _ _ m' ?_
    rw [hR.1, nI_1]
    refine iq (nI_ge (by omega) (by omega)) ⟨hin, ?_⟩
    rw [hcl]
    have g1 : ∀ i x, gI (sI m' 113 i x) 139 k = nI (rA R k) := fun i x => r1
    rcases (show rA R k = 0 ∨ rA R k = 1 ∨ rA R k = 2 by omega) with e | e | e
    · have r2 := r2 (by omega)
      rw [e] at r1 g1
      have r1 : gI m' 139 k = 0 := r1
      refine iq (fun z => z r1) ⟨hin, hin, ip (fun z => by rw [g1] at z; exact absurd z (by decide)) ⟨hin, ip (fun z => by rw [g1] at z; exact absurd z (by decide)) ?_⟩⟩
      rw [r2, hM.2.2.2.2.1]
      refine IH _ (rsM_1 (Or.inr rfl) _ hs) (hR2 2 _ (Or.inr rfl)) ?_
      show vM _ (plS (plV V R k) (rA R k) (rB R k))
      unfold plS
      rw [if_pos e]
      exact vDo_M hM (ybl_or hw2.2.2.2.1 (ybl_z1 (by have := w2 (by omega); omega) (by omega)))
    · have r2 := r2 (by omega)
      rw [e] at r1 g1
      have r1 : gI m' 139 k = 1 := r1
      refine ip (by rw [r1]; decide) ⟨hin, iq (fun z => z r1) ⟨hin, hin, ip (fun z => by rw [g1] at z; exact absurd z (by decide)) ?_⟩⟩
      rw [r2, hM.2.2.2.2.1]
      refine IH _ (rsM_1 (Or.inr rfl) _ hs) (hR2 2 _ (Or.inr rfl)) ?_
      show vM _ (plS (plV V R k) (rA R k) (rB R k))
      unfold plS
      rw [if_neg (by omega), if_pos e]
      exact vDo_M hM (ybl_and hw2.2.2.2.1)
    · rw [e] at r1
      have r1 : gI m' 139 k = 2 := r1
      refine ip (by rw [r1]; decide) ⟨hin, ip (by rw [r1]; decide) ⟨hin, iq (fun z => z r1) ?_⟩⟩
      rw [hM.2.2.2.2.2.1, show nI (vHr (plV V R k)) + 6 = nI (vHr (plV V R k) + 6) from nI_add _ 6]
      refine IH _ (rsM_1 (Or.inl rfl) _ hs) (hR2 1 _ (Or.inl rfl)) ?_
      show vM _ (plS (plV V R k) (rA R k) (rB R k))
      unfold plS
      rw [if_neg (by omega), if_neg (by omega)]
      exact vM_hour hM (by omega)
theorem yM_planned (d : Nat) {Q : zQ} {m : zM} {V : zV} (hV : vM m V) {R : zRw} (hR : rM 2 37 139 140 0 m R) (hw : rW 8 2 3 (vN V) R) (hh : vHr V ≤ 9999) (a b : Int32) (h : ∀ m', zsm mP m m' → Q (some (.int (aPlanned V R a b))) m') : zCall (d + 9) m_Mod_planned [.ref 113, .int a, .int b] m Q := by
  have h8 := hV.1.1
  have h0 := h m (zsm_refl m)
  unfold aPlanned at h h0
  refine en_Mod_planned (d + 8) _ _ m (sg_Mod_planned_0 (zCall_m _) _ _ m (y_Mod_isPlant _ a hV.2.1 (by omega) ⟨_, rfl, zb_c (fun ha => ?_) (fun ha => y_Mod_isPlant _ b hV.2.1 (by omega) ⟨_, rfl, zb_d (fun hb => ?_) (fun hb => ?_)⟩)⟩))
  · rw [ha] at h0; exact h0
  · rw [ha, hb] at h0; exact h0
  · rw [ha, hb] at h
    simp only [if_true] at h
    clear h0
    obtain ⟨a1, a2⟩ := zr_k ha
    obtain ⟨b1, b2⟩ := zr_k hb
    generalize a.toNatClampNeg = one at a1 a2 h
    generalize b.toNatClampNeg = other at b1 b2 h
    subst a2 b2
    rw [hV.2.2.2.2.1, hV.2.2.2.2.2.1]
    exact y_mplan d hV hw hh a1 b1 h (rC R) 0 m (Nat.zero_add _) (rsM_0 hV mP) hR hV
