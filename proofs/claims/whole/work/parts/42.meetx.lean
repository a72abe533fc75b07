/-! meet of the class -/
theorem lM_one {V : zV} (hw : vWf V) {one other : Nat} (hp : one ∈ sO (s2 V one other)) : lM V one other one = 0 := by
  obtain ⟨pn, x, hx⟩ := sT_out hw _ hp
  have hd := ((sT_J hw (bM one other)).1 one (by rw [show sW (sT V (bM one other)) one = some x from hx]; simp)).2
  have := (sT_Z hw (bM one other) one pn (by unfold bM; simp) hd).2
  unfold lM pnd
  rw [show sF (s2 V one other) one = none from this]
  show wM one one = 0
  unfold wM
  rw [if_pos rfl]
theorem lM_some {V : zV} (hw : vWf V) {one other p q : Nat} (hf : sF (s2 V one other) p = some q) : lM V one other p = lM V one other q := by
  have hq := ((sT_J hw (bM one other)).2.1 q).mp ((sT_J hw (bM one other)).2.2.2.1 p q hf).1
  have : lM V one other p = gsp (fun _ x => x) (sF (s2 V one other)) (wM one) (sO (s2 V one other)) q := by
    unfold lM
    rw [pnd]
    rw [hf]
  rw [this]
  exact gsp_pnd (sT_T hw (bM one other)) q hq
theorem lM_none {V : zV} {one other p : Nat} (hf : sF (s2 V one other) p = none) (h : p ≠ one) : lM V one other p = 1 := by
  unfold lM
  rw [pnd, hf]
  show wM one p = 1
  unfold wM
  rw [if_neg h]
theorem y_first (d : Nat) {Q : zQ} {m : zM} {V : zV} (hw : vWf V) {one other : Nat} (h1 : one < vN V) (v2 : Int32) (hs : hX m (vN V) (s2 V one other)) (h : Q (some (.int (yst (pMt V one other) (vN V)))) m) :
    ∀ j k x, k + j = (sO (s2 V one other)).length → (∀ i, i < 32 → bt x i = (decide (i ∈ tl (sO (s2 V one other)) k) && decide (lM V one other i = 0))) → ∀ u, zle [.ref 90, .int (nI one), .int v2, .int x, .int (nI k), .retAddr 0, .retAddr 0] u → zRun (zCall (d + 2)) 4 (some .int) zc_Qu_hearersOfTheFirst Q 36 u [] m
  | 0, k, x, hk, hx, u, hu => by
    have hl : (sO (s2 V one other)).length = cnt (sD (s2 V one other)) (vN V) := (sT_J hw (bM one other)).2.2.2.2.2.2.1
    have hc := cnt_le (sD (s2 V one other)) (vN V)
    have h8 := hw.1
    refine zRun_le (zCall_m _) hu (sg_Qu_hearersOfTheFirst_36 (zCall_m _) _ _ _ _ m ?_)
    rw [hs.2.1]
    refine ip (nI_le (by omega) (by omega)) ?_
    rw [show k = (sO (s2 V one other)).length by omega, tl_all] at hx
    rw [b_ord (x := x) (b := bM one other) (P := pMt V one other) hw (fun p hp z => ?_) (fun i hi => ?_)]
    · exact h
    · unfold pMt at hp
      rw [show sW (s2 V one other) p = none from z] at hp
      cases hp
    · rw [hx i hi]
      by_cases e : i ∈ sO (s2 V one other)
      · obtain ⟨_, y, hy⟩ := sT_out hw _ e
        unfold pMt
        rw [show sW (s2 V one other) i = some y from hy]
        rfl
      · rw [decide_eq_false e]
        show false = (decide (i ∈ sO (s2 V one other)) && pMt V one other i)
        rw [decide_eq_false e]
        rfl
  | j + 1, k, x, hk, hx, u, hu => by
    have hl : (sO (s2 V one other)).length = cnt (sD (s2 V one other)) (vN V) := (sT_J hw (bM one other)).2.2.2.2.2.2.1
    have hc := cnt_le (sD (s2 V one other)) (vN V)
    have h8 := hw.1
    obtain ⟨p, p1, p2, p3, p4, p5, p6⟩ := tl_s (k := k) hs.2.2 (sT_T hw (bM one other)) (show k < (sO (s2 V one other)).length by omega)
    obtain ⟨pn, y, py⟩ := sT_out hw _ p2
    have pn : p < vN V := pn
    have p3 : tl (sO (s2 V one other)) (k + 1) = p :: tl (sO (s2 V one other)) k := p3
    have hin : vp_in (nI p) 8 := vp_in_nI (by omega) (by omega)
    have IH := fun x' hx' => y_first d hw h1 v2 hs h j (k + 1) x' (by omega) hx'
    have yes : lM V one other p = 0 → ∀ i, i < 32 → bt (x ||| z1 p) i = (decide (i ∈ tl (sO (s2 V one other)) (k + 1)) && decide (lM V one other i = 0)) := fun hz i hi => by
      rw [p3, z1_or _ (by omega) hi, hx i hi]
      by_cases e : i = p
      · subst e
        rw [hz]
        simp
      · simp [e]
    have no : lM V one other p ≠ 0 → ∀ i, i < 32 → bt x i = (decide (i ∈ tl (sO (s2 V one other)) (k + 1)) && decide (lM V one other i = 0)) := fun hz i hi => by
      rw [p3, hx i hi]
      by_cases e : i = p
      · subst e
        rw [decide_eq_false hz, Bool.and_false, Bool.and_false]
      · simp [e]
    refine zRun_le (zCall_m _) hu (sg_Qu_hearersOfTheFirst_36 (zCall_m _) _ _ _ _ m ?_)
    rw [hs.2.1]
    refine iq (nI_ge (by omega) (by omega)) ⟨vp_in_nI (by omega) (by omega), ?_⟩
    rw [nI_clamp (by omega), p1, nI_clamp (by omega), (hs.1 p pn).2, nI_1]
    refine ⟨hin, ?_⟩
    by_cases e : p = one
    · refine ip (by rw [e]) (y_Box_bit _ _ ⟨_, rfl, IH _ (yes (by subst e; exact lM_one hw p2)) _ (by repeat (first | exact zle_nil | apply zle_same | apply zle_new _ rfl))⟩)
    · refine iq (nI_ne (by omega) (by omega) e) ?_
      cases hf : sF (s2 V one other) p with
      | none => exact ip (by decide) (IH _ (no (by rw [lM_none hf e]; decide)) _ (by repeat (first | exact zle_nil | apply zle_same | apply zle_new _ rfl)))
      | some q =>
        have hq := p5 q hf
        have hqn := sJ_fb (sT_J hw (bM one other)) p q hf
        have hxq : bt x q = decide (lM V one other q = 0) := by
          rw [hx q (by omega), decide_eq_true (show q ∈ tl (sO (s2 V one other)) k from hq), Bool.true_and]
        refine iq (nI_pos (n := q) (by omega)) (y_Box_holds d _ (p := q) (by omega) ⟨_, rfl, ?_⟩)
        rw [hxq]
        refine zb_c (fun z => ?_) (fun z => ?_)
        · have hz := of_decide_eq_false z
          rw [← lM_some hw hf] at hz
          exact IH _ (no hz) _ (by repeat (first | exact zle_nil | apply zle_same | apply zle_new _ rfl))
        · have hz := of_decide_eq_true z
          rw [← lM_some hw hf] at hz
          exact y_Box_bit _ _ ⟨_, rfl, IH _ (yes hz) _ (by repeat (first | exact zle_nil | apply zle_same | apply zle_new _ rfl))⟩
theorem yX_meet (d : Nat) {Q : zQ} {m : zM} {V : zV} (hV : vX m 21 V) (a b : Int32) (h : ∀ m', zsm hP3 m m' → Q (some (.int (aMeet V a b))) m') : zCall (d + 8) m_Box_meet [.ref 20, .int a, .int b] m Q := by
  have h8 := hV.1.1
  have h0 := h m (zsm_refl m)
  unfold aMeet at h h0
  refine en_Box_meet (d + 7) _ _ m (sg_Box_meet_0 (zCall_m _) _ _ m (y_Hedge_has _ a hV.2.1 (by omega) ⟨_, rfl, zb_c (fun ha => ?_) (fun ha => y_Hedge_has _ b hV.2.1 (by omega) ⟨_, rfl, zb_d (fun hb => ?_) (fun hb => ?_)⟩)⟩))
  · rw [ha] at h0; exact h0
  · rw [ha, hb] at h0; exact h0
  · rw [ha, hb] at h h0
    simp only [if_true] at h h0
    obtain ⟨a1, a2⟩ := zr_k ha
    obtain ⟨b1, b2⟩ := zr_k hb
    generalize a.toNatClampNeg = one at a1 a2 h h0
    generalize b.toNatClampNeg = other at b1 b2 h h0
    subst a2 b2
    by_cases e : one = other
    · rw [if_pos e] at h0
      exact iq (fun z => z (by rw [e])) h0
    · simp only [if_neg e] at h
      refine ip (nI_ne (by omega) (by omega) e) ?_
      refine en_Qu_hearersOfTheFirst (d + 6) _ _ m (sg_Qu_hearersOfTheFirst_0 (zCall_m _) _ _ m (y_measureC_21 (d + 1) hV fun m1 hs1 ht1 => ⟨rfl, y_Box_bit _ _ ⟨_, rfl, y_Box_bit _ _ ⟨_, rfl, ?_⟩⟩⟩))
      have hV1 := vX_sm hV hs1 (fun q a b z => by omega) (fun q a b z => by omega)
      refine y_spreadC_21 (d + 2) hV1 ht1 (fun p hp => vTakes_b hV.1 hp) (z1 one ||| z1 other) fun m2 hs2 hm2 => ⟨rfl, ?_⟩
      have he : st0 V (bt (z1 one ||| z1 other)) = st0 V (bM one other) := by
        unfold st0
        congr 1
        funext p
        by_cases hp : p < vN V
        · rw [b_or, b_z1 one (by omega) p (by omega), b_z1 other (by omega) p (by omega)]
          unfold bM
          rw [Bool.or_comm (decide (p = one))]
        · rw [decide_eq_false hp]; rfl
      have hm2 : hX m2 (vN V) (s2 V one other) := by
        unfold s2 sT
        unfold spr at hm2 ⊢
        rw [← he]
        exact hm2
      refine y_first _ hV.1 a1 _ hm2 ⟨_, rfl, h m2 ?_⟩ _ 0 0 (Nat.zero_add _) (fun i hi => ?_) _ (zle_refl _)
      · rw [tl_0, b_0]
        simp
      · exact zsm_tr (zsm_mo (fun q z => by unfold hP3; omega) hs1) (zsm_mo (fun q z => by unfold hP2 at z; unfold hP3; omega) hs2)
