/-! questions of the reference: heard; by, right, last of both -/
theorem yM_heard (d : Nat) {Q : zQ} {m : zM} {V : zV} (hV : vM m V) (a b c e : Int32) (h : ∀ m', zsm mP m m' → Q (some (.int (aHeard V a b c e))) m') : zCall (d + 8) m_Mod_heard [.ref 113, .int a, .int b, .int c, .int e] m Q := by
  have h8 := hV.1.1
  unfold aHeard at h
  refine en_Mod_heard (d + 7) _ _ _ _ m (sg_Mod_heard_0 (zCall_m _) _ _ _ _ m (y_Mod_isPlant _ a hV.2.1 (by omega) ⟨_, rfl, zb_c (fun ha => ?_) (fun ha => y_Mod_isPlant _ c hV.2.1 (by omega) ⟨_, rfl, zb_c (fun hc => ?_) (fun hc => y_Mod_in _ e _ (n := 3) (by decide) ⟨_, rfl, zb_d (fun he => ?_) (fun he => y_Mod_isWord _ b ⟨_, rfl, zb_d (fun hb => ?_) (fun hb => ?_)⟩)⟩)⟩)⟩))
  · have := h m (zsm_refl m); rw [ha] at this; exact this
  · have := h m (zsm_refl m); rw [ha, hc] at this; exact this
  · have := h m (zsm_refl m); rw [ha, hc, he] at this; exact this
  · have := h m (zsm_refl m); rw [ha, hc, he, hb] at this; exact this
  · rw [ha, hc, he, hb] at h
    simp only [if_true] at h
    obtain ⟨a1, a2⟩ := zr_k ha
    obtain ⟨b1, b2⟩ := zr_k hb
    obtain ⟨c1, c2⟩ := zr_k hc
    obtain ⟨e1', e2⟩ := zr_k he
    generalize a.toNatClampNeg = one at a1 a2 h
    generalize b.toNatClampNeg = w0 at b1 b2 h
    generalize c.toNatClampNeg = other at c1 c2 h
    generalize e.toNatClampNeg = what at e1' e2 h
    subst a2 b2 c2 e2
    have hin : vp_in (nI other) 8 := vp_in_nI (by omega) (by omega)
    refine y_lay d hV (one := one) (w0 := w0) a1 b1 fun m' hs hm => ⟨rfl, hin, ?_⟩
    rw [(hm.1 other c1).1, (hm.1 other c1).2.1]
    have h := h m' hs
    show @ite Prop ((0 : Int32) ≤ e1 (sW (s1 V one) other)) _ _ _
    cases hx : sW (s1 V one) other with
    | none =>
      rw [hx] at h
      refine iq (by decide) ?_
      rw [show sF (s1 V one) other = none from sT_fn hV.1 _ hx] at h
      rcases (show what = 0 ∨ what = 1 ∨ what = 2 by omega) with rfl | rfl | rfl <;> exact h
    | some x =>
      rw [hx] at h
      have hxb := sT_wb hV.1 _ other x hx
      refine ip (nI_pos' (n := x) (by omega)) ?_
      rcases (show what = 0 ∨ what = 1 ∨ what = 2 by omega) with rfl | rfl | rfl
      · refine iq (fun z => z rfl) ⟨hin, ?_⟩
        rw [show sW (sT V fun p => decide (p = one)) other = some x from hx]
        exact h
      · refine ip (by decide) (iq (fun z => z rfl) ⟨hin, ?_⟩)
        rw [mX_wd hV.1 hm c1 (by rw [hx]; simp)]
        exact h
      · refine ip (by decide) (ip (by decide) ⟨hin, ?_⟩)
        show @ite Prop ((0 : Int32) ≤ e1 (sF (s1 V one) other)) _ _ _
        have h : Q (some (.int (e5 (sF (s1 V one) other)))) m' := h
        cases hf : sF (s1 V one) other with
        | none => rw [hf] at h; exact iq (by decide) h
        | some q =>
          rw [hf] at h
          have hq := sJ_fb (sT_J hV.1 _) other q hf
          refine ip (nI_pos' (n := q) (by omega)) ⟨hin, ?_⟩
          rw [show sF (sT V fun p => decide (p = one)) other = some q from hf]
          exact h
/-! by -/
def pBy (V : zV) (one n p : Nat) : Bool := match sW (s1 V one) p with
  | none => false
  | some x => decide (x ≤ n)
def aBy (V : zV) (a b : Int32) : Int32 := if zr a (vN V) = true then (if zr b 10000 = true then yst (pBy V a.toNatClampNeg b.toNatClampNeg) (vN V) else -2) else -1
/-- bits gathered along the order -/
theorem b_ord {V : zV} {b : Nat → Bool} (hw : vWf V) {P : Nat → Bool} {x : Int32} (hP : ∀ p, P p = true → sW (sT V b) p ≠ none) (h : ∀ i, i < 32 → bt x i = (decide (i ∈ sO (sT V b)) && P i)) : x = yst P (vN V) := by
  have h8 := hw.1
  refine b_ext fun i hi => ?_
  rw [h i hi, b_yst _ (by omega) i hi]
  cases hp : P i with
  | false => rw [Bool.and_false, Bool.and_false]
  | true =>
    rw [Bool.and_true, Bool.and_true]
    have hm := sT_in hw b (hP i hp)
    rw [decide_eq_true hm, decide_eq_true (sT_out hw b hm).1]
theorem y_within (d : Nat) {Q : zQ} {m : zM} {V : zV} (hw : vWf V) {one n : Nat} (hn : n < 10000) (hs : hSaid m V (fun p => decide (p = one))) (h : Q (some (.int (yst (pBy V one n) (vN V)))) m) (v1 : Int32) :
    ∀ j k x, k + j = (sO (s1 V one)).length → (∀ i, i < 32 → bt x i = (decide (i ∈ tl (sO (s1 V one)) k) && pBy V one n i)) → ∀ u, zle [.ref 90, .int v1, .int (nI n), .int x, .int (nI k), .retAddr 0] u → zRun (zCall (d + 1)) 4 (some .int) zc_Qu_hearersWithin Q 11 u [] m
  | 0, k, x, hk, hx, u, hu => by
    have hl := (sT_J hw (fun p => decide (p = one))).2.2.2.2.2.2.1
    have hc := cnt_le (sD (s1 V one)) (vN V)
    have h8 := hw.1
    have hl' : (sO (s1 V one)).length = cnt (sD (s1 V one)) (vN V) := hl
    refine zRun_le (zCall_m _) hu (sg_Qu_hearersWithin_11 (zCall_m _) _ _ _ _ m ?_)
    rw [hs.1.2.1]
    show @ite Prop (nI (sO (s1 V one)).length ≤ nI k) _ _ _
    refine ip (nI_le (by omega) (by omega)) ?_
    rw [show k = (sO (s1 V one)).length by omega, tl_all] at hx
    rw [b_ord hw (fun p hp => ?_) hx]
    · exact h
    · intro z
      unfold pBy at hp
      rw [show sW (s1 V one) p = none from z] at hp
      cases hp
  | j + 1, k, x, hk, hx, u, hu => by
    have hl := (sT_J hw (fun p => decide (p = one))).2.2.2.2.2.2.1
    have hc := cnt_le (sD (s1 V one)) (vN V)
    have h8 := hw.1
    have hl' : (sO (s1 V one)).length = cnt (sD (s1 V one)) (vN V) := hl
    obtain ⟨p, p1, p2, p3, p4, p5, p6⟩ := tl_s (k := k) hs.1.2.2 (sT_T hw _) (show k < (sO (s1 V one)).length by omega)
    obtain ⟨pn, y, py⟩ := sT_out hw _ p2
    have hyb := sT_wb hw _ p y py
    have hin : vp_in (nI p) 8 := vp_in_nI (by omega) (by omega)
    refine zRun_le (zCall_m _) hu (sg_Qu_hearersWithin_11 (zCall_m _) _ _ _ _ m ?_)
    rw [hs.1.2.1]
    show @ite Prop (nI (sO (s1 V one)).length ≤ nI k) _ _ _
    refine iq (nI_ge (by omega) (by omega)) ⟨vp_in_nI (by omega) (by omega), ?_⟩
    rw [nI_clamp (by omega), p1, nI_clamp (by omega), (hs.1.1 p pn).1, py, nI_1]
    refine ⟨hin, ?_⟩
    have hpb : pBy V one n p = decide (y ≤ n) := by
      unfold pBy
      rw [show sW (s1 V one) p = some y from py]
    have p3 : tl (sO (s1 V one)) (k + 1) = p :: tl (sO (s1 V one)) k := p3
    have p6 : p ∉ tl (sO (s1 V one)) k := p6
    show @ite Prop (nI n < nI y) _ _ _
    by_cases l : n < y
    · refine ip (nI_lt l (by omega)) (y_within d hw hn hs h v1 j (k + 1) x (by omega) (fun i hi => ?_) _ (by repeat (first | exact zle_nil | apply zle_same | apply zle_new _ rfl)))
      rw [p3, hx i hi]
      by_cases e : i = p
      · subst e
        rw [hpb, show decide (y ≤ n) = false from decide_eq_false (by omega), Bool.and_false, Bool.and_false]
      · simp [e]
    · refine iq (nI_nlt (by omega) (by omega)) (y_Box_bit d _ ⟨_, rfl, ?_⟩)
      refine y_within d hw hn hs h v1 j (k + 1) (x ||| z1 p) (by omega) (fun i hi => ?_) _ (by repeat (first | exact zle_nil | apply zle_same | apply zle_new _ rfl))
      rw [p3, z1_or _ (by omega) hi, hx i hi]
      by_cases e : i = p
      · subst e
        rw [hpb, decide_eq_true (show y ≤ n by omega)]
        simp
      · simp [e]
theorem yX_by (d : Nat) {Q : zQ} {m : zM} {V : zV} (hV : vX m 21 V) (a b : Int32) (h : ∀ m', zsm hP3 m m' → Q (some (.int (aBy V a b))) m') : zCall (d + 8) m_Box_by [.ref 20, .int a, .int b] m Q := by
  have h8 := hV.1.1
  unfold aBy at h
  refine en_Box_by (d + 7) _ _ m (sg_Box_by_0 (zCall_m _) _ _ m (y_Hedge_has _ a hV.2.1 (by omega) ⟨_, rfl, zb_d (fun ha => ?_) (fun ha => zr_d (n := 10000) (by decide) (fun hb => ?_) (fun hb => ?_) (fun hb => ?_))⟩))
  · have := h m (zsm_refl m); rw [ha] at this; exact this
  · have := h m (zsm_refl m); rw [ha, hb] at this; exact this
  · have := h m (zsm_refl m); rw [ha, hb] at this; exact this
  · rw [ha, hb] at h
    simp only [if_true] at h
    obtain ⟨a1, a2⟩ := zr_k ha
    obtain ⟨b1, b2⟩ := zr_k hb
    generalize a.toNatClampNeg = one at a1 a2 h
    generalize b.toNatClampNeg = n at b1 b2 h
    subst a2 b2
    refine en_Qu_hearersWithin (d + 6) _ _ m (sg_Qu_hearersWithin_0 (zCall_m _) _ _ m (y_say d hV (one := one) (w0 := 0) (by omega) (by omega) fun m' hs hsd hwd => ⟨rfl, ?_⟩))
    refine y_within _ hV.1 b1 hsd ⟨_, rfl, h m' hs⟩ _ _ 0 0 (Nat.zero_add _) (fun i hi => ?_) _ (zle_refl _)
    rw [tl_0, b_0]
    simp
theorem y_mby (d : Nat) {Q : zQ} {m : zM} {V : zV} (hV : vM m V) {one n w0 : Nat} {w1 : Nat → Nat} (hn : n < 10000) (hm : mX m V (vTakes V) w0 w1 (s1 V one)) (h : Q (some (.int (yst (pBy V one n) (vN V)))) m) (v1 : Int32) :
    ∀ j k, k + j = vN V → zRun (zCall (d + 1)) 9 (some .int) zc_Mod_by Q 36 [.ref 113, .int v1, .int (nI n), .int (yst (pBy V one n) k), .int (nI k)] [] m
  | 0, k, hk => by
    have h8 := hV.1.1
    refine sg_Mod_by_36 (zCall_m _) _ _ _ _ m ?_
    rw [hV.2.1]
    refine ip (nI_le (by omega) (by omega)) ?_
    rw [show k = vN V by omega]
    exact h
  | j + 1, k, hk => by
    have h8 := hV.1.1
    have IH := y_mby d hV hn hm h v1 j (k + 1) (by omega)
    refine sg_Mod_by_36 (zCall_m _) _ _ _ _ m ?_
    rw [hV.2.1]
    refine iq (nI_ge (by omega) (by omega)) ⟨vp_in_nI (by omega) (by omega), ?_⟩
    rw [nI_clamp (by omega), (hm.1 k (by omega)).1, nI_1]
    have hz : zr (e1 (sW (s1 V one) k)) (n + 1) = pBy V one n k := by
      unfold pBy
      cases hx : sW (s1 V one) k with
      | none => exact zr_lo (by decide)
      | some x =>
        have hxb := sT_wb hV.1 _ k x hx
        show zr (nI x) (n + 1) = decide (x ≤ n)
        unfold zr
        rw [nI_toInt (by omega)]
        exact decide_eq_decide.mpr ⟨fun z => by omega, fun z => by omega⟩
    refine y_Mod_in d _ _ (n := n + 1) (by rw [nI_toInt (by omega)]; omega) ⟨_, rfl, ?_⟩
    rw [hz]
    refine zb_c (fun hp => ?_) (fun hp => ?_)
    · rw [yst_or hp]
      exact IH
    · have : yst (pBy V one n) (k + 1) = yst (pBy V one n) k ||| z1 k := by
        show (if _ then _ else _) = _
        rw [if_pos hp]
      rw [this] at IH
      exact IH
theorem yM_by (d : Nat) {Q : zQ} {m : zM} {V : zV} (hV : vM m V) (a b : Int32) (h : ∀ m', zsm mP m m' → Q (some (.int (aBy V a b))) m') : zCall (d + 8) m_Mod_by [.ref 113, .int a, .int b] m Q := by
  have h8 := hV.1.1
  unfold aBy at h
  refine en_Mod_by (d + 7) _ _ m (sg_Mod_by_0 (zCall_m _) _ _ m (y_Mod_isPlant _ a hV.2.1 (by omega) ⟨_, rfl, zb_d (fun ha => ?_) (fun ha => y_Mod_in _ b _ (n := 10000) (by decide) ⟨_, rfl, zb_d (fun hb => ?_) (fun hb => ?_)⟩)⟩))
  · have := h m (zsm_refl m); rw [ha] at this; exact this
  · have := h m (zsm_refl m); rw [ha, hb] at this; exact this
  · rw [ha, hb] at h
    simp only [if_true] at h
    obtain ⟨a1, a2⟩ := zr_k ha
    obtain ⟨b1, b2⟩ := zr_k hb
    generalize a.toNatClampNeg = one at a1 a2 h
    generalize b.toNatClampNeg = n at b1 b2 h
    subst a2 b2
    refine y_lay d hV (one := one) (w0 := 0) a1 (by omega) fun m' hs hm => ⟨rfl, ?_⟩
    exact y_mby _ (vM_mP hV hs) b1 hm (h m' hs) _ (vN V) 0 (Nat.zero_add _)
