/-! the class's hearing, whole: spread, speak (gen27.py) -/
theorem st0_J (V : zV) (t : Nat → Nat) (b : Nat → Bool) : sJ V t (st0 V b) := sJ_0 V t b
theorem sJ_wb {V : zV} {t : Nat → Nat} {s : zS} (hJ : sJ V t s) (hn : vN V ≤ 8) : ∀ p x, sW s p = some x → x ≤ 16680 := fun p x h => by
  have h1 := hJ.2.2.2.2.2.1 p x h
  have h2 := hJ.2.2.2.2.2.2.1
  have h3 := cnt_le (sD s) (vN V)
  omega
theorem sJ_dn {V : zV} {t : Nat → Nat} {s : zS} (hJ : sJ V t s) {p : Nat} (h : sD s p = true) : p < vN V := by
  obtain ⟨x, hx⟩ := hJ.2.2.1 p h
  exact (hJ.1 p (by rw [hx]; simp)).1
theorem sJ_fb {V : zV} {t : Nat → Nat} {s : zS} (hJ : sJ V t s) : ∀ p x, sF s p = some x → x < vN V := fun p x h => sJ_dn hJ (hJ.2.2.2.1 p x h).1
theorem y_isDead_21 (d : Nat) {Q : zQ} {m : zM} {V : zV} (hV : vX m 21 V) {p : Nat} (hp : p < 32) (h : Q (some (.int (zb (bt (vD V) p)))) m) : zCall (d + 3) m_Hedge_isDead [.ref 21, .int (nI p)] m Q := by
  refine en_Hedge_isDead_21 (d + 2) _ m (sg_Hedge_isDead_21_0 (zCall_m _) _ m ?_)
  rw [hV.2.2.2.2.1]
  exact y_Box_holds d _ hp ⟨_, rfl, zb_1 _, h⟩
theorem y_spread_21 (d : Nat) {Q : zQ} {m : zM} {V : zV} (hV : vX m 21 V) {t : Nat → Nat} (htk : hTk m (vN V) t) (htb : ∀ p, p < vN V → 1 ≤ t p ∧ t p ≤ 2085) (b : Int32) :
    ∀ j k s D m', k + j = vN V → zsm hP2 m m' → sJ V t s → (sO s).length = k → (∀ p, p < 32 → bt D p = sD s p) → hX m' (vN V) s → (∀ m', zsm hP2 m m' → hX m' (vN V) (rnS V t j s) → Q none m') →
    ∀ u, zle [.ref 92, .ref 21, .int b, .int D, .int (nI k), .retAddr 0] u → zRun (zCall (d + 3)) 2 none zc_Hearing_spread Q 62 u [] m'
  | 0, k, s, D, m', hk, hs, hJ, hl, hD, hm, h, u, hu => by
    have hV' := vX_sm hV hs (fun q a b z => by unfold hP2 at z; omega) (fun q a b z => by unfold hP2 at z; omega)
    have h8 := hV.1.1
    refine zRun_le (zCall_m _) hu (sg_Hearing_spread_21_62 (zCall_m _) _ _ _ m' ?_)
    rw [hV'.2.1]
    exact ip (nI_le (by omega) (by omega)) (h m' hs hm)
  | j + 1, k, s, D, m', hk, hs, hJ, hl, hD, hm, h, u, hu => by
    have hV' := vX_sm hV hs (fun q a b z => by unfold hP2 at z; omega) (fun q a b z => by unfold hP2 at z; omega)
    have h8 := hV.1.1
    have hwb := sJ_wb hJ h8
    refine zRun_le (zCall_m _) hu (sg_Hearing_spread_21_62 (zCall_m _) _ _ _ m' ?_)
    rw [hV'.2.1]
    refine iq (nI_ge (by omega) (by omega)) (y_soonC d h8 (fun p hp => (hm.1 p hp).1) (fun p x z => by have := hwb p x z; omega) (fun p hp => hD p (by omega)) ⟨_, rfl, ?_⟩)
    unfold rnS at h
    cases hp : nxF (sW s) (sD s) (vN V) with
    | none =>
      rw [hp] at h
      exact iq (fun z => z rfl) (h m' hs hm)
    | some p =>
      rw [hp] at h
      obtain ⟨a, bb, x, c, e⟩ := nxF_some hp
      have hx := hwb p x c
      have hth : thn t (sW s) p = x + t p := by unfold thn; rw [c]; rfl
      have htp := htb p a
      refine ip (e5_s (by omega)) ?_
      rw [hm.2.1, hl]
      refine ⟨vp_in_nI (by omega) (by omega), y_Box_bit _ _ ⟨_, rfl, ?_⟩⟩
      rw [nI_clamp (by omega)]
      simp only [gI_sI, show (92 : Nat) = 96 ↔ False by decide, false_and, if_false]
      rw [hm.2.1, hl, nI_1]
      have hs1 : zsm hP2 m (sI (sI m' 96 k (nI p)) 92 4 (nI (k + 1))) := zsm_sI (zsm_sI hs (by unfold hP2; omega) _) (by unfold hP2; omega) _
      have hV1 := vX_sm hV hs1 (fun q a b z => by unfold hP2 at z; omega) (fun q a b z => by unfold hP2 at z; omega)
      refine y_passOnC_21 d hV1 (t := t) (w := sW s) (f := sF s) (x := x) (fun q hq => ?_) a (by omega) (fun q y z => by have := hwb q y z; omega) (fun q y z => by have := sJ_fb hJ q y z; omega) c (fun q hq => ?_) (fun m8 hs8 hm8 => ⟨rfl, ?_⟩)
      · rw [(hs1 93 (by unfold hP2; omega)).1]
        exact htk q hq
      · have := hm.1 q hq
        simp only [gI_sI, show (94 : Nat) = 96 ↔ False by decide, show (95 : Nat) = 96 ↔ False by decide, show (94 : Nat) = 92 ↔ False by decide, show (95 : Nat) = 92 ↔ False by decide, false_and, if_false]
        exact this
      · refine y_spread_21 d hV htk htb b j (k + 1) (psS V t s p) (D ||| z1 p) m8 (by omega) (zsm_tr hs1 (zsm_mo (fun q z => by unfold hP at z; unfold hP2; omega) hs8)) (sJ_ps hJ htb hp) (by show (p :: sO s).length = _; rw [List.length_cons, hl]) (fun q hq => ?_) ⟨hm8, ?_, ?_, ?_⟩ h _ ?_
        · show bt (D ||| z1 p) q = (decide (q = p) || sD s q)
          rw [z1_or D (by omega) hq, hD q hq]
        · rw [(hs8 92 (by unfold hP; omega)).1, gI_sI, if_pos ⟨rfl, rfl⟩]
          show _ = nI (p :: sO s).length
          rw [List.length_cons, hl]
        · rw [(hs8 96 (by unfold hP; omega)).1, gI_sI, if_neg (by omega), gI_sI, if_pos ⟨rfl, hl⟩]
        · refine oL_sm hs8 (by unfold hP; omega) (oL_sm (P := fun q => q = 92) (m := sI m' 96 k (nI p)) (zsm_sI (P := fun q => q = 92) (zsm_refl _) (show (92 : Nat) = 92 from rfl) _) (by decide) (oL_set hm.2.2 (by omega)))
        · repeat (first | exact zle_nil | apply zle_same | apply zle_new _ rfl)
theorem y_spread0_21 (d : Nat) {Q : zQ} {m : zM} {V : zV} (hV : vX m 21 V) {t : Nat → Nat} (htk : hTk m (vN V) t) (htb : ∀ p, p < vN V → 1 ≤ t p ∧ t p ≤ 2085) (b : Int32) (h : ∀ m', zsm hP2 m m' → hX m' (vN V) (spr V t (bt b)) → Q none m') :
    ∀ j k m', k + j = vN V → zsm hP2 m m' → (∀ p, p < k → gI m' 94 p = e5 (sW (st0 V (bt b)) p) ∧ gI m' 95 p = -5) → zRun (zCall (d + 3)) 2 none zc_Hearing_spread Q 2 [.ref 92, .ref 21, .int b, .int (nI k), .retAddr 0, .retAddr 0] [] m'
  | 0, k, m', hk, hs, hm => by
    have hV' := vX_sm hV hs (fun q a b z => by unfold hP2 at z; omega) (fun q a b z => by unfold hP2 at z; omega)
    have h8 := hV.1.1
    refine sg_Hearing_spread_21_2 (zCall_m _) _ _ m' ?_
    rw [hV'.2.1]
    refine ip (nI_le (by omega) (by omega)) (y_spread_21 d hV htk htb b (vN V) 0 (st0 V (bt b)) 0 _ (by omega) (zsm_sI hs (by unfold hP2; omega) _) (sJ_0 V t _) rfl (fun p hp => b_0 p) ⟨fun p hp => ?_, ?_, trivial⟩ h _ (zle_refl _))
    · simp only [gI_sI, show (94 : Nat) = 92 ↔ False by decide, show (95 : Nat) = 92 ↔ False by decide, false_and, if_false]
      exact hm p (by omega)
    · rw [gI_sI, if_pos ⟨rfl, rfl⟩]; rfl
  | j + 1, k, m', hk, hs, hm => by
    have hV' := vX_sm hV hs (fun q a b z => by unfold hP2 at z; omega) (fun q a b z => by unfold hP2 at z; omega)
    have h8 := hV.1.1
    have hkn : k < vN V := by omega
    have hin : vp_in (nI k) 8 := vp_in_nI (by omega) (by omega)
    have hcl : (nI k).toNatClampNeg = k := nI_clamp (by omega)
    have IH : ∀ y, y = e5 (sW (st0 V (bt b)) k) → zRun (zCall (d + 3)) 2 none zc_Hearing_spread Q 2 [.ref 92, .ref 21, .int b, .int (nI (k + 1)), .retAddr 0, .retAddr 0] [] (sI (sI m' 94 k y) 95 k (-5)) := by
      rintro y rfl
      refine y_spread0_21 d hV htk htb b h j (k + 1) _ (by omega) (zsm_sI (zsm_sI hs (by unfold hP2; omega) _) (by unfold hP2; omega) _) (fun p hp => ?_)
      simp only [gI_sI, show (94 : Nat) = 95 ↔ False by decide, show (95 : Nat) = 94 ↔ False by decide, false_and, if_false, true_and]
      by_cases e : p = k
      · subst e
        rw [if_pos rfl, if_pos rfl]
        exact ⟨rfl, rfl⟩
      · rw [if_neg e, if_neg e]
        exact hm p (by omega)
    have hst : sW (st0 V (bt b)) k = if (bt b k && !bt (vD V) k) = true then some 0 else none := by
      show (if (decide (k < vN V) && (bt b k && !bt (vD V) k)) = true then some 0 else none) = _
      rw [decide_eq_true hkn, Bool.true_and]
    refine sg_Hearing_spread_21_2 (zCall_m _) _ _ m' ?_
    rw [hV'.2.1]
    refine iq (nI_ge (by omega) (by omega)) (y_Box_holds (d + 1) _ (by omega) ⟨_, rfl, ?_⟩)
    rw [hcl, nI_1]
    cases hb : bt b k with
    | false =>
      rw [hb] at hst
      exact ip rfl ⟨hin, hin, IH _ (by rw [hst]; rfl)⟩
    | true =>
      rw [hb] at hst
      refine iq (by decide) (y_isDead_21 d hV' (by omega) ⟨_, rfl, ?_⟩)
      cases hdd : bt (vD V) k with
      | true =>
        rw [hdd] at hst
        exact ip (by decide) ⟨hin, hin, IH _ (by rw [hst]; rfl)⟩
      | false =>
        rw [hdd] at hst
        exact iq (fun z => z rfl) ⟨hin, hin, IH _ (by rw [hst]; rfl)⟩
theorem y_spreadC_21 (d : Nat) {Q : zQ} {m : zM} {V : zV} (hV : vX m 21 V) {t : Nat → Nat} (htk : hTk m (vN V) t) (htb : ∀ p, p < vN V → 1 ≤ t p ∧ t p ≤ 2085) (b : Int32) (h : ∀ m', zsm hP2 m m' → hX m' (vN V) (spr V t (bt b)) → Q none m') : zCall (d + 4) m_Hearing_spread [.ref 92, .ref 21, .int b] m Q :=
  en_Hearing_spread_21 (d + 3) _ m (sg_Hearing_spread_21_0 (zCall_m _) _ m (y_spread0_21 d hV htk htb b h (vN V) 0 m (by omega) (zsm_refl m) (fun p hp => absurd hp (Nat.not_lt_zero _))))
theorem y_isDead_45 (d : Nat) {Q : zQ} {m : zM} {V : zV} (hV : vX m 45 V) {p : Nat} (hp : p < 32) (h : Q (some (.int (zb (bt (vD V) p)))) m) : zCall (d + 3) m_Hedge_isDead [.ref 45, .int (nI p)] m Q := by
  refine en_Hedge_isDead_45 (d + 2) _ m (sg_Hedge_isDead_45_0 (zCall_m _) _ m ?_)
  rw [hV.2.2.2.2.1]
  exact y_Box_holds d _ hp ⟨_, rfl, zb_1 _, h⟩
theorem y_spread_45 (d : Nat) {Q : zQ} {m : zM} {V : zV} (hV : vX m 45 V) {t : Nat → Nat} (htk : hTk m (vN V) t) (htb : ∀ p, p < vN V → 1 ≤ t p ∧ t p ≤ 2085) (b : Int32) :
    ∀ j k s D m', k + j = vN V → zsm hP2 m m' → sJ V t s → (sO s).length = k → (∀ p, p < 32 → bt D p = sD s p) → hX m' (vN V) s → (∀ m', zsm hP2 m m' → hX m' (vN V) (rnS V t j s) → Q none m') →
    ∀ u, zle [.ref 92, .ref 45, .int b, .int D, .int (nI k), .retAddr 0] u → zRun (zCall (d + 3)) 2 none zc_Hearing_spread Q 62 u [] m'
  | 0, k, s, D, m', hk, hs, hJ, hl, hD, hm, h, u, hu => by
    have hV' := vX_sm hV hs (fun q a b z => by unfold hP2 at z; omega) (fun q a b z => by unfold hP2 at z; omega)
    have h8 := hV.1.1
    refine zRun_le (zCall_m _) hu (sg_Hearing_spread_45_62 (zCall_m _) _ _ _ m' ?_)
    rw [hV'.2.1]
    exact ip (nI_le (by omega) (by omega)) (h m' hs hm)
  | j + 1, k, s, D, m', hk, hs, hJ, hl, hD, hm, h, u, hu => by
    have hV' := vX_sm hV hs (fun q a b z => by unfold hP2 at z; omega) (fun q a b z => by unfold hP2 at z; omega)
    have h8 := hV.1.1
    have hwb := sJ_wb hJ h8
    refine zRun_le (zCall_m _) hu (sg_Hearing_spread_45_62 (zCall_m _) _ _ _ m' ?_)
    rw [hV'.2.1]
    refine iq (nI_ge (by omega) (by omega)) (y_soonC d h8 (fun p hp => (hm.1 p hp).1) (fun p x z => by have := hwb p x z; omega) (fun p hp => hD p (by omega)) ⟨_, rfl, ?_⟩)
    unfold rnS at h
    cases hp : nxF (sW s) (sD s) (vN V) with
    | none =>
      rw [hp] at h
      exact iq (fun z => z rfl) (h m' hs hm)
    | some p =>
      rw [hp] at h
      obtain ⟨a, bb, x, c, e⟩ := nxF_some hp
      have hx := hwb p x c
      have hth : thn t (sW s) p = x + t p := by unfold thn; rw [c]; rfl
      have htp := htb p a
      refine ip (e5_s (by omega)) ?_
      rw [hm.2.1, hl]
      refine ⟨vp_in_nI (by omega) (by omega), y_Box_bit _ _ ⟨_, rfl, ?_⟩⟩
      rw [nI_clamp (by omega)]
      simp only [gI_sI, show (92 : Nat) = 96 ↔ False by decide, false_and, if_false]
      rw [hm.2.1, hl, nI_1]
      have hs1 : zsm hP2 m (sI (sI m' 96 k (nI p)) 92 4 (nI (k + 1))) := zsm_sI (zsm_sI hs (by unfold hP2; omega) _) (by unfold hP2; omega) _
      have hV1 := vX_sm hV hs1 (fun q a b z => by unfold hP2 at z; omega) (fun q a b z => by unfold hP2 at z; omega)
      refine y_passOnC_45 d hV1 (t := t) (w := sW s) (f := sF s) (x := x) (fun q hq => ?_) a (by omega) (fun q y z => by have := hwb q y z; omega) (fun q y z => by have := sJ_fb hJ q y z; omega) c (fun q hq => ?_) (fun m8 hs8 hm8 => ⟨rfl, ?_⟩)
      · rw [(hs1 93 (by unfold hP2; omega)).1]
        exact htk q hq
      · have := hm.1 q hq
        simp only [gI_sI, show (94 : Nat) = 96 ↔ False by decide, show (95 : Nat) = 96 ↔ False by decide, show (94 : Nat) = 92 ↔ False by decide, show (95 : Nat) = 92 ↔ False by decide, false_and, if_false]
        exact this
      · refine y_spread_45 d hV htk htb b j (k + 1) (psS V t s p) (D ||| z1 p) m8 (by omega) (zsm_tr hs1 (zsm_mo (fun q z => by unfold hP at z; unfold hP2; omega) hs8)) (sJ_ps hJ htb hp) (by show (p :: sO s).length = _; rw [List.length_cons, hl]) (fun q hq => ?_) ⟨hm8, ?_, ?_, ?_⟩ h _ ?_
        · show bt (D ||| z1 p) q = (decide (q = p) || sD s q)
          rw [z1_or D (by omega) hq, hD q hq]
        · rw [(hs8 92 (by unfold hP; omega)).1, gI_sI, if_pos ⟨rfl, rfl⟩]
          show _ = nI (p :: sO s).length
          rw [List.length_cons, hl]
        · rw [(hs8 96 (by unfold hP; omega)).1, gI_sI, if_neg (by omega), gI_sI, if_pos ⟨rfl, hl⟩]
        · refine oL_sm hs8 (by unfold hP; omega) (oL_sm (P := fun q => q = 92) (m := sI m' 96 k (nI p)) (zsm_sI (P := fun q => q = 92) (zsm_refl _) (show (92 : Nat) = 92 from rfl) _) (by decide) (oL_set hm.2.2 (by omega)))
        · repeat (first | exact zle_nil | apply zle_same | apply zle_new _ rfl)
theorem y_spread0_45 (d : Nat) {Q : zQ} {m : zM} {V : zV} (hV : vX m 45 V) {t : Nat → Nat} (htk : hTk m (vN V) t) (htb : ∀ p, p < vN V → 1 ≤ t p ∧ t p ≤ 2085) (b : Int32) (h : ∀ m', zsm hP2 m m' → hX m' (vN V) (spr V t (bt b)) → Q none m') :
    ∀ j k m', k + j = vN V → zsm hP2 m m' → (∀ p, p < k → gI m' 94 p = e5 (sW (st0 V (bt b)) p) ∧ gI m' 95 p = -5) → zRun (zCall (d + 3)) 2 none zc_Hearing_spread Q 2 [.ref 92, .ref 45, .int b, .int (nI k), .retAddr 0, .retAddr 0] [] m'
  | 0, k, m', hk, hs, hm => by
    have hV' := vX_sm hV hs (fun q a b z => by unfold hP2 at z; omega) (fun q a b z => by unfold hP2 at z; omega)
    have h8 := hV.1.1
    refine sg_Hearing_spread_45_2 (zCall_m _) _ _ m' ?_
    rw [hV'.2.1]
    refine ip (nI_le (by omega) (by omega)) (y_spread_45 d hV htk htb b (vN V) 0 (st0 V (bt b)) 0 _ (by omega) (zsm_sI hs (by unfold hP2; omega) _) (sJ_0 V t _) rfl (fun p hp => b_0 p) ⟨fun p hp => ?_, ?_, trivial⟩ h _ (zle_refl _))
    · simp only [gI_sI, show (94 : Nat) = 92 ↔ False by decide, show (95 : Nat) = 92 ↔ False by decide, false_and, if_false]
      exact hm p (by omega)
    · rw [gI_sI, if_pos ⟨rfl, rfl⟩]; rfl
  | j + 1, k, m', hk, hs, hm => by
    have hV' := vX_sm hV hs (fun q a b z => by unfold hP2 at z; omega) (fun q a b z => by unfold hP2 at z; omega)
    have h8 := hV.1.1
    have hkn : k < vN V := by omega
    have hin : vp_in (nI k) 8 := vp_in_nI (by omega) (by omega)
    have hcl : (nI k).toNatClampNeg = k := nI_clamp (by omega)
    have IH : ∀ y, y = e5 (sW (st0 V (bt b)) k) → zRun (zCall (d + 3)) 2 none zc_Hearing_spread Q 2 [.ref 92, .ref 45, .int b, .int (nI (k + 1)), .retAddr 0, .retAddr 0] [] (sI (sI m' 94 k y) 95 k (-5)) := by
      rintro y rfl
      refine y_spread0_45 d hV htk htb b h j (k + 1) _ (by omega) (zsm_sI (zsm_sI hs (by unfold hP2; omega) _) (by unfold hP2; omega) _) (fun p hp => ?_)
      simp only [gI_sI, show (94 : Nat) = 95 ↔ False by decide, show (95 : Nat) = 94 ↔ False by decide, false_and, if_false, true_and]
      by_cases e : p = k
      · subst e
        rw [if_pos rfl, if_pos rfl]
        exact ⟨rfl, rfl⟩
      · rw [if_neg e, if_neg e]
        exact hm p (by omega)
    have hst : sW (st0 V (bt b)) k = if (bt b k && !bt (vD V) k) = true then some 0 else none := by
      show (if (decide (k < vN V) && (bt b k && !bt (vD V) k)) = true then some 0 else none) = _
      rw [decide_eq_true hkn, Bool.true_and]
    refine sg_Hearing_spread_45_2 (zCall_m _) _ _ m' ?_
    rw [hV'.2.1]
    refine iq (nI_ge (by omega) (by omega)) (y_Box_holds (d + 1) _ (by omega) ⟨_, rfl, ?_⟩)
    rw [hcl, nI_1]
    cases hb : bt b k with
    | false =>
      rw [hb] at hst
      exact ip rfl ⟨hin, hin, IH _ (by rw [hst]; rfl)⟩
    | true =>
      rw [hb] at hst
      refine iq (by decide) (y_isDead_45 d hV' (by omega) ⟨_, rfl, ?_⟩)
      cases hdd : bt (vD V) k with
      | true =>
        rw [hdd] at hst
        exact ip (by decide) ⟨hin, hin, IH _ (by rw [hst]; rfl)⟩
      | false =>
        rw [hdd] at hst
        exact iq (fun z => z rfl) ⟨hin, hin, IH _ (by rw [hst]; rfl)⟩
theorem y_spreadC_45 (d : Nat) {Q : zQ} {m : zM} {V : zV} (hV : vX m 45 V) {t : Nat → Nat} (htk : hTk m (vN V) t) (htb : ∀ p, p < vN V → 1 ≤ t p ∧ t p ≤ 2085) (b : Int32) (h : ∀ m', zsm hP2 m m' → hX m' (vN V) (spr V t (bt b)) → Q none m') : zCall (d + 4) m_Hearing_spread [.ref 92, .ref 45, .int b] m Q :=
  en_Hearing_spread_45 (d + 3) _ m (sg_Hearing_spread_45_0 (zCall_m _) _ m (y_spread0_45 d hV htk htb b h (vN V) 0 m (by omega) (zsm_refl m) (fun p hp => absurd hp (Nat.not_lt_zero _))))
/-- what each has heard, by those who have passed it on, the latest first -/
def spk (V : zV) (f : Nat → Option Nat) (w0 : Nat) : List Nat → Nat → Nat
  | [], _ => 0
  | p :: r, x => if x = p then (match f p with
    | none => w0
    | some q => vSays V q (spk V f w0 r q)) else spk V f w0 r x
theorem vSays_c {V : zV} (hw : vWf V) {p w : Nat} (h : w < 10000) : vSays V p w < 10000 := by
  have h2 := vLose_b hw
  have h3 : w / vLose V ≤ w := Nat.div_le_self _ _
  unfold vSays
  split
  · omega
  · split
    · omega
    · split
      · omega
      · split <;> omega
theorem spk_b {V : zV} (hw : vWf V) {f : Nat → Option Nat} {w0 : Nat} (h0 : w0 < 10000) : ∀ L x, spk V f w0 L x < 10000
  | [], _ => by unfold spk; omega
  | p :: r, x => by
    unfold spk
    split
    · split
      · exact h0
      · exact vSays_c hw (spk_b hw h0 r _)
    · exact spk_b hw h0 r x
