/-! the reference's spreading, whole (gen30.py) -/
theorem y_spreads (d : Nat) {Q : zQ} {m : zM} {V : zV} (hV : vM m V) {t : Nat → Nat} (htb : ∀ p, p < vN V → 1 ≤ t p ∧ t p ≤ 2085) {w0 : Nat} (h0 : w0 < 10000) {w1 : Nat → Nat} :
    ∀ j s m', (sO s).length + j = vN V → sJ V t s → mX m' V t w0 w1 s → zsm mP m m' → (∀ m', zsm mP m m' → mX m' V t w0 w1 (rnS V t j s) → Q none m') →
    zRun (zCall (d + 5)) 9 none zc_Mod_spreads Q 5 [.ref 113, .int (e1 (nxF (sW s) (sD s) (vN V)))] [] m'
  | 0, s, m', hl, hJ, hm, hs, h => by
    refine sg_Mod_spreads_5 (zCall_m _) _ m' ?_
    rw [sJ_full hJ (by omega)]
    exact ip (by decide) (h m' hs hm)
  | j + 1, s, m', hl, hJ, hm, hs, h => by
    have h8 := hV.1.1
    refine sg_Mod_spreads_5 (zCall_m _) _ m' ?_
    unfold rnS at h
    cases hp : nxF (sW s) (sD s) (vN V) with
    | none =>
      rw [hp] at h
      exact ip (by decide) (h m' hs hm)
    | some p =>
      rw [hp] at h
      obtain ⟨pa, pb, _⟩ := nxF_some hp
      have hV' := vM_mP hV hs
      have hJ2 := sJ_ps hJ htb hp
      refine iq (e1_n (x := p) (by omega)) (y_passesC d hV' htb h0 hJ hp hm fun m2 hs2 hm2 => ⟨rfl, y_nextC (d + 4) (vM_mP hV' hs2) (fun q hq => ⟨(hm2.1 q hq).1, (hm2.1 q hq).2.2.1⟩) (fun q x z => by have := sJ_wb hJ2 h8 q x z; omega) ⟨_, rfl, ?_⟩⟩)
      exact y_spreads d hV htb h0 j (psS V t s p) m2 (by show (p :: sO s).length + j = _; rw [List.length_cons]; omega) hJ2 hm2 (zsm_tr hs hs2) h
theorem y_spreadsC (d : Nat) {Q : zQ} {m : zM} {V : zV} (hV : vM m V) {t : Nat → Nat} (htb : ∀ p, p < vN V → 1 ≤ t p ∧ t p ≤ 2085) {w0 : Nat} (h0 : w0 < 10000) {w1 : Nat → Nat} {b : Nat → Bool} (hm : mX m V t w0 w1 (st0 V b)) (h : ∀ m', zsm mP m m' → mX m' V t w0 w1 (spr V t b) → Q none m') : zCall (d + 6) m_Mod_spreads [.ref 113] m Q := by
  have h8 := hV.1.1
  have hJ := sJ_0 V t b
  refine en_Mod_spreads (d + 5) m (sg_Mod_spreads_0 (zCall_m _) m (y_nextC (d + 4) hV (fun q hq => ⟨(hm.1 q hq).1, (hm.1 q hq).2.2.1⟩) (fun q x z => by have := sJ_wb hJ h8 q x z; omega) ⟨_, rfl, ?_⟩))
  exact y_spreads d hV htb h0 (vN V) (st0 V b) m (Nat.zero_add _) hJ hm (zsm_refl m) h
def mCl (m : zM) (V : zV) (n : Nat) : Prop := ∀ q, q < n → gI m 128 q = -1 ∧ gI m 129 q = -1 ∧ gI m 133 q = 0 ∧ gI m 132 q = nI (vTakes V q)
theorem y_clears (d : Nat) {Q : zQ} {m : zM} {V : zV} (hV : vM m V) (h : ∀ m', zsm mP m m' → mCl m' V (vN V) → Q none m') :
    ∀ j k m', k + j = vN V → zsm mP m m' → mCl m' V k → zRun (zCall (d + 5)) 9 none zc_Mod_clears Q 2 [.ref 113, .int (nI k)] [] m'
  | 0, k, m', hk, hs, hm => by
    have hV' := vM_mP hV hs
    have h8 := hV.1.1
    refine sg_Mod_clears_2 (zCall_m _) _ m' ?_
    rw [hV'.2.1]
    refine ip (nI_le (by omega) (by omega)) (h m' hs ?_)
    rw [show k = vN V by omega] at hm
    exact hm
  | j + 1, k, m', hk, hs, hm => by
    have hV' := vM_mP hV hs
    have h8 := hV.1.1
    have hin : vp_in (nI k) 8 := vp_in_nI (by omega) (by omega)
    refine sg_Mod_clears_2 (zCall_m _) _ m' ?_
    rw [hV'.2.1]
    refine iq (nI_ge (by omega) (by omega)) ⟨hin, hin, hin, ?_⟩
    rw [nI_clamp (by omega), nI_1]
    have hs1 : zsm mP m (sI (sI (sI m' 128 k (-1)) 129 k (-1)) 133 k ((0 : Int32) &&& 1)) := zsm_sI (zsm_sI (zsm_sI hs (by unfold mP; omega) _) (by unfold mP; omega) _) (by unfold mP; omega) _
    refine y_mtakes d (vM_mP hV hs1) (by omega) fun m2 hs2 => ⟨_, rfl, hin, ?_⟩
    refine y_clears d hV h j (k + 1) _ (by omega) (zsm_sI (zsm_tr hs1 (zsm_mo (fun q z => by unfold mP; omega) hs2)) (by unfold mP; omega) _) (fun q hq => ?_)
    simp only [gI_sI, show (128 : Nat) = 132 ↔ False by decide, show (129 : Nat) = 132 ↔ False by decide, show (133 : Nat) = 132 ↔ False by decide, false_and, if_false, true_and]
    rw [(hs2 128 (by decide)).1, (hs2 129 (by decide)).1, (hs2 133 (by decide)).1, (hs2 132 (by decide)).1]
    simp only [gI_sI, show (128 : Nat) = 129 ↔ False by decide, show (128 : Nat) = 133 ↔ False by decide, show (129 : Nat) = 128 ↔ False by decide, show (129 : Nat) = 133 ↔ False by decide, show (133 : Nat) = 128 ↔ False by decide, show (133 : Nat) = 129 ↔ False by decide, show (132 : Nat) = 128 ↔ False by decide, show (132 : Nat) = 129 ↔ False by decide, show (132 : Nat) = 133 ↔ False by decide, false_and, if_false, true_and]
    by_cases e : q = k
    · subst e
      rw [if_pos rfl, if_pos rfl, if_pos rfl, if_pos rfl]
      exact ⟨rfl, rfl, rfl, rfl⟩
    · rw [if_neg e, if_neg e, if_neg e, if_neg e]
      exact hm q (by omega)
theorem y_clearsC (d : Nat) {Q : zQ} {m : zM} {V : zV} (hV : vM m V) (h : ∀ m', zsm mP m m' → mCl m' V (vN V) → Q none m') : zCall (d + 6) m_Mod_clears [.ref 113] m Q :=
  en_Mod_clears (d + 5) m (sg_Mod_clears_0 (zCall_m _) m (y_clears d hV h (vN V) 0 m (by omega) (zsm_refl m) (fun q hq => absurd hq (Nat.not_lt_zero _))))
theorem mCl_X {m : zM} {V : zV} (h : mCl m V (vN V)) (w0 : Nat) (w1 : Nat → Nat) : mX m V (vTakes V) w0 w1 (st0 V (fun _ => false)) := by
  have hw : ∀ p, sW (st0 V (fun _ => false)) p = none := fun p => by
    show (if (decide (p < vN V) && (false && !bt (vD V) p)) = true then some 0 else none) = none
    rw [Bool.false_and, Bool.and_false]; rfl
  refine ⟨fun p hp => ?_, fun p hp hz => absurd (hw p) hz⟩
  rw [hw p]
  exact h p hp
theorem y_saidTo (d : Nat) {Q : zQ} {m : zM} {V : zV} (hV : vM m V) {t : Nat → Nat} {w0 : Nat} {w1 : Nat → Nat} {b : Nat → Bool} (hm : mX m V t w0 w1 (st0 V b)) {one : Nat} (ho : one < vN V) {who : Int32} (hwho : who = nI (w1 one)) (h : ∀ m', zsm mP m m' → mX m' V t w0 w1 (st0 V (fun p => decide (p = one) || b p)) → Q none m') : zCall (d + 2) m_Mod_saidTo [.ref 113, .int (nI one), .int (nI w0), .int who] m Q := by
  have h8 := hV.1.1
  have hin : vp_in (nI one) 8 := vp_in_nI (by omega) (by omega)
  refine en_Mod_saidTo (d + 1) _ _ _ m (sg_Mod_saidTo_0 (zCall_m _) _ _ _ m (y_Mod_has _ _ (by omega) ⟨_, rfl, ?_⟩))
  rw [hV.2.2.2.2.1]
  have hst : ∀ c p, p < vN V → sW (st0 V c) p = if (c p && !bt (vD V) p) = true then some 0 else none := fun c p hp => by
    show (if (decide (p < vN V) && (c p && !bt (vD V) p)) = true then some 0 else none) = _
    rw [decide_eq_true hp, Bool.true_and]
  cases hdd : bt (vD V) one with
  | true =>
    refine iq (by decide) (h m (zsm_refl m) ?_)
    have e : ∀ p, p < vN V → sW (st0 V (fun p => decide (p = one) || b p)) p = sW (st0 V b) p := fun p hp => by
      rw [hst _ p hp, hst _ p hp]
      by_cases q : p = one
      · subst q
        rw [hdd]
        simp
      · rw [decide_eq_false q, Bool.false_or]
    refine ⟨fun p hp => ?_, fun p hp hz => hm.2 p hp (by rw [← e p hp]; exact hz)⟩
    rw [e p hp]
    exact hm.1 p hp
  | false =>
    refine ip rfl ⟨hin, hin, hin, ?_⟩
    rw [nI_clamp (by omega)]
    refine h _ (zsm_sI (zsm_sI (zsm_sI (zsm_refl m) (by unfold mP; omega) _) (by unfold mP; omega) _) (by unfold mP; omega) _) ⟨fun p hp => ?_, fun p hp hz => ?_⟩
    · have := hm.1 p hp
      simp only [gI_sI, show (128 : Nat) = 130 ↔ False by decide, show (128 : Nat) = 131 ↔ False by decide, show (129 : Nat) = 128 ↔ False by decide, show (129 : Nat) = 130 ↔ False by decide, show (129 : Nat) = 131 ↔ False by decide, show (133 : Nat) = 128 ↔ False by decide, show (133 : Nat) = 130 ↔ False by decide, show (133 : Nat) = 131 ↔ False by decide, show (132 : Nat) = 128 ↔ False by decide, show (132 : Nat) = 130 ↔ False by decide, show (132 : Nat) = 131 ↔ False by decide, false_and, if_false, true_and]
      refine ⟨?_, this.2⟩
      rw [hst _ p hp]
      by_cases e : p = one
      · subst e
        rw [if_pos rfl, decide_eq_true rfl, hdd]; rfl
      · rw [if_neg e, decide_eq_false e, Bool.false_or, this.1, hst _ p hp]
    · simp only [gI_sI, show (130 : Nat) = 128 ↔ False by decide, show (130 : Nat) = 131 ↔ False by decide, show (131 : Nat) = 128 ↔ False by decide, show (131 : Nat) = 130 ↔ False by decide, false_and, if_false, true_and]
      by_cases e : p = one
      · subst e
        rw [if_pos rfl, if_pos rfl]
        exact ⟨rfl, hwho⟩
      · rw [if_neg e, if_neg e]
        rw [hst _ p hp, decide_eq_false e, Bool.false_or] at hz
        exact hm.2 p hp (by rw [hst _ p hp]; exact hz)
theorem y_lay (d : Nat) {Q : zQ} {m : zM} {V : zV} (hV : vM m V) {one w0 : Nat} (ho : one < vN V) (h0 : w0 < 10000) (h : ∀ m', zsm mP m m' → mX m' V (vTakes V) w0 (fun _ => 0) (sT V (fun p => decide (p = one))) → Q none m') : zCall (d + 7) m_Mod_lay [.ref 113, .int (nI one), .int (nI w0)] m Q := by
  refine en_Mod_lay (d + 6) _ _ m (sg_Mod_lay_0 (zCall_m _) _ _ m (y_clearsC d hV fun m1 hs1 hm1 => ⟨rfl, ?_⟩))
  have hV1 := vM_mP hV hs1
  refine y_saidTo (d + 4) hV1 (mCl_X hm1 w0 (fun _ => 0)) ho rfl fun m2 hs2 hm2 => ⟨rfl, ?_⟩
  have hV2 := vM_mP hV1 hs2
  rw [show (fun p => decide (p = one) || false) = (fun p => decide (p = one)) from funext fun p => Bool.or_false _] at hm2
  exact y_spreadsC d hV2 (fun p hp => vTakes_b hV.1 hp) h0 hm2 fun m3 hs3 hm3 => ⟨rfl, h m3 (zsm_tr hs1 (zsm_tr hs2 hs3)) hm3⟩
theorem sT_wb {V : zV} (hw : vWf V) (b : Nat → Bool) : ∀ p x, sW (sT V b) p = some x → x ≤ 16680 := sJ_wb (sT_J hw b) hw.1
theorem y_whenOf (d : Nat) {Q : zQ} {m : zM} {V : zV} (hV : vM m V) {one other : Nat} (ho : one < vN V) (ho2 : other < vN V) (h : ∀ m', zsm mP m m' → Q (some (.int (e5 (sW (sT V (fun p => decide (p = one))) other)))) m') : zCall (d + 8) m_Mod_whenOf [.ref 113, .int (nI one), .int (nI other)] m Q := by
  have h8 := hV.1.1
  have hin : vp_in (nI other) 8 := vp_in_nI (by omega) (by omega)
  refine en_Mod_whenOf (d + 7) _ _ m (sg_Mod_whenOf_0 (zCall_m _) _ _ m (y_lay d hV (w0 := 0) ho (by omega) fun m1 hs1 hm1 => ⟨rfl, hin, ?_⟩))
  rw [nI_clamp (by omega), (hm1.1 other ho2).1]
  have h := h m1 hs1
  cases hw : sW (sT V (fun p => decide (p = one))) other with
  | none =>
    rw [hw] at h
    exact iq (by decide) h
  | some x =>
    rw [hw] at h
    have := sT_wb hV.1 _ other x hw
    exact ip (nI_pos' (n := x) (by omega)) ⟨hin, h⟩
