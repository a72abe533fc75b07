/-! questions: heard, by, right, last -/
theorem zr_d {x c : Int32} {n : Nat} (hc : c.toInt = (n : Int) - 1) {A B D : Prop} (hf : zr x n = false → A) (hf2 : zr x n = false → B) (ht : zr x n = true → D) : if x < 0 then A else if x ≤ c then D else B := by
  by_cases h1 : x < 0
  · rw [if_pos h1]; exact hf (zr_lo h1)
  · rw [if_neg h1]
    by_cases h2 : x ≤ c
    · rw [if_pos h2]
      refine ht (zr_in' hc h1 ?_)
      rw [Int32.lt_iff_toInt_lt]
      rw [Int32.le_iff_toInt_le] at h2
      omega
    · rw [if_neg h2]
      refine hf2 (zr_hi' hc ?_)
      rw [Int32.lt_iff_toInt_lt]
      rw [Int32.le_iff_toInt_le] at h2
      omega
theorem zb_c {c : Bool} {A B : Prop} (hf : c = false → A) (ht : c = true → B) : if zb c = 0 then A else B := by
  cases c with
  | false => exact ip rfl (hf rfl)
  | true => exact iq (by decide) (ht rfl)
theorem zb_d {c : Bool} {A B : Prop} (hf : c = false → B) (ht : c = true → A) : if ¬ zb c = 0 then A else B := by
  cases c with
  | false => exact iq (fun z => z rfl) (hf rfl)
  | true => exact ip (by decide) (ht rfl)
theorem zr_k {x : Int32} {n : Nat} (h : zr x n = true) : x.toNatClampNeg < n ∧ x = nI x.toNatClampNeg := by
  obtain ⟨k, h1, h2, rfl⟩ := zr_t h
  rw [nI_clamp h2]
  exact ⟨h1, rfl⟩
/-- a set of plants, told by bits -/
def yst (P : Nat → Bool) : Nat → Int32
  | 0 => 0
  | k + 1 => if P k = true then yst P k ||| z1 k else yst P k
theorem b_yst {P : Nat → Bool} : ∀ n, n ≤ 32 → ∀ i, i < 32 → bt (yst P n) i = (decide (i < n) && P i)
  | 0, _, i, _ => by
    unfold yst
    rw [b_0, decide_eq_false (by omega)]; rfl
  | k + 1, hk, i, hi => by
    have ih := b_yst (P := P) k (by omega) i hi
    unfold yst
    by_cases e : i = k
    · subst e
      rw [decide_eq_false (Nat.lt_irrefl i)] at ih
      rw [decide_eq_true (Nat.lt_succ_self i)]
      split
      · rename_i h
        rw [z1_or _ (by omega) hi, decide_eq_true rfl, h]; rfl
      · rename_i h
        rw [ih]
        cases hp : P i with
        | false => rfl
        | true => exact absurd hp h
    · have hd : decide (i < k + 1) = decide (i < k) := by
        by_cases l : i < k
        · rw [decide_eq_true l, decide_eq_true (by omega)]
        · rw [decide_eq_false l, decide_eq_false (by omega)]
      rw [hd]
      split
      · rw [z1_or _ (by omega) hi, decide_eq_false e, ih]; rfl
      · exact ih
theorem yst_or {P : Nat → Bool} {k : Nat} (h : P k = false) : yst P k ||| 0 = yst P (k + 1) := by
  show _ = if P k = true then yst P k ||| z1 k else yst P k
  rw [h]
  exact Int32.or_zero
theorem sT_in {V : zV} (hw : vWf V) (b : Nat → Bool) {p : Nat} (h : sW (sT V b) p ≠ none) : p ∈ sO (sT V b) := by
  have hJ := sT_J hw b
  have he : nxF (sW (sT V b)) (sD (sT V b)) (vN V) = none := rn_end (fun _ hp => vTakes_b hw hp) (vN V) (st0 V b) (sJ_0 V _ b) (Nat.zero_add _)
  have hp := (hJ.1 p h).1
  cases hd : sD (sT V b) p with
  | true => exact (hJ.2.1 p).mp hd
  | false => exact absurd (nxF_none he p hp hd) h
theorem sT_out {V : zV} (hw : vWf V) (b : Nat → Bool) {p : Nat} (h : p ∈ sO (sT V b)) : p < vN V ∧ ∃ x, sW (sT V b) p = some x := by
  have hJ := sT_J hw b
  have hd := (hJ.2.1 p).mpr h
  exact ⟨sJ_dn hJ hd, hJ.2.2.1 p hd⟩
theorem sT_fn {V : zV} (hw : vWf V) (b : Nat → Bool) {p : Nat} (h : sW (sT V b) p = none) : sF (sT V b) p = none := by
  cases hf : sF (sT V b) p with
  | none => rfl
  | some q => exact absurd h ((sT_J hw b).2.2.2.1 p q hf).2
def s1 (V : zV) (one : Nat) : zS := sT V (fun p => decide (p = one))
/-- the word that each has heard, when it is said to one -/
def wd1 (V : zV) (one w0 p : Nat) : Nat := spk V (sF (s1 V one)) w0 (sO (s1 V one)) p
theorem wd1_b {V : zV} (hw : vWf V) {one w0 : Nat} (h0 : w0 < 10000) (p : Nat) : wd1 V one w0 p < 10000 := spk_b hw h0 _ _
theorem mX_wd {m : zM} {V : zV} {one w0 : Nat} {w1 : Nat → Nat} (hw : vWf V) (h : mX m V (vTakes V) w0 w1 (s1 V one)) {p : Nat} (hp : p < vN V) (hn : sW (s1 V one) p ≠ none) : gI m 130 p = nI (wd1 V one w0 p) := by
  rw [(h.2 p hp hn).1]
  unfold wd1
  rw [spk_g]
  exact congrArg nI (gsp_pnd (sT_T hw (fun p => decide (p = one))) p (sT_in hw _ hn)).symm
theorem y_wordAt (d : Nat) {Q : zQ} {m : zM} {V : zV} {one w0 : Nat} (hw : vWf V) (h0 : w0 < 10000) (hs : hSaid m V (fun p => decide (p = one))) (hd : hWds m V (fun p => decide (p = one)) w0) {p : Nat} (hp : p < vN V) (h : Q (some (.int (e5 ((sW (s1 V one) p).map fun _ => wd1 V one w0 p)))) m) : zCall (d + 1) m_Hearing_wordAt [.ref 92, .int (nI p)] m Q := by
  have h8 := hw.1
  have hin : vp_in (nI p) 8 := vp_in_nI (by omega) (by omega)
  refine en_Hearing_wordAt d _ m (sg_Hearing_wordAt_0 (zCall_m _) _ m ⟨hin, ?_⟩)
  rw [nI_clamp (by omega), (hs.1.1 p hp).1]
  show @ite Prop (¬ e5 (sW (s1 V one) p) = -5) _ _ _
  cases hx : sW (s1 V one) p with
  | none =>
    rw [hx] at h
    exact iq (fun z => z rfl) h
  | some x =>
    rw [hx] at h
    have := sT_wb hw _ p x hx
    refine ip (e5_s (x := x) (by omega)) ⟨hin, ?_⟩
    rw [hd p (sT_in hw _ (by rw [show sW (sT V fun p => decide (p = one)) p = some x from hx]; simp))]
    exact h
/-! heard -/
def aHeard (V : zV) (a b c e : Int32) : Int32 := if zr a (vN V) = true then (if zr c (vN V) = true then (if zr e 3 = true then (if zr b 10000 = true then
  (if e.toNatClampNeg = 0 then e5 (sW (s1 V a.toNatClampNeg) c.toNatClampNeg) else if e.toNatClampNeg = 1 then e5 ((sW (s1 V a.toNatClampNeg) c.toNatClampNeg).map fun _ => wd1 V a.toNatClampNeg b.toNatClampNeg c.toNatClampNeg) else e5 (sF (s1 V a.toNatClampNeg) c.toNatClampNeg))
  else -2) else -1) else -1) else -1
theorem yX_heard (d : Nat) {Q : zQ} {m : zM} {V : zV} (hV : vX m 21 V) (a b c e : Int32) (h : ∀ m', zsm hP3 m m' → Q (some (.int (aHeard V a b c e))) m') : zCall (d + 8) m_Box_heard [.ref 20, .int a, .int b, .int c, .int e] m Q := by
  have h8 := hV.1.1
  unfold aHeard at h
  refine en_Box_heard (d + 7) _ _ _ _ m (sg_Box_heard_0 (zCall_m _) _ _ _ _ m (y_Hedge_has _ a hV.2.1 (by omega) ⟨_, rfl, zb_c (fun ha => ?_) (fun ha => y_Hedge_has _ c hV.2.1 (by omega) ⟨_, rfl, zb_c (fun hc => ?_) (fun hc => zr_d (n := 3) (by decide) (fun he => ?_) (fun he => ?_) (fun he => y_Box_isWord _ b ⟨_, rfl, zb_d (fun hb => ?_) (fun hb => ?_)⟩))⟩)⟩))
  · have := h m (zsm_refl m); rw [ha] at this; exact this
  · have := h m (zsm_refl m); rw [ha, hc] at this; exact this
  · have := h m (zsm_refl m); rw [ha, hc, he] at this; exact this
  · have := h m (zsm_refl m); rw [ha, hc, he] at this; exact this
  · have := h m (zsm_refl m); rw [ha, hc, he, hb] at this; exact this
  · rw [ha, hc, he, hb] at h
    simp only [if_true] at h
    obtain ⟨a1, a2⟩ := zr_k ha
    obtain ⟨b1, b2⟩ := zr_k hb
    obtain ⟨c1, c2⟩ := zr_k hc
    obtain ⟨e1, e2⟩ := zr_k he
    generalize a.toNatClampNeg = one at a1 a2 h
    generalize b.toNatClampNeg = w0 at b1 b2 h
    generalize c.toNatClampNeg = other at c1 c2 h
    generalize e.toNatClampNeg = what at e1 e2 h
    subst a2 b2 c2 e2
    have hin : vp_in (nI other) 8 := vp_in_nI (by omega) (by omega)
    refine en_Qu_hearingOf (d + 6) _ _ _ _ m (sg_Qu_hearingOf_0 (zCall_m _) _ _ _ _ m (y_say d hV (one := one) (w0 := w0) (by omega) b1 fun m' hs hsd hwd => ⟨rfl, ?_⟩))
    rw [nI_clamp (by omega)]
    have h := h m' hs
    rcases (show what = 0 ∨ what = 1 ∨ what = 2 by omega) with rfl | rfl | rfl
    · refine ip rfl ⟨hin, _, rfl, ?_⟩
      rw [(hsd.1.1 other c1).1]
      exact h
    · exact iq (by decide) (ip rfl (y_wordAt _ hV.1 b1 hsd hwd c1 ⟨_, rfl, _, rfl, h⟩))
    · refine iq (by decide) (iq (by decide) ⟨hin, _, rfl, ?_⟩)
      rw [(hsd.1.1 other c1).2]
      exact h
