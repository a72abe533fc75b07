/-! listen of the class -/
def key (V : zV) (w one p : Nat) : Option Nat := (sW (s1 V one) p).map fun x => x * 10000 + wd1 V one w p
def knw (V : zV) (w p one : Nat) : Nat → Bool
  | 0 => false
  | o + 1 => knw V w p one o || decide (key V w o p = key V w one p)
def unl (V : zV) (w p : Nat) : Nat := cnt (fun one => !knw V w p one one) (vN V)
def lsF (c : Nat → Nat) : Nat → Option Nat × Nat
  | 0 => (none, 0)
  | k + 1 => if (lsF c k).2 < c k then (some k, c k) else lsF c k
def aListen (V : zV) (a : Int32) : Int32 := if zr a 10000 = true then e5 (lsF (unl V a.toNatClampNeg) (vN V)).1 else -2
def hP4 (q : Nat) : Prop := hP3 q ∨ q = 91
theorem vX_4 {m m' : zM} {V : zV} (hV : vX m 21 V) (hs : zsm hP4 m m') : vX m' 21 V := vX_sm hV hs (fun q a b z => by unfold hP4 hP3 at z; omega) (fun q a b z => by unfold hP4 hP3 at z; omega)
theorem key_b {V : zV} (hw : vWf V) {w : Nat} (h0 : w < 10000) (one p x : Nat) (h : key V w one p = some x) : x < 2 ^ 28 := by
  unfold key at h
  cases hx : sW (s1 V one) p with
  | none => rw [hx] at h; cases h
  | some y =>
    rw [hx] at h
    have h1 := sT_wb hw _ p y hx
    have h2 := wd1_b hw (one := one) h0 p
    have h : some (y * 10000 + wd1 V one w p) = some x := h
    cases h
    omega
theorem e5_eq {a b : Option Nat} (ha : ∀ x, a = some x → x < 2 ^ 31) (hb : ∀ x, b = some x → x < 2 ^ 31) : e5 a = e5 b ↔ a = b := by
  cases b with
  | some y => exact e5_some ha (hb y rfl)
  | none =>
    cases a with
    | none => exact ⟨fun _ => rfl, fun _ => rfl⟩
    | some x => exact ⟨fun h => absurd h (e5_s (ha x rfl)), fun h => by cases h⟩
/-- what stands in the hearings, of those told by D -/
def kX (m : zM) (V : zV) (w : Nat) (D : Nat → Nat → Prop) : Prop := ∀ o q, o < vN V → q < vN V → D o q → gI m 91 (8 * q + o) = e5 (key V w o q)
theorem kX_sm {P : Nat → Prop} {m m' : zM} {V : zV} {w : Nat} {D : Nat → Nat → Prop} (h : kX m V w D) (hs : zsm P m m') (hp : ¬ P 91) : kX m' V w D := fun o q a b c => ((hs 91 hp).1 _).trans (h o q a b c)
theorem y_lisB (d : Nat) {Q : zQ} {m : zM} {V : zV} (hV : vX m 21 V) {w one : Nat} (h0 : w < 10000) (ho : one < vN V)
    (K : ∀ m', zsm hP4 m m' → hTk m' (vN V) (vTakes V) → kX m' V w (fun o _ => o < one + 1) → ∀ u, zle [.ref 90, .int (nI w), .int (nI (one + 1)), .retAddr 0, .retAddr 0, .retAddr 0] u → zRun (zCall (d + 1)) 4 (some .int) zc_Qu_bestListener Q 13 u [] m') :
    ∀ j k m', k + j = vN V → zsm hP4 m m' → hSaid m' V (fun p => decide (p = one)) → hWds m' V (fun p => decide (p = one)) w → kX m' V w (fun o q => o < one ∨ (o = one ∧ q < k)) → zRun (zCall (d + 1)) 4 (some .int) zc_Qu_bestListener Q 53 [.ref 90, .int (nI w), .int (nI one), .int (nI k), .retAddr 0, .retAddr 0] [] m'
  | 0, k, m', hk, hs, hsd, hwd, hx => by
    have hV' := vX_4 hV hs
    have h8 := hV.1.1
    refine sg_Qu_bestListener_53 (zCall_m _) _ _ _ m' ?_
    rw [hV'.2.1]
    refine ip (nI_le (by omega) (by omega)) ?_
    rw [nI_1]
    exact K m' hs hsd.2 (fun o q a b c => hx o q a b (by omega)) _ (by repeat (first | exact zle_nil | apply zle_same | apply zle_new _ rfl))
  | j + 1, k, m', hk, hs, hsd, hwd, hx => by
    have hV' := vX_4 hV hs
    have h8 := hV.1.1
    have hin : vp_in (nI k) 8 := vp_in_nI (by omega) (by omega)
    have hcl : (nI k).toNatClampNeg = k := nI_clamp (by omega)
    have hix : nI k * 8 + nI one = nI (8 * k + one) := by rw [show (8 : Int32) = nI 8 from rfl, pk_mul, nI_add, Nat.mul_comm]
    have IH : ∀ x, x = e5 (key V w one k) → zRun (zCall (d + 1)) 4 (some .int) zc_Qu_bestListener Q 53 [.ref 90, .int (nI w), .int (nI one), .int (nI (k + 1)), .retAddr 0, .retAddr 0] [] (sI m' 91 (8 * k + one) x) := fun x ex => by
      have hs1 : zsm (fun q => q = 91) m' (sI m' 91 (8 * k + one) x) := zsm_sI (P := fun q => q = 91) (zsm_refl m') (show (91 : Nat) = 91 from rfl) _
      refine y_lisB d hV h0 ho K j (k + 1) _ (by omega) (zsm_tr hs (zsm_mo (fun q z => Or.inr z) hs1)) ⟨hX_sm hs1 (by decide) (by decide) (by decide) (by decide) hsd.1, hTk_sm hs1 (by decide) hsd.2⟩ (fun p hp => ((hs1 97 (by decide)).1 p).trans (hwd p hp)) (fun o q a b c => ?_)
      rw [gI_sI]
      by_cases e : o = one ∧ q = k
      · rw [if_pos ⟨rfl, by omega⟩, e.1, e.2, ex]
      · rw [if_neg (fun z => e (by omega))]
        exact hx o q a b (by omega)
    have m94 : gI m' 94 k = e5 (sW (s1 V one) k) := (hsd.1.1 k (by omega)).1
    refine sg_Qu_bestListener_53 (zCall_m _) _ _ _ m' ?_
    rw [hV'.2.1]
    refine iq (nI_ge (by omega) (by omega)) ⟨hin, ?_⟩
    rw [hcl, m94, hix, nI_1 k, nI_clamp (by omega)]
    have hix2 : vp_in (nI (8 * k + one)) 64 := vp_in_nI (by omega) (by omega)
    unfold key at IH
    cases hy : sW (s1 V one) k with
    | none =>
      rw [hy] at IH
      exact iq (fun z => z rfl) ⟨hix2, IH _ rfl⟩
    | some x =>
      rw [hy] at IH
      have hxb := sT_wb hV.1 _ k x hy
      refine ip (e5_s (x := x) (by omega)) ⟨hin, y_wordAt d hV.1 h0 hsd hwd (p := k) (by omega) ⟨_, rfl, hix2, IH _ ?_⟩⟩
      rw [hy]
      show nI x * nI 10000 + nI (wd1 V one w k) = nI (x * 10000 + wd1 V one w k)
      rw [pk_mul, nI_add]
theorem y_lisA (d : Nat) {Q : zQ} {m : zM} {V : zV} (hV : vX m 21 V) {w : Nat} (h0 : w < 10000)
    (K : ∀ m', zsm hP4 m m' → kX m' V w (fun _ _ => True) → zRun (zCall (d + 5)) 4 (some .int) zc_Qu_bestListener Q 136 [.ref 90, .int (nI w), .int (-5), .int (nI 0), .int (nI 0), .retAddr 0] [] m') :
    ∀ j one m', one + j = vN V → zsm hP4 m m' → hTk m' (vN V) (vTakes V) → kX m' V w (fun o _ => o < one) → ∀ u, zle [.ref 90, .int (nI w), .int (nI one), .retAddr 0, .retAddr 0, .retAddr 0] u → zRun (zCall (d + 5)) 4 (some .int) zc_Qu_bestListener Q 13 u [] m'
  | 0, one, m', hk, hs, ht, hx, u, hu => by
    have hV' := vX_4 hV hs
    have h8 := hV.1.1
    refine zRun_le (zCall_m _) hu (sg_Qu_bestListener_13 (zCall_m _) _ _ m' ?_)
    rw [hV'.2.1]
    exact ip (nI_le (by omega) (by omega)) (K m' hs (fun o q a b _ => hx o q a b (by omega)))
  | j + 1, one, m', hk, hs, ht, hx, u, hu => by
    have hV' := vX_4 hV hs
    have h8 := hV.1.1
    refine zRun_le (zCall_m _) hu (sg_Qu_bestListener_13 (zCall_m _) _ _ m' ?_)
    rw [hV'.2.1]
    refine iq (nI_ge (by omega) (by omega)) (y_Box_bit _ _ ⟨_, rfl, y_sp1_21 (d + 1) hV' ht (one := one) (by omega) fun m2 hs2 hx2 => ⟨rfl, ?_⟩⟩)
    have hV2 := vX_sm hV' hs2 (fun q a b z => by unfold hP2 at z; omega) (fun q a b z => by unfold hP2 at z; omega)
    refine y_speakC (d + 1) hV2 (sT_J hV.1 (fun p => decide (p = one))) (sT_T hV.1 (fun p => decide (p = one))) h0 hx2 fun m3 hs3 hw3 => ⟨rfl, ?_⟩
    have ht2 := hTk_sm hs2 (by unfold hP2; omega) ht
    have ht3 := hTk_sm hs3 (by decide) ht2
    have hx3 : hX m3 (vN V) (s1 V one) := hX_sm hs3 (by decide) (by decide) (by decide) (by decide) hx2
    have hs' := zsm_tr hs (zsm_tr (zsm_mo (P' := hP4) (fun q z => by unfold hP2 at z; unfold hP4 hP3; omega) hs2) (zsm_mo (P' := hP4) (fun q z => by unfold hP4 hP3; omega) hs3))
    refine y_lisB (d + 4) hV h0 (by omega) (fun m4 hs4 ht4 hx4 => y_lisA d hV h0 K j (one + 1) m4 (by omega) hs4 ht4 hx4) (vN V) 0 m3 (Nat.zero_add _) hs' ⟨hx3, ht3⟩ hw3 (fun o q a b c => ?_)
    exact kX_sm (kX_sm hx hs2 (by unfold hP2; omega)) hs3 (by decide) o q a b (by omega)
theorem y_unlB (d : Nat) {Q : zQ} {m : zM} {V : zV} (hV : vX m 21 V) {w p one c : Nat} (h0 : w < 10000) (hp : p < vN V) (ho : one < vN V) (v1 : Int32) (hx : kX m V w (fun _ _ => True))
    (K : ∀ u, zle [.ref 90, .int v1, .int (nI (8 * p)), .int (nI (c + (if (!knw V w p one one) = true then 1 else 0))), .int (nI (one + 1)), .retAddr 0, .retAddr 0] u → zRun (zCall d) 4 (some .int) zc_Qu_unlikeHearings Q 10 u [] m) :
    ∀ j k, k + j = one → zRun (zCall d) 4 (some .int) zc_Qu_unlikeHearings Q 28 [.ref 90, .int v1, .int (nI (8 * p)), .int (nI c), .int (nI one), .int (zb (knw V w p one k)), .int (nI k)] [] m
  | 0, k, hk => by
    have h8 := hV.1.1
    have e : k = one := by omega
    subst e
    refine sg_Qu_unlikeHearings_28 (zCall_m _) _ _ _ _ _ _ m (ip (nI_le (by omega) (by omega)) ?_)
    rw [nI_1, nI_1]
    refine zb_c (fun z => ?_) (fun z => ?_)
    · rw [z] at K ⊢
      exact K _ (by repeat (first | exact zle_nil | apply zle_same | apply zle_new _ rfl))
    · rw [z] at K ⊢
      rw [Int32.add_zero]
      exact K _ (by repeat (first | exact zle_nil | apply zle_same | apply zle_new _ rfl))
  | j + 1, k, hk => by
    have h8 := hV.1.1
    have IH := y_unlB d hV h0 hp ho v1 hx K j (k + 1) (by omega)
    unfold knw at IH
    refine sg_Qu_unlikeHearings_28 (zCall_m _) _ _ _ _ _ _ m (iq (nI_ge (by omega) (by omega)) ?_)
    cases z : knw V w p one k with
    | true =>
      rw [z, Bool.true_or] at IH
      refine ip (by decide) ?_
      rw [nI_1]
      exact IH
    | false =>
      rw [z, Bool.false_or] at IH
      refine iq (by decide) ?_
      rw [nI_add, nI_add, nI_clamp (by omega), nI_clamp (by omega), hx k p (by omega) hp trivial, hx one p ho hp trivial, nI_1]
      refine ⟨vp_in_nI (by omega) (by omega), vp_in_nI (by omega) (by omega), ?_⟩
      have he := e5_eq (a := key V w k p) (b := key V w one p) (fun x z => by have := key_b hV.1 h0 _ _ x z; omega) (fun x z => by have := key_b hV.1 h0 _ _ x z; omega)
      by_cases e : key V w k p = key V w one p
      · rw [decide_eq_true e] at IH
        exact iq (fun z => z (he.mpr e)) IH
      · rw [decide_eq_false e] at IH
        exact ip (fun z => e (he.mp z)) IH
theorem y_unlA (d : Nat) {Q : zQ} {m : zM} {V : zV} (hV : vX m 21 V) {w p : Nat} (h0 : w < 10000) (hp : p < vN V) (v1 : Int32) (hx : kX m V w (fun _ _ => True)) (h : Q (some (.int (nI (unl V w p)))) m) :
    ∀ j k, k + j = vN V → ∀ u, zle [.ref 90, .int v1, .int (nI (8 * p)), .int (nI (cnt (fun one => !knw V w p one one) k)), .int (nI k), .retAddr 0, .retAddr 0] u → zRun (zCall d) 4 (some .int) zc_Qu_unlikeHearings Q 10 u [] m
  | 0, k, hk, u, hu => by
    have h8 := hV.1.1
    refine zRun_le (zCall_m _) hu (sg_Qu_unlikeHearings_10 (zCall_m _) _ _ _ _ m ?_)
    rw [hV.2.1]
    refine ip (nI_le (by omega) (by omega)) ?_
    rw [show k = vN V by omega]
    exact h
  | j + 1, k, hk, u, hu => by
    have h8 := hV.1.1
    refine zRun_le (zCall_m _) hu (sg_Qu_unlikeHearings_10 (zCall_m _) _ _ _ _ m ?_)
    rw [hV.2.1]
    exact iq (nI_ge (by omega) (by omega)) (y_unlB d hV h0 hp (by omega) v1 hx (fun u hu => y_unlA d hV h0 hp v1 hx h j (k + 1) (by omega) u hu) k 0 (Nat.zero_add _))
theorem lsF_b {c : Nat → Nat} : ∀ {n x : Nat}, (lsF c n).1 = some x → x < n
  | 0, _, h => by cases h
  | k + 1, x, h => by
    unfold lsF at h
    split at h
    · cases h; omega
    · have := lsF_b h; omega
theorem lsF_2 {c : Nat → Nat} {M : Nat} (hc : ∀ k, c k ≤ M) : ∀ n, (lsF c n).2 ≤ M
  | 0 => Nat.zero_le _
  | k + 1 => by
    unfold lsF
    split
    · exact hc k
    · exact lsF_2 hc k
theorem y_lisC (d : Nat) {Q : zQ} {m : zM} {V : zV} (hV : vX m 21 V) {w : Nat} (h0 : w < 10000) (v1 : Int32) (hx : kX m V w (fun _ _ => True)) (h : Q (some (.int (e5 (lsF (unl V w) (vN V)).1))) m) :
    ∀ j k, k + j = vN V → ∀ u, zle [.ref 90, .int v1, .int (e5 (lsF (unl V w) k).1), .int (nI (lsF (unl V w) k).2), .int (nI k), .retAddr 0] u → zRun (zCall (d + 1)) 4 (some .int) zc_Qu_bestListener Q 136 u [] m
  | 0, k, hk, u, hu => by
    have h8 := hV.1.1
    refine zRun_le (zCall_m _) hu (sg_Qu_bestListener_136 (zCall_m _) _ _ _ _ m ?_)
    rw [hV.2.1]
    refine ip (nI_le (by omega) (by omega)) ?_
    rw [show k = vN V by omega]
    exact h
  | j + 1, k, hk, u, hu => by
    have h8 := hV.1.1
    have hun : ∀ p, unl V w p ≤ 8 := fun p => Nat.le_trans (cnt_le _ _) h8
    have h2 := lsF_2 hun k
    have IH := y_lisC d hV h0 v1 hx h j (k + 1) (by omega)
    unfold lsF at IH
    refine zRun_le (zCall_m _) hu (sg_Qu_bestListener_136 (zCall_m _) _ _ _ _ m ?_)
    rw [hV.2.1]
    refine iq (nI_ge (by omega) (by omega)) (en_Qu_unlikeHearings d _ m (sg_Qu_unlikeHearings_0 (zCall_m _) _ m ?_))
    rw [show (8 : Int32) = nI 8 from rfl, pk_mul, Nat.mul_comm k 8]
    refine y_unlA d hV h0 (p := k) (by omega) _ hx ⟨_, rfl, ?_⟩ (vN V) 0 (Nat.zero_add _) _ (by repeat (first | exact zle_nil | apply zle_same | apply zle_new _ rfl))
    rw [nI_1]
    have hk8 := hun k
    by_cases e : (lsF (unl V w) k).2 < unl V w k
    · rw [if_pos e] at IH
      exact iq (nI_ge e (by omega)) (IH _ (by repeat (first | exact zle_nil | apply zle_same | apply zle_new _ rfl)))
    · rw [if_neg e] at IH
      exact ip (nI_le (by omega) (by omega)) (IH _ (by repeat (first | exact zle_nil | apply zle_same | apply zle_new _ rfl)))
theorem yX_listen (d : Nat) {Q : zQ} {m : zM} {V : zV} (hV : vX m 21 V) (a : Int32) (h : ∀ m', zsm hP4 m m' → Q (some (.int (aListen V a))) m') : zCall (d + 7) m_Box_listen [.ref 20, .int a] m Q := by
  have h8 := hV.1.1
  have hh := h m (zsm_refl m)
  unfold aListen at h hh
  refine en_Box_listen (d + 6) _ m (sg_Box_listen_0 (zCall_m _) _ m (y_Box_isWord _ a ⟨_, rfl, zb_d (fun ha => ?_) (fun ha => ?_)⟩))
  · rw [ha] at hh; exact hh
  · rw [ha] at h
    simp only [if_true] at h
    clear hh
    obtain ⟨a1, a2⟩ := zr_k ha
    generalize a.toNatClampNeg = w at a1 a2 h
    subst a2
    refine en_Qu_bestListener (d + 5) _ m (sg_Qu_bestListener_0 (zCall_m _) _ m (y_measureC_21 d hV fun m1 hs1 ht1 => ⟨rfl, ?_⟩))
    refine y_lisA d hV a1 (fun m2 hs2 hx2 => ?_) (vN V) 0 m1 (Nat.zero_add _) (zsm_mo (fun q z => by unfold hP4 hP3; omega) hs1) ht1 (fun o q a b c => absurd c (Nat.not_lt_zero _)) _ (zle_refl _)
    exact y_lisC (d + 4) (vX_4 hV hs2) a1 _ hx2 ⟨_, rfl, h m2 hs2⟩ (vN V) 0 (Nat.zero_add _) _ (zle_refl _)
