/-! listen of the reference -/
def mP2 (q : Nat) : Prop := 127 ≤ q ∧ q ≤ 135
theorem vM_2 {m m' : zM} {V : zV} (hV : vM m V) (hs : zsm mP2 m m') : vM m' V := vM_sm hV hs (fun q a b z => by unfold mP2 at z; omega)
def wt1 (V : zV) (w one p : Nat) : Int32 := e1 ((sW (s1 V one) p).map fun _ => wd1 V one w p)
def kM (m : zM) (V : zV) (w : Nat) (D : Nat → Nat → Prop) : Prop := ∀ o q, o < vN V → q < vN V → D o q → gI m 134 (8 * o + q) = e1 (sW (s1 V o) q) ∧ gI m 135 (8 * o + q) = wt1 V w o q
theorem kM_sm {P : Nat → Prop} {m m' : zM} {V : zV} {w : Nat} {D : Nat → Nat → Prop} (h : kM m V w D) (hs : zsm P m m') (hp : ¬ P 134) (hp2 : ¬ P 135) : kM m' V w D := fun o q a b c => ⟨((hs 134 hp).1 _).trans (h o q a b c).1, ((hs 135 hp2).1 _).trans (h o q a b c).2⟩
theorem e1_eq {a b : Option Nat} (ha : ∀ x, a = some x → x < 2 ^ 31) (hb : ∀ x, b = some x → x < 2 ^ 31) : e1 a = e1 b ↔ a = b := by
  cases b with
  | some y => exact e1_some ha (hb y rfl)
  | none =>
    cases a with
    | none => exact ⟨fun _ => rfl, fun _ => rfl⟩
    | some x => exact ⟨fun h => absurd h (nI_nn (ha x rfl) (by decide)), fun h => by cases h⟩
/-- told alike by hours and word -/
theorem key_eq {V : zV} (hw : vWf V) {w : Nat} (h0 : w < 10000) (o one p : Nat) : key V w o p = key V w one p ↔ (e1 (sW (s1 V o) p) = e1 (sW (s1 V one) p) ∧ wt1 V w o p = wt1 V w one p) := by
  have hb : ∀ r x, sW (s1 V r) p = some x → x < 2 ^ 31 := fun r x z => by have := sT_wb hw _ p x z; omega
  have hwb : ∀ r, wd1 V r w p < 10000 := fun r => wd1_b hw h0 p
  rw [e1_eq (hb o) (hb one)]
  unfold wt1 key
  cases h1 : sW (s1 V o) p with
  | none =>
    cases h2 : sW (s1 V one) p with
    | none => exact ⟨fun _ => ⟨rfl, rfl⟩, fun _ => rfl⟩
    | some y => exact ⟨fun h => (by cases h), fun h => (by cases h.1)⟩
  | some x =>
    cases h2 : sW (s1 V one) p with
    | none => exact ⟨fun h => (by cases h), fun h => (by cases h.1)⟩
    | some y =>
      have a1 := hwb o
      have a2 := hwb one
      show some (x * 10000 + wd1 V o w p) = some (y * 10000 + wd1 V one w p) ↔ (some x = some y ∧ nI (wd1 V o w p) = nI (wd1 V one w p))
      rw [nI_eq (by omega) (by omega), Option.some_inj, Option.some_inj]
      omega
theorem y_mlisB (d : Nat) {Q : zQ} {m : zM} {V : zV} (hV : vM m V) {w one : Nat} (h0 : w < 10000) (ho : one < vN V)
    (K : ∀ m', zsm mP2 m m' → kM m' V w (fun o _ => o < one + 1) → ∀ u, zle [.ref 113, .int (nI w), .int (nI (one + 1)), .retAddr 0, .retAddr 0, .retAddr 0, .retAddr 0, .retAddr 0, .retAddr 0] u → zRun (zCall d) 9 (some .int) zc_Mod_listen Q 13 u [] m') :
    ∀ j k m', k + j = vN V → zsm mP2 m m' → mX m' V (vTakes V) w (fun _ => 0) (s1 V one) → kM m' V w (fun o q => o < one ∨ (o = one ∧ q < k)) → zRun (zCall d) 9 (some .int) zc_Mod_listen Q 29 [.ref 113, .int (nI w), .int (nI one), .int (nI k), .retAddr 0, .retAddr 0, .retAddr 0, .retAddr 0, .retAddr 0] [] m'
  | 0, k, m', hk, hs, hm, hx => by
    have hV' := vM_2 hV hs
    have h8 := hV.1.1
    refine sg_Mod_listen_29 (zCall_m _) _ _ _ m' ?_
    rw [hV'.2.1]
    refine ip (nI_le (by omega) (by omega)) ?_
    rw [nI_1]
    exact K m' hs (fun o q a b c => hx o q a b (by omega)) _ (by repeat (first | exact zle_nil | apply zle_same | apply zle_new _ rfl))
  | j + 1, k, m', hk, hs, hm, hx => by
    have hV' := vM_2 hV hs
    have h8 := hV.1.1
    have hin : vp_in (nI k) 8 := vp_in_nI (by omega) (by omega)
    have hcl : (nI k).toNatClampNeg = k := nI_clamp (by omega)
    have hix : 8 * nI one + nI k = nI (8 * one + k) := by rw [show (8 : Int32) = nI 8 from rfl, pk_mul, nI_add]
    have hic : (nI (8 * one + k)).toNatClampNeg = 8 * one + k := nI_clamp (by omega)
    have hi2 : vp_in (nI (8 * one + k)) 64 := vp_in_nI (by omega) (by omega)
    have IH : ∀ x, x = wt1 V w one k → zRun (zCall d) 9 (some .int) zc_Mod_listen Q 29 [.ref 113, .int (nI w), .int (nI one), .int (nI (k + 1)), .retAddr 0, .retAddr 0, .retAddr 0, .retAddr 0, .retAddr 0] [] (sI (sI m' 134 (8 * one + k) (e1 (sW (s1 V one) k))) 135 (8 * one + k) x) := fun x ex => by
      have hs1 : zsm (fun q => q = 134 ∨ q = 135) m' (sI (sI m' 134 (8 * one + k) (e1 (sW (s1 V one) k))) 135 (8 * one + k) x) := zsm_sI (zsm_sI (zsm_refl m') (Or.inl rfl) _) (Or.inr rfl) _
      refine y_mlisB d hV h0 ho K j (k + 1) _ (by omega) (zsm_tr hs (zsm_mo (fun q z => by unfold mP2; omega) hs1)) ?_ (fun o q a b c => ?_)
      · refine ⟨fun p hp => ?_, fun p hp hn => ?_⟩
        · obtain ⟨a, b, c, e⟩ := hm.1 p hp
          exact ⟨((hs1 128 (by decide)).1 p).trans a, ((hs1 129 (by decide)).1 p).trans b, ((hs1 133 (by decide)).1 p).trans c, ((hs1 132 (by decide)).1 p).trans e⟩
        · obtain ⟨a, b⟩ := hm.2 p hp hn
          exact ⟨((hs1 130 (by decide)).1 p).trans a, ((hs1 131 (by decide)).1 p).trans b⟩
      · simp only [gI_sI, show (134 : Nat) = 135 ↔ False by decide, show (135 : Nat) = 134 ↔ False by decide, false_and, if_false, true_and]
        by_cases e : o = one ∧ q = k
        · rw [if_pos (by omega), if_pos (by omega), e.1, e.2]
          exact ⟨rfl, ex⟩
        · rw [if_neg (by omega), if_neg (by omega)]
          exact hx o q a b (by omega)
    have m128 : gI m' 128 k = e1 (sW (s1 V one) k) := (hm.1 k (by omega)).1
    refine sg_Mod_listen_29 (zCall_m _) _ _ _ m' ?_
    rw [hV'.2.1]
    refine iq (nI_ge (by omega) (by omega)) ⟨hin, ?_⟩
    rw [hix, hcl, hic, nI_1]
    refine ⟨hi2, hin, ?_⟩
    rw [show gI (sI m' 134 (8 * one + k) (gI m' 128 k)) 128 k = gI m' 128 k from rfl, show gI (sI m' 134 (8 * one + k) (gI m' 128 k)) 130 k = gI m' 130 k from rfl, m128]
    cases hy : sW (s1 V one) k with
    | none =>
      rw [hy] at IH
      refine iq (by decide) ⟨hi2, IH _ ?_⟩
      unfold wt1
      rw [hy]
      rfl
    | some x =>
      rw [hy] at IH
      have hxb := sT_wb hV.1 _ k x hy
      refine ip (nI_pos' (n := x) (by omega)) ⟨hin, hi2, IH _ ?_⟩
      rw [mX_wd hV.1 hm (by omega) (by rw [hy]; simp)]
      unfold wt1
      rw [hy]
      rfl
theorem y_mlisA (d : Nat) {Q : zQ} {m : zM} {V : zV} (hV : vM m V) {w : Nat} (h0 : w < 10000)
    (K : ∀ m', zsm mP2 m m' → kM m' V w (fun _ _ => True) → zRun (zCall (d + 7)) 9 (some .int) zc_Mod_listen Q 104 [.ref 113, .int (nI w), .int (-5), .int (nI 0), .int (nI 0), .retAddr 0, .retAddr 0, .retAddr 0, .retAddr 0] [] m') :
    ∀ j one m', one + j = vN V → zsm mP2 m m' → kM m' V w (fun o _ => o < one) → ∀ u, zle [.ref 113, .int (nI w), .int (nI one), .retAddr 0, .retAddr 0, .retAddr 0, .retAddr 0, .retAddr 0, .retAddr 0] u → zRun (zCall (d + 7)) 9 (some .int) zc_Mod_listen Q 13 u [] m'
  | 0, one, m', hk, hs, hx, u, hu => by
    have hV' := vM_2 hV hs
    have h8 := hV.1.1
    refine zRun_le (zCall_m _) hu (sg_Mod_listen_13 (zCall_m _) _ _ m' ?_)
    rw [hV'.2.1]
    exact ip (nI_le (by omega) (by omega)) (K m' hs (fun o q a b _ => hx o q a b (by omega)))
  | j + 1, one, m', hk, hs, hx, u, hu => by
    have hV' := vM_2 hV hs
    have h8 := hV.1.1
    refine zRun_le (zCall_m _) hu (sg_Mod_listen_13 (zCall_m _) _ _ m' ?_)
    rw [hV'.2.1]
    refine iq (nI_ge (by omega) (by omega)) (y_lay d hV' (one := one) (w0 := w) (by omega) h0 fun m2 hs2 hm2 => ⟨rfl, ?_⟩)
    have hs' := zsm_tr hs (zsm_mo (P' := mP2) (fun q z => by unfold mP at z; unfold mP2; omega) hs2)
    exact y_mlisB _ hV h0 (by omega) (fun m4 hs4 hx4 => y_mlisA d hV h0 K j (one + 1) m4 (by omega) hs4 hx4) (vN V) 0 m2 (Nat.zero_add _) hs' hm2 (fun o q a b c => kM_sm hx hs2 (by unfold mP; omega) (by unfold mP; omega) o q a b (by omega))
theorem y_munlB (d : Nat) {Q : zQ} {m : zM} {V : zV} (hV : vM m V) {w p one c : Nat} {v2 v3 : Int32} (h0 : w < 10000) (hp : p < vN V) (ho : one < vN V) (v1 : Int32) (hx : kM m V w (fun _ _ => True))
    (K : ∀ u, zle [.ref 113, .int v1, .int v2, .int v3, .int (nI p), .int (nI (c + (if (!knw V w p one one) = true then 1 else 0))), .int (nI (one + 1)), .retAddr 0, .retAddr 0] u → zRun (zCall d) 9 (some .int) zc_Mod_listen Q 119 u [] m) :
    ∀ j k, k + j = one → zRun (zCall d) 9 (some .int) zc_Mod_listen Q 134 [.ref 113, .int v1, .int v2, .int v3, .int (nI p), .int (nI c), .int (nI one), .int (zb (!knw V w p one k)), .int (nI k)] [] m
  | 0, k, hk => by
    have h8 := hV.1.1
    have e : k = one := by omega
    subst e
    refine sg_Mod_listen_134 (zCall_m _) _ _ _ _ _ _ _ _ m (ip (nI_le (by omega) (by omega)) ?_)
    rw [nI_1, nI_1]
    refine zb_c (fun z => ?_) (fun z => ?_)
    · rw [z] at K ⊢
      rw [Int32.add_zero]
      exact K _ (by repeat (first | exact zle_nil | apply zle_same | apply zle_new _ rfl))
    · rw [z] at K ⊢
      exact K _ (by repeat (first | exact zle_nil | apply zle_same | apply zle_new _ rfl))
  | j + 1, k, hk => by
    have h8 := hV.1.1
    have IH := y_munlB d hV h0 hp ho v1 hx K j (k + 1) (by omega)
    unfold knw at IH
    have i1 : 8 * nI k + nI p = nI (8 * k + p) := by rw [show (8 : Int32) = nI 8 from rfl, pk_mul, nI_add]
    have i2 : 8 * nI one + nI p = nI (8 * one + p) := by rw [show (8 : Int32) = nI 8 from rfl, pk_mul, nI_add]
    obtain ⟨x1, x2⟩ := hx k p (by omega) hp trivial
    obtain ⟨y1, y2⟩ := hx one p ho hp trivial
    have v1' : vp_in (nI (8 * k + p)) 64 := vp_in_nI (by omega) (by omega)
    have v2' : vp_in (nI (8 * one + p)) 64 := vp_in_nI (by omega) (by omega)
    refine sg_Mod_listen_134 (zCall_m _) _ _ _ _ _ _ _ _ m (iq (nI_ge (by omega) (by omega)) ?_)
    rw [i1, i2, nI_clamp (by omega), nI_clamp (by omega), x1, x2, y1, y2, nI_1]
    have he := key_eq hV.1 h0 k one p
    refine zb_c (fun z => ?_) (fun z => ?_)
    · have zz : knw V w p one k = true := by
        cases hk2 : knw V w p one k with
        | true => rfl
        | false => rw [hk2] at z; cases z
      rw [zz, Bool.true_or] at IH
      exact IH
    · have zz : knw V w p one k = false := by
        cases hk2 : knw V w p one k with
        | false => rfl
        | true => rw [hk2] at z; cases z
      rw [zz, Bool.false_or] at IH
      refine ⟨v1', v2', ?_⟩
      by_cases q1 : e1 (sW (s1 V k) p) = e1 (sW (s1 V one) p)
      · refine iq (fun z => z q1) ⟨v1', v2', ?_⟩
        by_cases q2 : wt1 V w k p = wt1 V w one p
        · rw [decide_eq_true (he.mpr ⟨q1, q2⟩)] at IH
          exact ip q2 IH
        · rw [decide_eq_false (fun z => q2 (he.mp z).2)] at IH
          exact iq q2 IH
      · rw [decide_eq_false (fun z => q1 (he.mp z).1)] at IH
        exact ip q1 IH
theorem y_munlA (d : Nat) {Q : zQ} {m : zM} {V : zV} (hV : vM m V) {w p : Nat} {v2 : Int32} {mo : Nat} (hmo : mo < 100) (h0 : w < 10000) (hp : p < vN V) (v1 : Int32) (hx : kM m V w (fun _ _ => True))
    (K : ∀ u, zle [.ref 113, .int v1, .int (if mo < unl V w p then nI p else v2), .int (nI (if mo < unl V w p then unl V w p else mo)), .int (nI (p + 1)), .retAddr 0, .retAddr 0, .retAddr 0, .retAddr 0] u → zRun (zCall d) 9 (some .int) zc_Mod_listen Q 104 u [] m) :
    ∀ j k, k + j = vN V → ∀ u, zle [.ref 113, .int v1, .int v2, .int (nI mo), .int (nI p), .int (nI (cnt (fun one => !knw V w p one one) k)), .int (nI k), .retAddr 0, .retAddr 0] u → zRun (zCall d) 9 (some .int) zc_Mod_listen Q 119 u [] m
  | 0, k, hk, u, hu => by
    have h8 := hV.1.1
    have hun : unl V w p ≤ 8 := Nat.le_trans (cnt_le _ _) h8
    refine zRun_le (zCall_m _) hu (sg_Mod_listen_119 (zCall_m _) _ _ _ _ _ _ m ?_)
    rw [hV.2.1]
    refine ip (nI_le (by omega) (by omega)) ?_
    rw [show k = vN V by omega, nI_1]
    show @ite Prop (nI mo < nI (unl V w p)) _ _ _
    by_cases e : mo < unl V w p
    · rw [if_pos e, if_pos e] at K
      exact ip (nI_lt e (by omega)) (K _ (by repeat (first | exact zle_nil | apply zle_same | apply zle_new _ rfl)))
    · rw [if_neg e, if_neg e] at K
      exact iq (nI_nlt (by omega) (by omega)) (K _ (by repeat (first | exact zle_nil | apply zle_same | apply zle_new _ rfl)))
  | j + 1, k, hk, u, hu => by
    have h8 := hV.1.1
    refine zRun_le (zCall_m _) hu (sg_Mod_listen_119 (zCall_m _) _ _ _ _ _ _ m ?_)
    rw [hV.2.1]
    exact iq (nI_ge (by omega) (by omega)) (y_munlB d hV h0 hp (by omega) v1 hx (fun u hu => y_munlA d hV hmo h0 hp v1 hx K j (k + 1) (by omega) u hu) k 0 (Nat.zero_add _))
theorem y_mlisC (d : Nat) {Q : zQ} {m : zM} {V : zV} (hV : vM m V) {w : Nat} (h0 : w < 10000) (v1 : Int32) (hx : kM m V w (fun _ _ => True)) (h : Q (some (.int (e5 (lsF (unl V w) (vN V)).1))) m) :
    ∀ j k, k + j = vN V → ∀ u, zle [.ref 113, .int v1, .int (e5 (lsF (unl V w) k).1), .int (nI (lsF (unl V w) k).2), .int (nI k), .retAddr 0, .retAddr 0, .retAddr 0, .retAddr 0] u → zRun (zCall d) 9 (some .int) zc_Mod_listen Q 104 u [] m
  | 0, k, hk, u, hu => by
    have h8 := hV.1.1
    refine zRun_le (zCall_m _) hu (sg_Mod_listen_104 (zCall_m _) _ _ _ _ m ?_)
    rw [hV.2.1]
    refine ip (nI_le (by omega) (by omega)) ?_
    rw [show k = vN V by omega]
    exact h
  | j + 1, k, hk, u, hu => by
    have h8 := hV.1.1
    have hun : ∀ p, unl V w p ≤ 8 := fun p => Nat.le_trans (cnt_le _ _) h8
    have h2 := lsF_2 hun k
    have IH := y_mlisC d hV h0 v1 hx h j (k + 1) (by omega)
    unfold lsF at IH
    refine zRun_le (zCall_m _) hu (sg_Mod_listen_104 (zCall_m _) _ _ _ _ m ?_)
    rw [hV.2.1]
    refine iq (nI_ge (by omega) (by omega)) ?_
    refine y_munlA d hV (mo := (lsF (unl V w) k).2) (p := k) (by omega) h0 (by omega) _ hx (fun u hu => IH u ?_) (vN V) 0 (Nat.zero_add _) _ (by repeat (first | exact zle_nil | apply zle_same | apply zle_new _ rfl))
    by_cases e : (lsF (unl V w) k).2 < unl V w k
    · rw [if_pos e, if_pos e] at hu
      rw [if_pos e]
      exact hu
    · rw [if_neg e, if_neg e] at hu
      rw [if_neg e]
      exact hu
theorem yM_listen (d : Nat) {Q : zQ} {m : zM} {V : zV} (hV : vM m V) (a : Int32) (h : ∀ m', zsm mP2 m m' → Q (some (.int (aListen V a))) m') : zCall (d + 8) m_Mod_listen [.ref 113, .int a] m Q := by
  have h8 := hV.1.1
  have hh := h m (zsm_refl m)
  unfold aListen at h hh
  refine en_Mod_listen (d + 7) _ m (sg_Mod_listen_0 (zCall_m _) _ m (y_Mod_isWord _ a ⟨_, rfl, zb_d (fun ha => ?_) (fun ha => ?_)⟩))
  · rw [ha] at hh; exact hh
  · rw [ha] at h
    simp only [if_true] at h
    clear hh
    obtain ⟨a1, a2⟩ := zr_k ha
    generalize a.toNatClampNeg = w at a1 a2 h
    subst a2
    refine y_mlisA d hV a1 (fun m2 hs2 hx2 => ?_) (vN V) 0 m (Nat.zero_add _) (zsm_refl m) (fun o q a b c => absurd c (Nat.not_lt_zero _)) _ (zle_refl _)
    exact y_mlisC _ (vM_2 hV hs2) a1 _ hx2 (h m2 hs2) (vN V) 0 (Nat.zero_add _) _ (zle_refl _)
