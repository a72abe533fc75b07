/-! who -/
def ff (f : Nat → Bool) : Nat → Option Nat
  | 0 => none
  | i + 1 => match ff f i with
    | some x => some x
    | none => if f i = true then some i else none
theorem ff_s {f : Nat → Bool} {i x : Nat} (h : ff f i = some x) : ff f (i + 1) = some x := by unfold ff; rw [h]
theorem ff_n {f : Nat → Bool} {i : Nat} (h : ff f i = none) (hf : f i = false) : ff f (i + 1) = none := by unfold ff; rw [h, hf]; rfl
theorem ff_y {f : Nat → Bool} {i : Nat} (h : ff f i = none) (hf : f i = true) : ff f (i + 1) = some i := by unfold ff; rw [h, hf]; rfl
theorem ff_up {f : Nat → Bool} {x : Nat} : ∀ {n i : Nat}, ff f i = some x → i ≤ n → ff f n = some x
  | 0, i, h, hi => by rw [show i = 0 by omega] at h; exact h
  | n + 1, i, h, hi => by
    by_cases e : i = n + 1
    · rw [← e]; exact h
    · exact ff_s (ff_up h (by omega))
theorem ff_b {f : Nat → Bool} : ∀ {n x : Nat}, ff f n = some x → x < n
  | 0, _, h => by cases h
  | n + 1, x, h => by
    unfold ff at h
    cases hn : ff f n with
    | some y => rw [hn] at h; cases h; have := ff_b hn; omega
    | none =>
      rw [hn] at h
      dsimp only at h
      split at h
      · cases h; omega
      · cases h
theorem ff_0 {f : Nat → Bool} : ∀ {n : Nat}, ff f n = none ↔ cnt f n = 0
  | 0 => ⟨fun _ => rfl, fun _ => rfl⟩
  | n + 1 => by
    have ih := ff_0 (f := f) (n := n)
    unfold ff cnt
    cases hn : ff f n with
    | some y =>
      rw [hn] at ih
      have : cnt f n ≠ 0 := fun z => by have := ih.mpr z; cases this
      constructor
      · intro h; cases h
      · intro h; omega
    | none =>
      rw [ih.mp hn]
      dsimp only
      cases hf : f n with
      | true => simp
      | false => simp
theorem cnt_no {f : Nat → Bool} {a : Nat} : ∀ k, (∀ i, i < k → f (a + i) = false) → cnt f (a + k) = cnt f a ∧ ff f (a + k) = ff f a
  | 0, _ => ⟨rfl, rfl⟩
  | k + 1, h => by
    obtain ⟨h1, h2⟩ := cnt_no (f := f) (a := a) k (fun i hi => h i (by omega))
    have hk := h k (by omega)
    constructor
    · show cnt f (a + k) + (if f (a + k) = true then 1 else 0) = _
      rw [hk, h1]; rfl
    · show (match ff f (a + k) with | some x => some x | none => if f (a + k) = true then some (a + k) else none) = _
      rw [hk, h2]
      cases ff f a <;> rfl
theorem e5_some {o : Option Nat} {e : Nat} (ho : ∀ x, o = some x → x < 2 ^ 31) (he : e < 2 ^ 31) : e5 o = nI e ↔ o = some e := by
  cases o with
  | none =>
    constructor
    · intro h; exact absurd h.symm (e5_s he)
    · intro h; cases h
  | some x =>
    have := ho x rfl
    constructor
    · intro h
      rw [(nI_eq this he).mp h]
    · intro h
      cases h
      rfl
theorem e1_some {o : Option Nat} {e : Nat} (ho : ∀ x, o = some x → x < 2 ^ 31) (he : e < 2 ^ 31) : e1 o = nI e ↔ o = some e := by
  cases o with
  | none =>
    constructor
    · intro h; exact absurd h.symm (nI_nn he (by decide))
    · intro h; cases h
  | some x =>
    have := ho x rfl
    constructor
    · intro h
      rw [(nI_eq this he).mp h]
    · intro h
      cases h
      rfl
def okT (V : zV) (R : zRw) (one : Nat) : Nat → Nat → Bool
  | 0, _ => true
  | j + 1, k => decide (sW (s1 V one) (rA R k) = some (rE R k)) && okT V R one j (k + 1)
def okW (V : zV) (R : zRw) (one w : Nat) : Nat → Nat → Bool
  | 0, _ => true
  | j + 1, k => decide (((sW (s1 V one) (rA R k)).map fun _ => wd1 V one w (rA R k)) = some (rB R k)) && okW V R one w j (k + 1)
def okB (V : zV) (R : zRw) (one w : Nat) : Nat → Nat → Bool
  | 0, _ => true
  | j + 1, k => (decide (sW (s1 V one) (rA R k) = some (rE R k)) && decide (((sW (s1 V one) (rA R k)).map fun _ => wd1 V one w (rA R k)) = some (rB R k))) && okB V R one w j (k + 1)
theorem okB_eq (V : zV) (R : zRw) (one w : Nat) : ∀ j k, okB V R one w j k = (okT V R one j k && okW V R one w j k)
  | 0, _ => rfl
  | j + 1, k => by
    unfold okB okT okW
    rw [okB_eq V R one w j (k + 1)]
    cases decide (sW (s1 V one) (rA R k) = some (rE R k)) <;> cases okT V R one j (k + 1) <;> simp
def fW (V : zV) (R : zRw) (i : Nat) : Bool := okB V R (i / 100) (i % 100) (rC R) 0
theorem fW_at (V : zV) (R : zRw) {one w : Nat} (h : w < 100) : fW V R (100 * one + w) = okB V R one w (rC R) 0 := by
  unfold fW
  rw [show (100 * one + w) / 100 = one by omega, show (100 * one + w) % 100 = w by omega]
def aWho (V : zV) (R : zRw) (a : Int32) : Int32 := if zr a 2 = true then (if a.toNatClampNeg = 0 then nI (cnt (fW V R) (100 * vN V)) else e5 (ff (fW V R) (100 * vN V))) else -1
theorem y_inTime (d : Nat) {Q : zQ} {m : zM} {V : zV} (hV : vWf V) {R : zRw} (hR : rX 8 27 m R) (hw : rW 5 8 (vN V) 10000 R) {one : Nat} (hx : hX m (vN V) (s1 V one)) :
    ∀ j k, k + j = rC R → Q (some (.int (zb (okT V R one j k)))) m → zRun (zCall (d + 1)) 4 (some .boolean) zc_Qu_isSeenInTime Q 2 [.ref 90, .int (nI k)] [] m
  | 0, k, hk, h => by
    have hc := hw.1
    refine sg_Qu_isSeenInTime_2 (zCall_m _) _ m ?_
    rw [hR.1]
    exact ip (nI_le (by omega) (by omega)) ⟨rfl, h⟩
  | j + 1, k, hk, h => by
    have hc := hw.1
    have h8 := hV.1
    obtain ⟨w1, w2, w3⟩ := hw.2 k (by omega)
    obtain ⟨r1, r2, r3⟩ := hR.2 k (by omega)
    have r1 : gI m 28 (3 * k) = nI (rA R k) := r1
    have r3 : gI m 28 (3 * k + 2) = nI (rE R k) := r3
    refine sg_Qu_isSeenInTime_2 (zCall_m _) _ m ?_
    rw [hR.1]
    refine iq (nI_ge (by omega) (by omega)) (y_cell_27 (i := 0) _ (by omega) (by omega) ⟨_, rfl, ?_⟩)
    show vp_in (gI m 28 (3 * k)) 8 ∧ zCall _ m_Rows_cell [.ref 27, .int (nI k), .int (nI 2)] m (fun o4 m5 => ∃ x6, o4 = some (.int x6) ∧ @ite Prop (gI m 94 (gI m 28 (3 * k)).toNatClampNeg = x6) _ _ _)
    rw [r1]
    refine ⟨vp_in_nI (by omega) (by omega), y_cell_27 (i := 2) _ (by omega) (by omega) ⟨_, rfl, ?_⟩⟩
    rw [r3, nI_clamp (by omega), (hx.1 (rA R k) w1).1, nI_1]
    have hb : ∀ x, sW (s1 V one) (rA R k) = some x → x < 2 ^ 31 := fun x z => by have := sT_wb hV _ _ x z; omega
    unfold okT at h
    by_cases e : sW (s1 V one) (rA R k) = some (rE R k)
    · rw [decide_eq_true e, Bool.true_and] at h
      exact ip ((e5_some hb (by omega)).mpr e) (y_inTime d hV hR hw hx j (k + 1) (by omega) h)
    · rw [decide_eq_false e, Bool.false_and] at h
      exact iq (fun z => e ((e5_some hb (by omega)).mp z)) ⟨rfl, h⟩
theorem y_asWords (d : Nat) {Q : zQ} {m : zM} {V : zV} (hV : vWf V) {R : zRw} (hR : rX 8 27 m R) (hw : rW 5 8 (vN V) 10000 R) {one w : Nat} (h0 : w < 10000) (hs : hSaid m V (fun p => decide (p = one))) (hd : hWds m V (fun p => decide (p = one)) w) :
    ∀ j k, k + j = rC R → Q (some (.int (zb (okW V R one w j k)))) m → zRun (zCall (d + 1)) 4 (some .boolean) zc_Qu_isSeenAsWords Q 2 [.ref 90, .int (nI k)] [] m
  | 0, k, hk, h => by
    have hc := hw.1
    refine sg_Qu_isSeenAsWords_2 (zCall_m _) _ m ?_
    rw [hR.1]
    exact ip (nI_le (by omega) (by omega)) ⟨rfl, h⟩
  | j + 1, k, hk, h => by
    have hc := hw.1
    have h8 := hV.1
    obtain ⟨w1, w2, w3⟩ := hw.2 k (by omega)
    have w2 := w2 (by omega)
    obtain ⟨r1, r2, r3⟩ := hR.2 k (by omega)
    have r1 : gI m 28 (3 * k) = nI (rA R k) := r1
    have r2 : gI m 28 (3 * k + 1) = nI (rB R k) := r2 (by omega)
    refine sg_Qu_isSeenAsWords_2 (zCall_m _) _ m ?_
    rw [hR.1]
    refine iq (nI_ge (by omega) (by omega)) (y_cell_27 (i := 0) _ (by omega) (by omega) ⟨_, rfl, ?_⟩)
    show zCall _ m_Hearing_wordAt [.ref 92, .int (gI m 28 (3 * k))] m _
    rw [r1]
    refine y_wordAt d hV h0 hs hd w1 ⟨_, rfl, y_cell_27 (i := 1) _ (by omega) (by omega) ⟨_, rfl, ?_⟩⟩
    rw [r2, nI_1]
    have hwb := wd1_b hV (one := one) h0 (rA R k)
    have hb : ∀ x, ((sW (s1 V one) (rA R k)).map fun _ => wd1 V one w (rA R k)) = some x → x < 2 ^ 31 := fun x z => by
      cases hx : sW (s1 V one) (rA R k) with
      | none => rw [hx] at z; cases z
      | some y => rw [hx] at z; cases z; exact Nat.lt_trans hwb (by decide)
    unfold okW at h
    by_cases e : ((sW (s1 V one) (rA R k)).map fun _ => wd1 V one w (rA R k)) = some (rB R k)
    · rw [decide_eq_true e, Bool.true_and] at h
      exact ip ((e5_some hb (by omega)).mpr e) (y_asWords d hV hR hw h0 hs hd j (k + 1) (by omega) h)
    · rw [decide_eq_false e, Bool.false_and] at h
      exact iq (fun z => e ((e5_some hb (by omega)).mp z)) ⟨rfl, h⟩
theorem cnt_1 (f : Nat → Bool) (k : Nat) (b : Bool) (h : f k = b) : cnt f (k + 1) = cnt f k + (if b = true then 1 else 0) := by
  rw [← h]
  rfl
theorem y_wayB (d : Nat) {Q : zQ} {m : zM} {V : zV} (hV : vX m 21 V) {R : zRw} (hR : rX 8 27 m R) (hw : rW 5 8 (vN V) 10000 R) {a one : Nat} (ha : a < 2) (ho : one < vN V) (hTy : okT V R one (rC R) 0 = true)
    (hend : a = 1 → ∀ i, i < 100 * vN V → ff (fW V R) i = none → fW V R i = true → ∀ m', zsm hP3 m m' → Q (some (.int (nI i))) m')
    (K : ∀ m', zsm hP3 m m' → hTk m' (vN V) (vTakes V) → (a = 1 → ff (fW V R) (100 * (one + 1)) = none) → ∀ u, zle [.ref 90, .int (nI a), .int (nI (if a = 0 then cnt (fW V R) (100 * (one + 1)) else 0)), .int (nI (one + 1)), .retAddr 0] u → zRun (zCall (d + 4)) 4 (some .int) zc_Qu_waysToHaveSaid Q 15 u [] m') :
    ∀ j k m', k + j = 100 → zsm hP3 m m' → hTk m' (vN V) (vTakes V) → hX m' (vN V) (s1 V one) → (a = 1 → ff (fW V R) (100 * one + k) = none) → zRun (zCall (d + 4)) 4 (some .int) zc_Qu_waysToHaveSaid Q 54 [.ref 90, .int (nI a), .int (nI (if a = 0 then cnt (fW V R) (100 * one + k) else 0)), .int (nI one), .int (nI k)] [] m'
  | 0, k, m', hk, hs, ht, hx, hn => by
    refine sg_Qu_waysToHaveSaid_54 (zCall_m _) _ _ _ _ m' (ip (nI_le (a := 100) (by omega) (by omega)) ?_)
    rw [nI_1, show k = 100 by omega]
    rw [show k = 100 by omega] at hn
    exact K m' hs ht hn _ (by repeat (first | exact zle_nil | apply zle_same | apply zle_new _ rfl))
  | j + 1, k, m', hk, hs, ht, hx, hn => by
    have hV' := vX_sm hV hs (fun q a b z => by unfold hP3 at z; omega) (fun q a b z => by unfold hP3 at z; omega)
    have hR' := rX_sm hR hs (by unfold hP3; omega) (by unfold hP3; omega)
    have h8 := hV.1.1
    have hc := hw.1
    have hcb := cnt_le (fW V R) (100 * one + k)
    refine sg_Qu_waysToHaveSaid_54 (zCall_m _) _ _ _ _ m' (iq (nI_ge (b := 100) (by omega) (by omega)) ?_)
    refine y_speakC d hV' (sT_J hV.1 (fun p => decide (p = one))) (sT_T hV.1 (fun p => decide (p = one))) (w0 := k) (by omega) hx fun m2 hs2 hw2 => ⟨rfl, ?_⟩
    have hx2 : hX m2 (vN V) (s1 V one) := hX_sm hs2 (by decide) (by decide) (by decide) (by decide) hx
    have ht2 := hTk_sm hs2 (by decide) ht
    have hs' := zsm_tr hs (zsm_mo (P' := hP3) (fun q z => by unfold hP3; omega) hs2)
    have hR2 := rX_sm hR' hs2 (by omega) (by omega)
    refine en_Qu_isSeenAsWords _ m2 (sg_Qu_isSeenAsWords_0 (zCall_m _) m2 (y_asWords _ hV.1 hR2 hw (w := k) (by omega) ⟨hx2, ht2⟩ hw2 (rC R) 0 (Nat.zero_add _) ⟨_, rfl, ?_⟩))
    have hf : fW V R (100 * one + k) = okW V R one k (rC R) 0 := by
      rw [fW_at V R (by omega), okB_eq, hTy, Bool.true_and]
    refine zb_d (fun z => ?_) (fun z => ?_)
    · rw [z] at hf
      rw [nI_1]
      have IH := y_wayB d hV hR hw ha ho hTy hend K j (k + 1) m2 (by omega) hs' ht2 hx2 (fun y => ff_n (hn y) hf)
      rw [← Nat.add_assoc, cnt_1 _ _ _ hf] at IH
      exact IH
    · rw [z] at hf
      rcases (show a = 0 ∨ a = 1 by omega) with rfl | rfl
      · refine ip rfl ?_
        have IH := y_wayB d hV hR hw ha ho hTy hend K j (k + 1) m2 (by omega) hs' ht2 hx2 (fun y => by cases y)
        rw [← Nat.add_assoc, cnt_1 _ _ _ hf] at IH
        rw [if_pos rfl] at IH ⊢
        rw [nI_1, nI_1]
        exact IH
      · refine iq (by decide) ?_
        have := hend rfl (100 * one + k) (by omega) (hn rfl) hf m2 hs'
        rw [show (100 : Int32) = nI 100 from rfl, pk_mul, nI_add]
        exact this
theorem y_wayA (d : Nat) {Q : zQ} {m : zM} {V : zV} (hV : vX m 21 V) {R : zRw} (hR : rX 8 27 m R) (hw : rW 5 8 (vN V) 10000 R) {a : Nat} (ha : a < 2)
    (h : ∀ m', zsm hP3 m m' → Q (some (.int (if a = 0 then nI (cnt (fW V R) (100 * vN V)) else e5 (ff (fW V R) (100 * vN V))))) m') :
    ∀ j one m', one + j = vN V → zsm hP3 m m' → hTk m' (vN V) (vTakes V) → (a = 1 → ff (fW V R) (100 * one) = none) → ∀ u, zle [.ref 90, .int (nI a), .int (nI (if a = 0 then cnt (fW V R) (100 * one) else 0)), .int (nI one), .retAddr 0] u → zRun (zCall (d + 4)) 4 (some .int) zc_Qu_waysToHaveSaid Q 15 u [] m'
  | 0, one, m', hk, hs, ht, hn, u, hu => by
    have hV' := vX_sm hV hs (fun q a b z => by unfold hP3 at z; omega) (fun q a b z => by unfold hP3 at z; omega)
    have h8 := hV.1.1
    have h := h m' hs
    refine zRun_le (zCall_m _) hu (sg_Qu_waysToHaveSaid_15 (zCall_m _) _ _ _ m' ?_)
    rw [hV'.2.1]
    refine ip (nI_le (by omega) (by omega)) ?_
    rw [show one = vN V by omega] at hn ⊢
    rcases (show a = 0 ∨ a = 1 by omega) with rfl | rfl
    · exact ip rfl h
    · rw [hn rfl] at h
      exact iq (by decide) h
  | j + 1, one, m', hk, hs, ht, hn, u, hu => by
    have hV' := vX_sm hV hs (fun q a b z => by unfold hP3 at z; omega) (fun q a b z => by unfold hP3 at z; omega)
    have hR' := rX_sm hR hs (by unfold hP3; omega) (by unfold hP3; omega)
    have h8 := hV.1.1
    refine zRun_le (zCall_m _) hu (sg_Qu_waysToHaveSaid_15 (zCall_m _) _ _ _ m' ?_)
    rw [hV'.2.1]
    refine iq (nI_ge (by omega) (by omega)) (y_Box_bit _ _ ⟨_, rfl, y_sp1_21 d hV' ht (one := one) (by omega) fun m2 hs2 hx2 => ⟨rfl, ?_⟩⟩)
    have hs' := zsm_tr hs (zsm_mo (P' := hP3) (fun q z => by unfold hP2 at z; unfold hP3; omega) hs2)
    have hR2 := rX_sm hR' hs2 (by unfold hP2; omega) (by unfold hP2; omega)
    have ht2 := hTk_sm hs2 (by unfold hP2; omega) ht
    have IH := fun m' => y_wayA d hV hR hw ha h j (one + 1) m' (by omega)
    refine en_Qu_isSeenInTime _ m2 (sg_Qu_isSeenInTime_0 (zCall_m _) m2 (y_inTime _ hV.1 hR2 hw hx2 (rC R) 0 (Nat.zero_add _) ⟨_, rfl, zb_d (fun z => ?_) (fun z => ?_)⟩))
    · rw [nI_1]
      have hz : ∀ i, i < 100 → fW V R (100 * one + i) = false := fun i hi => by
        rw [fW_at V R hi, okB_eq, z]; rfl
      obtain ⟨c1, c2⟩ := cnt_no 100 hz
      have IH := IH m2 hs' ht2 (fun y => by rw [show 100 * (one + 1) = 100 * one + 100 by omega, c2]; exact hn y)
      rw [show 100 * (one + 1) = 100 * one + 100 by omega, c1] at IH
      exact IH _ (zle_refl _)
    · refine y_wayB d hV hR hw ha (by omega) z (fun y i hi hfi hfy m3 hs3 => ?_) IH 100 0 m2 (Nat.zero_add _) hs' ht2 hx2 hn
      have h := h m3 hs3
      rw [if_neg (by omega), ff_up (ff_y hfi hfy) (by omega)] at h
      exact h
theorem yX_who (d : Nat) {Q : zQ} {m : zM} {V : zV} (hV : vX m 21 V) {R : zRw} (hR : rX 8 27 m R) (hw : rW 5 8 (vN V) 10000 R) (a : Int32) (h : ∀ m', zsm hP3 m m' → Q (some (.int (aWho V R a))) m') : zCall (d + 7) m_Box_who [.ref 20, .int a] m Q := by
  have h8 := hV.1.1
  have h0 := h m (zsm_refl m)
  unfold aWho at h h0
  refine en_Box_who (d + 6) _ m (sg_Box_who_0 (zCall_m _) _ m (zr_d (n := 2) (by decide) (fun ha => ?_) (fun ha => ?_) (fun ha => ?_)))
  · rw [ha] at h0; exact h0
  · rw [ha] at h0; exact h0
  · rw [ha] at h
    simp only [if_true] at h
    clear h0
    obtain ⟨a1, a2⟩ := zr_k ha
    generalize a.toNatClampNeg = w at a1 a2 h
    subst a2
    have go : ∀ w : Nat, w < 2 → (∀ m', zsm hP3 m m' → Q (some (.int (if w = 0 then nI (cnt (fW V R) (100 * vN V)) else e5 (ff (fW V R) (100 * vN V))))) m') → zCall (d + 6) m_Qu_waysToHaveSaid [.ref 90, .int (nI w)] m (fun o1 m2 => ∃ x3, o1 = some (.int x3) ∧ Q (some (.int x3)) m2) := fun w hw2 h => by
      refine en_Qu_waysToHaveSaid (d + 5) _ m (sg_Qu_waysToHaveSaid_0 (zCall_m _) _ m (y_measureC_21 d hV fun m1 hs1 ht1 => ⟨rfl, ?_⟩))
      have := y_wayA (d + 1) hV hR hw (Q := fun o1 m2 => ∃ x3, o1 = some (.int x3) ∧ Q (some (.int x3)) m2) hw2 (fun m' hs => ⟨_, rfl, h m' hs⟩) (vN V) 0 m1 (Nat.zero_add _) (zsm_mo (fun q z => by unfold hP3; omega) hs1) ht1 (fun _ => rfl) [.ref 90, .int (nI w), .int (nI 0), .int (nI 0), .retAddr 0]
      refine this ?_
      rw [show (if w = 0 then cnt (fW V R) (100 * 0) else 0) = 0 by split <;> rfl]
      exact zle_refl _
    rcases (show w = 0 ∨ w = 1 by omega) with rfl | rfl
    · exact ip (by decide) (go 0 (by omega) h)
    · exact iq (fun z => z rfl) (go 1 (by omega) h)
