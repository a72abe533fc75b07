/-! plant -/
def vPl (V : zV) (k v : Nat) : zV := (vN V + 1, fun j => if j = vN V then k else vK V j, fun j => if j = vN V then v else vV V j, fun j => if j = vN V then 0 else vT V j, fun j => if 4 * vN V ≤ j then 0 else vR V j, vD V, vHr V, vG V)
theorem ybl_up {x : Int32} {n : Nat} (h : ybl x n) : ybl x (n + 1) := fun i hi z => Nat.lt_succ_of_lt (h i hi z)
theorem vPl_w {V : zV} (hw : vWf V) {k v : Nat} (hn : vN V < 8) (hk : k < 7) (hv : v ≤ 9) : vWf (vPl V k v) := by
  obtain ⟨w1, w2, w3, w4, w5, w6⟩ := hw
  refine ⟨hn, fun j hj => ?_, fun j hj => ?_, ybl_up w4, w5, w6⟩
  · show (if j = vN V then k else vK V j) < 7 ∧ (if j = vN V then v else vV V j) ≤ 9 ∧ ybl (if j = vN V then 0 else vT V j) (vN V + 1)
    have hj : j < vN V + 1 := hj
    by_cases e : j = vN V
    · rw [if_pos e, if_pos e, if_pos e]
      exact ⟨hk, hv, ybl_0 _⟩
    · rw [if_neg e, if_neg e, if_neg e]
      obtain ⟨a, b, c⟩ := w2 j (by omega)
      exact ⟨a, b, ybl_up c⟩
  · show (if 4 * vN V ≤ j then 0 else vR V j) ≤ 9
    split
    · omega
    · exact w3 j (by omega)
theorem b_nand {x : Int32} {p : Nat} (hp : p < 32) (h : bt x p = false) : x &&& (z1 p ^^^ (-1)) = x := by
  apply b_ext
  intro i hi
  rw [b_and, b_xor, b_m1 i hi, b_z1 p hp i hi]
  by_cases e : i = p
  · subst e
    rw [h]
    rfl
  · rw [decide_eq_false e]
    simp
theorem y_mpl (d : Nat) {Q : zQ} {n : Nat} (hn : n < 8) (a b : Int32) :
    ∀ j k m', k + j = 4 → gI m' 113 0 = nI n → (∀ m'', zsm (fun q => q = 117) m' m'' → (∀ i, 4 * n + k ≤ i → i < 4 * n + 4 → gI m'' 117 i = 0) → (∀ i, i < 4 * n + k → gI m'' 117 i = gI m' 117 i) → Q (some (.int (nI n))) (sI m'' 113 0 (nI (n + 1)))) → zRun (zCall d) 9 (some .int) zc_Mod_plant Q 88 [.ref 113, .int a, .int b, .int (nI k)] [] m'
  | 0, k, m', hk, h0, h => by
    have e : k = 4 := by omega
    subst e
    refine sg_Mod_plant_88 (zCall_m _) _ _ _ m' (ip (by decide) ?_)
    rw [h0, nI_1, show gI (sI m' 113 0 (nI (n + 1))) 113 0 = nI (n + 1) from rfl, nI_pred]
    exact h m' (zsm_refl m') (fun i a b => by omega) (fun i _ => rfl)
  | j + 1, k, m', hk, h0, h => by
    refine sg_Mod_plant_88 (zCall_m _) _ _ _ m' (iq (nI_ge (b := 4) (by omega) (by decide)) ?_)
    rw [h0, show (4 : Int32) = nI 4 from rfl, pk_mul, nI_add, nI_clamp (by omega), nI_1]
    refine ⟨vp_in_nI (by omega) (by omega), y_mpl d hn a b j (k + 1) _ (by omega) h0 fun m2 hs h1 h2 => ?_⟩
    refine h m2 (zsm_tr (zsm_sI (P := fun q => q = 117) (zsm_refl m') (show (117 : Nat) = 117 from rfl) _) hs) (fun i a b => ?_) (fun i a => ?_)
    · by_cases e : i = 4 * n + k
      · rw [h2 i (by omega), gI_sI, if_pos ⟨rfl, e⟩]
      · exact h1 i (by omega) b
    · rw [h2 i (by omega), gI_sI, if_neg (fun z => by omega)]
theorem rH_plant {m mF : zM} {V : zV} (h : rHedge m V) {k v : Nat} (hn : vN V < 8) (hk : k < 7) (hv : v ≤ 9) (hf : zfr hdP hdK m mF) (a1 : gI mF 21 0 = nI (vN V + 1)) (a2 : ∀ j, gI mF 22 j = if j = vN V then nI k else gI m 22 j) (a3 : ∀ j, gI mF 23 j = if j = vN V then nI v else gI m 23 j) (a4 : ∀ j, gI mF 24 j = gI m 24 j) (a5 : ∀ j, gI mF 25 j = gI m 25 j) (a6 : gI mF 21 5 = gI m 21 5) (a7 : gI mF 21 6 = gI m 21 6)
    (b1 : gI mF 113 0 = nI (vN V + 1)) (b2 : ∀ j, gI mF 114 j = if j = vN V then nI k else gI m 114 j) (b3 : ∀ j, gI mF 115 j = if j = vN V then nI v else gI m 115 j) (b4 : ∀ j, gI mF 116 j = if j = vN V then 0 else gI m 116 j) (b5 : ∀ j, j < 4 * vN V + 4 → gI mF 117 j = if 4 * vN V ≤ j then 0 else gI m 117 j) (b6 : gI mF 113 2 = gI m 113 2) (b7 : gI mF 113 1 = gI m 113 1) (hg : gG mF 21 = gG m 21) : rHedge mF (vPl V k v) := by
  obtain ⟨⟨hw, x1, x2, x3, x4, x5, x6, x7⟩, ⟨_, y1, y2, y3, y4, y5, y6, y7⟩, hh, z1', z2⟩ := h
  have hw' := vPl_w hw hn hk hv
  refine ⟨⟨hw', a1, fun j hj => ?_, fun j hj => ?_, a6.trans x4, a7.trans x5, hg.trans x6, fun g G e => gX_sm (x7 g G e) hf.1 (fun q a b z => by have := (hw.2.2.2.2.2 g G e).1; unfold hdP at z; omega)⟩, ⟨hw', b1, fun j hj => ?_, fun j hj => ?_, b6.trans y4, b7.trans y5, (hf.2 8 (by unfold hdK; omega)).trans y6, fun g G e => gMo_f (y7 g G e) hf (fun q a b z => by unfold hdP at z; omega)⟩, hh, fun j hj h8 => ?_, fun j hj h8 => ?_⟩
  · have hj : j < vN V + 1 := hj
    show gI mF 22 j = nI (if j = vN V then k else vK V j) ∧ gI mF 23 j = nI (if j = vN V then v else vV V j) ∧ gI mF 24 j = (if j = vN V then 0 else vT V j)
    rw [a2, a3, a4]
    by_cases e : j = vN V
    · rw [if_pos e, if_pos e, if_pos e, if_pos e, if_pos e]
      exact ⟨rfl, rfl, z1' j (by omega) (by omega)⟩
    · rw [if_neg e, if_neg e, if_neg e, if_neg e, if_neg e]
      exact x2 j (by omega)
  · have hj : j < 4 * (vN V + 1) := hj
    show gI mF 25 j = nI (if 4 * vN V ≤ j then 0 else vR V j)
    rw [a5]
    by_cases e : 4 * vN V ≤ j
    · rw [if_pos e]; exact z2 j e (by omega)
    · rw [if_neg e]; exact x3 j (by omega)
  · have hj : j < vN V + 1 := hj
    show gI mF 114 j = nI (if j = vN V then k else vK V j) ∧ gI mF 115 j = nI (if j = vN V then v else vV V j) ∧ gI mF 116 j = (if j = vN V then 0 else vT V j)
    rw [b2, b3, b4]
    by_cases e : j = vN V
    · rw [if_pos e, if_pos e, if_pos e, if_pos e, if_pos e, if_pos e]
      exact ⟨rfl, rfl, rfl⟩
    · rw [if_neg e, if_neg e, if_neg e, if_neg e, if_neg e, if_neg e]
      exact y2 j (by omega)
  · have hj : j < 4 * (vN V + 1) := hj
    show gI mF 117 j = nI (if 4 * vN V ≤ j then 0 else vR V j)
    rw [b5 j (by omega)]
    by_cases e : 4 * vN V ≤ j
    · rw [if_pos e, if_pos e]; rfl
    · rw [if_neg e, if_neg e]; exact y3 j (by omega)
  · have hj : vN V + 1 ≤ j := hj
    rw [a4]; exact z1' j (by omega) h8
  · have hj : 4 * (vN V + 1) ≤ j := hj
    rw [a5]; exact z2 j (by omega) h8
theorem yM_plant {Q : zQ} {m : zM} {n k v : Nat} {D : Int32} (hn : n < 8) (hk : k < 7) (hv : v < 10) (g0 : gI m 113 0 = nI n) (gd : gI m 113 2 = D) (hd : bt D n = false)
    (h : ∀ m2, zsm (fun q => q = 117) (sI (sI (sI (sI m 114 n (nI k)) 115 n (nI v)) 116 n 0) 113 2 D) m2 → (∀ i, 4 * n ≤ i → i < 4 * n + 4 → gI m2 117 i = 0) → (∀ i, i < 4 * n → gI m2 117 i = gI (sI (sI (sI (sI m 114 n (nI k)) 115 n (nI v)) 116 n 0) 113 2 D) 117 i) → Q (some (.int (nI n))) (sI m2 113 0 (nI (n + 1)))) : zCall 50 m_Mod_plant [.ref 113, .int (nI k), .int (nI v)] m Q := by
  have hin : vp_in (nI n) 8 := vp_in_nI hn (by omega)
  refine en_Mod_plant 49 _ _ _ (sg_Mod_plant_0 (zCall_m _) _ _ _ (y_Mod_in _ _ _ (n := 7) (by decide) ⟨_, rfl, ?_⟩))
  rw [zr_nI hk (by omega)]
  refine ip (by decide) (y_Mod_in _ _ _ (n := 10) (by decide) ⟨_, rfl, ?_⟩)
  rw [zr_nI hv (by omega)]
  refine ip (by decide) ?_
  simp only [gI_sI, Nat.reduceEqDiff, false_and, if_false, g0, gd]
  refine ip (nI_ne (b := 8) (by omega) (by decide) (by omega)) ?_
  rw [nI_clamp (by omega), show D &&& (((1 : Int32) <<< (nI n &&& 31)) ^^^ (-1)) = D from b_nand (by omega) hd]
  exact ⟨hin, hin, hin, y_mpl 49 hn _ _ 4 0 _ rfl g0 h⟩
def plC (m : zM) (n : Nat) (x y z D : Int32) : zM := sI (sI (sI (sI (sI (sI (sI m 22 n x) 23 n y) 21 0 z) 114 n x) 115 n y) 116 n 0) 113 2 D
theorem plC_f (m : zM) (n : Nat) (x y z D : Int32) : zfr hdP hdK m (plC m n x y z D) :=
  zfr_k (zfr_sI (zfr_sI (zfr_sI (zfr_sI (zfr_sI (zfr_sI (zfr_refl m) (by unfold hdP; omega) (by omega) _) (by unfold hdP; omega) (by omega) _) (by unfold hdP; omega) (by omega) _) (by unfold hdP; omega) (by omega) _) (by unfold hdP; omega) (by omega) _) (by unfold hdP; omega) (by omega) _) (by unfold hdK; omega) _
theorem plC_21 (m : zM) (n : Nat) (x y z D : Int32) : gI (plC m n x y z D) 21 0 = z ∧ gI (plC m n x y z D) 21 5 = gI m 21 5 ∧ gI (plC m n x y z D) 21 6 = gI m 21 6 := ⟨rfl, rfl, rfl⟩
theorem plC_j (m : zM) (n : Nat) (x y z D : Int32) (j : Nat) : gI (plC m n x y z D) 22 j = (if j = n then x else gI m 22 j) ∧ gI (plC m n x y z D) 23 j = (if j = n then y else gI m 23 j) ∧ gI (plC m n x y z D) 24 j = gI m 24 j ∧ gI (plC m n x y z D) 25 j = gI m 25 j ∧ gI (plC m n x y z D) 114 j = (if j = n then x else gI m 114 j) ∧ gI (plC m n x y z D) 115 j = (if j = n then y else gI m 115 j) ∧ gI (plC m n x y z D) 116 j = (if j = n then 0 else gI m 116 j) ∧ gI (plC m n x y z D) 117 j = gI m 117 j := by
  unfold plC
  refine ⟨?_, ?_, ?_, ?_, ?_, ?_, ?_, ?_⟩ <;> simp only [gI_sI, Nat.reduceEqDiff, false_and, if_false, true_and]
theorem rH_plF {m m2 : zM} {V : zV} (h : rHedge m V) {k v : Nat} (hn : vN V < 8) (hk : k < 7) (hv : v ≤ 9) (hs : zsm (fun q => q = 117) (plC m (vN V) (nI k) (nI v) (nI (vN V + 1)) (vD V)) m2) (c1 : ∀ i, 4 * vN V ≤ i → i < 4 * vN V + 4 → gI m2 117 i = 0) (c2 : ∀ i, i < 4 * vN V → gI m2 117 i = gI (plC m (vN V) (nI k) (nI v) (nI (vN V + 1)) (vD V)) 117 i) :
    zfr hdP hdK m (sI m2 113 0 (nI (vN V + 1))) ∧ rHedge (sI m2 113 0 (nI (vN V + 1))) (vPl V k v) := by
  have F2 : zfr hdP hdK m (sI m2 113 0 (nI (vN V + 1))) := zfr_k (zfr_tr (plC_f m _ _ _ _ _) (zfr_of hs (fun q z => by unfold hdP; omega) (by omega))) (by unfold hdK; omega) _
  have t21 := plC_21 m (vN V) (nI k) (nI v) (nI (vN V + 1)) (vD V)
  have tj := plC_j m (vN V) (nI k) (nI v) (nI (vN V + 1)) (vD V)
  have t113 : gI (plC m (vN V) (nI k) (nI v) (nI (vN V + 1)) (vD V)) 113 2 = vD V := rfl
  have t114 : gI (plC m (vN V) (nI k) (nI v) (nI (vN V + 1)) (vD V)) 113 1 = gI m 113 1 := rfl
  have tG : gG (plC m (vN V) (nI k) (nI v) (nI (vN V + 1)) (vD V)) 21 = gG m 21 := rfl
  generalize plC m (vN V) (nI k) (nI v) (nI (vN V + 1)) (vD V) = mc at hs c1 c2 t21 tj t113 t114 tG
  have u : ∀ q, q ≠ 117 → q ≠ 113 → ∀ j, gI (sI m2 113 0 (nI (vN V + 1))) q j = gI mc q j := fun q h1 h2 j => by
    rw [gI_sI, if_neg (fun z => h2 z.1), (hs q h1).1]
  refine ⟨F2, rH_plant h hn hk hv F2 ((u 21 (by omega) (by omega) 0).trans t21.1) (fun j => (u 22 (by omega) (by omega) j).trans (tj j).1) (fun j => (u 23 (by omega) (by omega) j).trans (tj j).2.1) (fun j => (u 24 (by omega) (by omega) j).trans (tj j).2.2.1) (fun j => (u 25 (by omega) (by omega) j).trans (tj j).2.2.2.1) ((u 21 (by omega) (by omega) 5).trans t21.2.1) ((u 21 (by omega) (by omega) 6).trans t21.2.2) ?_ (fun j => (u 114 (by omega) (by omega) j).trans (tj j).2.2.2.2.1) (fun j => (u 115 (by omega) (by omega) j).trans (tj j).2.2.2.2.2.1) (fun j => (u 116 (by omega) (by omega) j).trans (tj j).2.2.2.2.2.2.1) (fun j hj => ?_) ?_ ?_ ((hs 21 (by omega)).2.2.trans tG)⟩
  · rw [gI_sI, if_pos ⟨rfl, rfl⟩]
  · rw [gI_sI, if_neg (fun z => by omega)]
    by_cases e : 4 * vN V ≤ j
    · rw [if_pos e]; exact c1 j e hj
    · rw [if_neg e, c2 j (by omega)]; exact (tj j).2.2.2.2.2.2.2
  · rw [gI_sI, if_neg (fun z => by omega), (hs 113 (by omega)).1, t113]
    exact h.2.1.2.2.2.2.1.symm
  · rw [gI_sI, if_neg (fun z => by omega), (hs 113 (by omega)).1, t114]
theorem ok_plant {m : zM} (hR : Rel m) (a b : Int32) : okI m_Box_plant m_Mod_plant [.int a, .int b] m := by
  intro Q hQ
  have h0 := hQ m hR
  obtain ⟨V, hH, hr⟩ := Rel_o hR
  have hH' := hH
  obtain ⟨hX, hM, hh, hz1, hz2⟩ := hH
  have h8 := hX.1.1
  have M1 : zr a 7 = false → zCall 50 m_Mod_plant [.ref 113, .int a, .int b] m (fun o2 m2 => ∃ y, o2 = some (.int y) ∧ ((-1 : Int32) = y ∧ Q m2)) := fun ha => by
    refine en_Mod_plant 49 _ _ m (sg_Mod_plant_0 (zCall_m _) _ _ m (y_Mod_in _ a _ (n := 7) (by decide) ⟨_, rfl, ?_⟩))
    rw [ha]; exact iq (fun z => z rfl) ⟨_, rfl, rfl, h0⟩
  have M2 : zr b 10 = false → zr a 7 = true → zCall 50 m_Mod_plant [.ref 113, .int a, .int b] m (fun o2 m2 => ∃ y, o2 = some (.int y) ∧ ((-2 : Int32) = y ∧ Q m2)) := fun hb ha => by
    refine en_Mod_plant 49 _ _ m (sg_Mod_plant_0 (zCall_m _) _ _ m (y_Mod_in _ a _ (n := 7) (by decide) ⟨_, rfl, ?_⟩))
    rw [ha]
    refine ip (by decide) (y_Mod_in _ b _ (n := 10) (by decide) ⟨_, rfl, ?_⟩)
    rw [hb]; exact iq (fun z => z rfl) ⟨_, rfl, rfl, h0⟩
  have hlt : ∀ {x : Int32} {A D : Prop}, (zr x 7 = false → A) → (zr x 7 = true → D) → if x < 0 then A else if x < 7 then D else A := fun {x A D} hf ht => by
    by_cases h1 : x < 0
    · exact ip h1 (hf (zr_lo h1))
    · refine iq h1 ?_
      by_cases h2 : x < 7
      · exact ip h2 (ht (zr_in (n := 7) (c := 7) (by decide) h1 (fun z => by rw [Int32.le_iff_toInt_le] at z; rw [Int32.lt_iff_toInt_lt] at h2; omega)))
      · exact iq h2 (hf (zr_hi (n := 7) (c := 7) (by decide) (by rw [Int32.le_iff_toInt_le]; rw [Int32.lt_iff_toInt_lt] at h2; omega)))
  refine en_Box_plant 49 _ _ m (sg_Box_plant_0 (zCall_m _) _ _ m (hlt (fun ha => ⟨_, rfl, M1 ha⟩) (fun ha => zr_d (n := 10) (by decide) (fun hb => ⟨_, rfl, M2 hb ha⟩) (fun hb => ⟨_, rfl, M2 hb ha⟩) (fun hb => ?_))))
  have ha' := ha
  have hb' := hb
  obtain ⟨a1, a2⟩ := zr_k ha
  obtain ⟨b1, b2⟩ := zr_k hb
  generalize a.toNatClampNeg = k at a1 a2
  generalize b.toNatClampNeg = v at b1 b2
  subst a2 b2
  refine en_Hedge_add 48 _ _ m (sg_Hedge_add_0 (zCall_m _) _ _ m ?_)
  rw [hX.2.1]
  by_cases l : vN V < 8
  · have hin : vp_in (nI (vN V)) 8 := vp_in_nI l (by omega)
    refine ip (nI_lt (b := 8) l (by decide)) ⟨hin, hin, _, rfl, _, rfl, ?_⟩
    rw [nI_clamp (by omega), show gI (sI (sI m 22 (vN V) (nI k)) 23 (vN V) (nI v)) 21 0 = nI (vN V) from hX.2.1, nI_1]
    have hd : bt (vD V) (vN V) = false := by
      cases hz : bt (vD V) (vN V) with
      | false => rfl
      | true => exact absurd (hX.1.2.2.2.1 (vN V) (by omega) hz) (Nat.lt_irrefl _)
    refine yM_plant (D := vD V) l a1 b1 hM.2.1 hM.2.2.2.2.1 hd fun m2 hs c1 c2 => ⟨_, rfl, rfl, hQ _ ?_⟩
    obtain ⟨F2, F3⟩ := rH_plF hH' l a1 (by omega) hs c1 c2
    exact Rel_hd hr F2 F3 (Nat.le_succ _) rfl
  · have e8 : vN V = 8 := by omega
    refine iq (nI_nlt (b := 8) (by omega) (by omega)) ⟨_, rfl, _, rfl, ?_⟩
    refine en_Mod_plant 49 _ _ _ (sg_Mod_plant_0 (zCall_m _) _ _ _ (y_Mod_in _ _ _ (n := 7) (by decide) ⟨_, rfl, ?_⟩))
    rw [ha']
    refine ip (by decide) (y_Mod_in _ _ _ (n := 10) (by decide) ⟨_, rfl, ?_⟩)
    rw [hb']
    refine ip (by decide) ?_
    rw [hM.2.1, e8]
    exact iq (fun z => z rfl) ⟨_, rfl, rfl, h0⟩
