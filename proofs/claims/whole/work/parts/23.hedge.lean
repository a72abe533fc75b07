/-! a hedge: what stands in it, and what each of its plants does (gen23.py) -/
/-- the same but where P says -/
def zsm (P : Nat → Prop) (m m' : zM) : Prop := ∀ q, ¬ P q → (∀ k, gI m' q k = gI m q k) ∧ (∀ k, gL m' q k = gL m q k) ∧ gG m' q = gG m q
theorem zsm_refl {P : Nat → Prop} (m : zM) : zsm P m m := fun _ _ => ⟨fun _ => rfl, fun _ => rfl, rfl⟩
theorem zsm_tr {P : Nat → Prop} {m m1 m2 : zM} (h : zsm P m m1) (h2 : zsm P m1 m2) : zsm P m m2 := fun q hq =>
  ⟨fun k => ((h2 q hq).1 k).trans ((h q hq).1 k), fun k => ((h2 q hq).2.1 k).trans ((h q hq).2.1 k), (h2 q hq).2.2.trans (h q hq).2.2⟩
theorem zsm_mo {P P' : Nat → Prop} {m m1 : zM} (hp : ∀ q, P q → P' q) (h : zsm P m m1) : zsm P' m m1 := fun q hq => h q (fun z => hq (hp q z))
theorem zsm_sI {P : Nat → Prop} {m m1 : zM} (h : zsm P m m1) {p k : Nat} (hp : P p) (x : Int32) : zsm P m (sI m1 p k x) := fun q hq =>
  ⟨fun j => (if_neg (fun (z : q = p ∧ j = k) => hq (z.1 ▸ hp))).trans ((h q hq).1 j), (h q hq).2.1, (h q hq).2.2⟩
theorem zsm_sL {P : Nat → Prop} {m m1 : zM} (h : zsm P m m1) {p k : Nat} (hp : P p) (x : Int64) : zsm P m (sL m1 p k x) := fun q hq =>
  ⟨(h q hq).1, fun j => (if_neg (fun (z : q = p ∧ j = k) => hq (z.1 ▸ hp))).trans ((h q hq).2.1 j), (h q hq).2.2⟩
theorem zsm_sG {P : Nat → Prop} {m m1 : zM} (h : zsm P m m1) {p : Nat} (hp : P p) (x : Option Nat) : zsm P m (sG m1 p x) := fun q hq =>
  ⟨(h q hq).1, (h q hq).2.1, (if_neg (fun (z : q = p) => hq (z ▸ hp))).trans (h q hq).2.2⟩
theorem zsm_cpI {P : Nat → Prop} {m m1 : zM} (h : zsm P m m1) {a i b j n : Nat} (hp : P b) : zsm P m (cpI m1 a i b j n) := fun q hq =>
  ⟨fun k => (by rw [gI_cpI, if_neg (fun (z : q = b) => hq (z ▸ hp))] : gI (cpI m1 a i b j n) q k = gI m1 q k).trans ((h q hq).1 k), (h q hq).2.1, (h q hq).2.2⟩
theorem zsm_cpL {P : Nat → Prop} {m m1 : zM} (h : zsm P m m1) {a i b j n : Nat} (hp : P b) : zsm P m (cpL m1 a i b j n) := fun q hq =>
  ⟨(h q hq).1, fun k => (by rw [gL_cpL, if_neg (fun (z : q = b) => hq (z ▸ hp))] : gL (cpL m1 a i b j n) q k = gL m1 q k).trans ((h q hq).2.1 k), (h q hq).2.2⟩
/-- how many bits -/
def popF : Nat → Int32 → Nat
  | 0, _ => 0
  | f + 1, x => if x = 0 then 0 else popF f (x &&& (x - 1)) + 1
def pop (x : Int32) : Nat := popF 9 x
def popO : Nat → Int32 → Bool
  | 0, _ => false
  | f + 1, x => if x = 0 then true else popO f (x &&& (x - 1))
theorem popO_8 : ∀ k, k < 256 → popO 9 (nI k) = true := by decide +kernel
theorem pop_9 : ∀ k, k < 256 → pop (nI k) ≤ 8 := by decide +kernel
/-- bits only below n -/
def ybl (x : Int32) (n : Nat) : Prop := ∀ i, i < 32 → bt x i = true → i < n
theorem bt_of {k i : Nat} (hk : k < 2 ^ 32) : bt (nI k) i = k.testBit i := by
  unfold bt
  show (BitVec.ofNat 32 k).getLsbD i = _
  rw [BitVec.getLsbD_ofNat]
  by_cases h : i < 32
  · rw [decide_eq_true h, Bool.true_and]
  · rw [decide_eq_false h, Bool.false_and, Nat.testBit_lt_two_pow (Nat.lt_of_lt_of_le hk (Nat.pow_le_pow_right (by omega) (by omega)))]
theorem ybl_nI {x : Int32} {n : Nat} (h : ybl x n) (hn : n ≤ 8) : ∃ k, k < 2 ^ n ∧ k < 256 ∧ x = nI k := by
  have hx : x = nI x.toBitVec.toNat := by
    apply Int32.toBitVec_inj.1
    show x.toBitVec = BitVec.ofNat 32 x.toBitVec.toNat
    simp
  have hk : x.toBitVec.toNat < 2 ^ n := by
    apply Nat.lt_pow_two_of_testBit
    intro i hi
    by_cases h32 : i < 32
    · cases hb : x.toBitVec.toNat.testBit i with
      | false => rfl
      | true => exact absurd (h i h32 (by rw [hx, bt_of x.toBitVec.isLt]; exact hb)) (by omega)
    · exact Nat.testBit_lt_two_pow (Nat.lt_of_lt_of_le x.toBitVec.isLt (Nat.pow_le_pow_right (by omega) (by omega)))
  exact ⟨_, hk, Nat.lt_of_lt_of_le hk (Nat.pow_le_pow_right (n := 2) (by omega) hn), hx⟩
theorem pop_b {x : Int32} {n : Nat} (h : ybl x n) (hn : n ≤ 8) : pop x ≤ 8 := by
  obtain ⟨k, _, hk, rfl⟩ := ybl_nI h hn
  exact pop_9 k hk
def bcF (a : Int32) : Int32 := ((((((((a - (((a.toUInt32 >>> ((1 : Int32).toUInt32 &&& Int32.toUInt32 31)).toInt32) &&& (1431655765 : Int32))) &&& (858993459 : Int32)) + ((((a - (((a.toUInt32 >>> ((1 : Int32).toUInt32 &&& Int32.toUInt32 31)).toInt32) &&& (1431655765 : Int32))).toUInt32 >>> ((2 : Int32).toUInt32 &&& Int32.toUInt32 31)).toInt32) &&& (858993459 : Int32))) + (((((a - (((a.toUInt32 >>> ((1 : Int32).toUInt32 &&& Int32.toUInt32 31)).toInt32) &&& (1431655765 : Int32))) &&& (858993459 : Int32)) + ((((a - (((a.toUInt32 >>> ((1 : Int32).toUInt32 &&& Int32.toUInt32 31)).toInt32) &&& (1431655765 : Int32))).toUInt32 >>> ((2 : Int32).toUInt32 &&& Int32.toUInt32 31)).toInt32) &&& (858993459 : Int32))).toUInt32 >>> ((4 : Int32).toUInt32 &&& Int32.toUInt32 31)).toInt32)) &&& (252645135 : Int32)) + (((((((a - (((a.toUInt32 >>> ((1 : Int32).toUInt32 &&& Int32.toUInt32 31)).toInt32) &&& (1431655765 : Int32))) &&& (858993459 : Int32)) + ((((a - (((a.toUInt32 >>> ((1 : Int32).toUInt32 &&& Int32.toUInt32 31)).toInt32) &&& (1431655765 : Int32))).toUInt32 >>> ((2 : Int32).toUInt32 &&& Int32.toUInt32 31)).toInt32) &&& (858993459 : Int32))) + (((((a - (((a.toUInt32 >>> ((1 : Int32).toUInt32 &&& Int32.toUInt32 31)).toInt32) &&& (1431655765 : Int32))) &&& (858993459 : Int32)) + ((((a - (((a.toUInt32 >>> ((1 : Int32).toUInt32 &&& Int32.toUInt32 31)).toInt32) &&& (1431655765 : Int32))).toUInt32 >>> ((2 : Int32).toUInt32 &&& Int32.toUInt32 31)).toInt32) &&& (858993459 : Int32))).toUInt32 >>> ((4 : Int32).toUInt32 &&& Int32.toUInt32 31)).toInt32)) &&& (252645135 : Int32)).toUInt32 >>> ((8 : Int32).toUInt32 &&& Int32.toUInt32 31)).toInt32)) + ((((((((a - (((a.toUInt32 >>> ((1 : Int32).toUInt32 &&& Int32.toUInt32 31)).toInt32) &&& (1431655765 : Int32))) &&& (858993459 : Int32)) + ((((a - (((a.toUInt32 >>> ((1 : Int32).toUInt32 &&& Int32.toUInt32 31)).toInt32) &&& (1431655765 : Int32))).toUInt32 >>> ((2 : Int32).toUInt32 &&& Int32.toUInt32 31)).toInt32) &&& (858993459 : Int32))) + (((((a - (((a.toUInt32 >>> ((1 : Int32).toUInt32 &&& Int32.toUInt32 31)).toInt32) &&& (1431655765 : Int32))) &&& (858993459 : Int32)) + ((((a - (((a.toUInt32 >>> ((1 : Int32).toUInt32 &&& Int32.toUInt32 31)).toInt32) &&& (1431655765 : Int32))).toUInt32 >>> ((2 : Int32).toUInt32 &&& Int32.toUInt32 31)).toInt32) &&& (858993459 : Int32))).toUInt32 >>> ((4 : Int32).toUInt32 &&& Int32.toUInt32 31)).toInt32)) &&& (252645135 : Int32)) + (((((((a - (((a.toUInt32 >>> ((1 : Int32).toUInt32 &&& Int32.toUInt32 31)).toInt32) &&& (1431655765 : Int32))) &&& (858993459 : Int32)) + ((((a - (((a.toUInt32 >>> ((1 : Int32).toUInt32 &&& Int32.toUInt32 31)).toInt32) &&& (1431655765 : Int32))).toUInt32 >>> ((2 : Int32).toUInt32 &&& Int32.toUInt32 31)).toInt32) &&& (858993459 : Int32))) + (((((a - (((a.toUInt32 >>> ((1 : Int32).toUInt32 &&& Int32.toUInt32 31)).toInt32) &&& (1431655765 : Int32))) &&& (858993459 : Int32)) + ((((a - (((a.toUInt32 >>> ((1 : Int32).toUInt32 &&& Int32.toUInt32 31)).toInt32) &&& (1431655765 : Int32))).toUInt32 >>> ((2 : Int32).toUInt32 &&& Int32.toUInt32 31)).toInt32) &&& (858993459 : Int32))).toUInt32 >>> ((4 : Int32).toUInt32 &&& Int32.toUInt32 31)).toInt32)) &&& (252645135 : Int32)).toUInt32 >>> ((8 : Int32).toUInt32 &&& Int32.toUInt32 31)).toInt32)).toUInt32 >>> ((16 : Int32).toUInt32 &&& Int32.toUInt32 31)).toInt32)) &&& (63 : Int32))
set_option maxRecDepth 100000 in
theorem bcF_pop : ∀ k, k < 256 → bcF (nI k) = nI (pop (nI k)) := by decide +kernel
theorem y_bitCount (d : Nat) {Q : zQ} {m : zM} {x : Int32} {n : Nat} (hx : ybl x n) (hn : n ≤ 8) (h : Q (some (.int (nI (pop x)))) m) : zCall (d + 1) m_Int_bitCount [.int x] m Q := by
  refine en_Int_bitCount d x m (sg_Int_bitCount_0 (zCall_m d) x m ?_)
  show Q (some (.int (bcF x))) m
  obtain ⟨k, _, hk, rfl⟩ := ybl_nI hx hn
  rw [bcF_pop k hk]
  exact h
theorem y_ones (d : Nat) {Q : zQ} {m : zM} (v1 : Int32) : ∀ (f : Nat) (x : Int32) (a : Nat), popO f x = true → Q (some (.int (nI (a + popF f x)))) m → zRun (zCall d) 9 (some .int) zc_Mod_ones Q 4 [.ref 113, .int v1, .int (nI a), .int x] [] m
  | 0, _, _, h, _ => by cases h
  | f + 1, x, a, ho, h => by
    refine sg_Mod_ones_4 (zCall_m d) _ _ _ m ?_
    unfold popO at ho
    unfold popF at h
    by_cases hz : x = 0
    · rw [if_pos hz] at h
      exact ip hz h
    · rw [if_neg hz] at h ho
      refine iq hz ?_
      rw [nI_1]
      refine y_ones d v1 f _ _ ho ?_
      rw [Nat.add_assoc, Nat.add_comm 1]
      exact h
theorem y_onesC (d : Nat) {Q : zQ} {m : zM} {x : Int32} {n : Nat} (hx : ybl x n) (hn : n ≤ 8) (h : Q (some (.int (nI (pop x)))) m) : zCall (d + 1) m_Mod_ones [.ref 113, .int x] m Q := by
  refine en_Mod_ones d x m (sg_Mod_ones_0 (zCall_m d) x m ?_)
  obtain ⟨k, _, hk, rfl⟩ := ybl_nI hx hn
  exact y_ones d _ 9 _ 0 (popO_8 k hk) (by rw [Nat.zero_add]; exact h)
/-- plants, kinds, values, touches, rows, the dead, the hour, the garden that holds and its place -/
abbrev zV : Type := Nat × (Nat → Nat) × (Nat → Nat) × (Nat → Int32) × (Nat → Nat) × Int32 × Nat × Option (Nat × zG)
def vN (V : zV) : Nat := V.1
def vK (V : zV) : Nat → Nat := V.2.1
def vV (V : zV) : Nat → Nat := V.2.2.1
def vT (V : zV) : Nat → Int32 := V.2.2.2.1
def vR (V : zV) : Nat → Nat := V.2.2.2.2.1
def vD (V : zV) : Int32 := V.2.2.2.2.2.1
def vHr (V : zV) : Nat := V.2.2.2.2.2.2.1
def vG (V : zV) : Option (Nat × zG) := V.2.2.2.2.2.2.2
def vWf (V : zV) : Prop := vN V ≤ 8 ∧ (∀ j, j < vN V → vK V j < 7 ∧ vV V j ≤ 9 ∧ ybl (vT V j) (vN V)) ∧ (∀ j, j < 4 * vN V → vR V j ≤ 9) ∧ ybl (vD V) (vN V) ∧ vHr V ≤ 10047 ∧ (∀ g G, vG V = some (g, G) → g < 6 ∧ gWf G)
def vX (m : zM) (h : Nat) (V : zV) : Prop := vWf V ∧ gI m h 0 = nI (vN V) ∧ (∀ j, j < vN V → gI m (h + 1) j = nI (vK V j) ∧ gI m (h + 2) j = nI (vV V j) ∧ gI m (h + 3) j = vT V j) ∧ (∀ j, j < 4 * vN V → gI m (h + 4) j = nI (vR V j)) ∧ gI m h 5 = vD V ∧ gI m h 6 = nI (vHr V) ∧ gG m h = (vG V).map (fun x => 58 + 5 * x.1) ∧ (∀ g G, vG V = some (g, G) → gX m (58 + 5 * g) G)
theorem gX_sm {P : Nat → Prop} {m m' : zM} {p : Nat} {G : zG} (h : gX m p G) (hs : zsm P m m') (hp : ∀ q, p ≤ q → q ≤ p + 4 → ¬ P q) : gX m' p G := by
  obtain ⟨h1, h2, h3, h4⟩ := h
  have e : ∀ q, p ≤ q → q ≤ p + 4 → ∀ k, gI m' q k = gI m q k := fun q a b k => (hs q (hp q a b)).1 k
  refine ⟨(e p (by omega) (by omega) 2).trans h1, (e p (by omega) (by omega) 0).trans h2, (e p (by omega) (by omega) 1).trans h3, fun k hk => ?_⟩
  obtain ⟨a, b, c, f⟩ := h4 k hk
  exact ⟨(e _ (by omega) (by omega) k).trans a, (e _ (by omega) (by omega) k).trans b, (e _ (by omega) (by omega) k).trans c, fun j hj => (e _ (by omega) (by omega) j).trans (f j hj)⟩
theorem vX_sm {P : Nat → Prop} {m m' : zM} {h : Nat} {V : zV} (hV : vX m h V) (hs : zsm P m m') (hp : ∀ q, h ≤ q → q ≤ h + 4 → ¬ P q) (hg : ∀ q, 58 ≤ q → q < 88 → ¬ P q) : vX m' h V := by
  obtain ⟨h0, h1, h2, h3, h4, h5, h6, h7⟩ := hV
  have e : ∀ q, h ≤ q → q ≤ h + 4 → ∀ k, gI m' q k = gI m q k := fun q a b k => (hs q (hp q a b)).1 k
  refine ⟨h0, (e h (by omega) (by omega) 0).trans h1, fun j hj => ?_, fun j hj => (e _ (by omega) (by omega) j).trans (h3 j hj), (e h (by omega) (by omega) 5).trans h4, (e h (by omega) (by omega) 6).trans h5, (hs h (hp h (by omega) (by omega))).2.2.trans h6, fun g G e2 => ?_⟩
  · obtain ⟨a, b, c⟩ := h2 j hj
    exact ⟨(e _ (by omega) (by omega) j).trans a, (e _ (by omega) (by omega) j).trans b, (e _ (by omega) (by omega) j).trans c⟩
  · have := (h0.2.2.2.2.2 g G e2).1
    exact gX_sm (h7 g G e2) hs (fun q a b => hg q (by omega) (by omega))
/-- what a letter stands for -/
def vW (V : zV) (p l : Nat) : Nat := if l = 0 then p else if l = 1 then vK V p else if l = 2 then vV V p else if l = 3 then pop (vT V p) else if l = 4 then vHr V % 24 else min (vHr V / 24) 99
def vPaceZ (V : zV) (p : Nat) : Int := match vG V with
  | none => 3
  | some (_, G) => 3 + gZ (vW V p) G (gN G)
def vPace (V : zV) (p : Nat) : Nat := (max 1 (vPaceZ V p)).toNat
def vFrost (V : zV) : Nat := match vG V with
  | none => 20
  | some (_, G) => (gLo G 2 (gN G)).getD 20
def vLose (V : zV) : Nat := match vG V with
  | none => 2
  | some (_, G) => max 1 ((gLo G 3 (gN G)).getD 2)
def vTakes (V : zV) (p : Nat) : Nat := if vK V p = 2 then 2 * vPace V p else if vK V p = 4 then max 1 (vPace V p - 1) else if vK V p = 5 then 2 * vPace V p + (if vHr V % 24 < 6 then vFrost V else 0) else if vK V p = 6 then vPace V p + vR V (4 * p + vHr V % 4) else vPace V p
def vSays (V : zV) (p w : Nat) : Nat := if vK V p = 1 then (w + vV V p) % 10000 else if vK V p = 3 then w / vLose V else if vK V p = 4 then 2 * (w + vV V p) % 10000 else if vK V p = 6 then (w / vLose V + vV V p) % 10000 else w
theorem vPaceZ_b {V : zV} (hw : vWf V) (p : Nat) : -987 ≤ vPaceZ V p ∧ vPaceZ V p ≤ 993 := by
  unfold vPaceZ
  split
  · omega
  · rename_i g G e
    have h := (hw.2.2.2.2.2 g G e).2
    have := gZ_b (vw := vW V p) h (gN G) (by omega)
    have := h.1
    omega
theorem vPace_b {V : zV} (hw : vWf V) (p : Nat) : 1 ≤ vPace V p ∧ vPace V p ≤ 993 := by
  have := vPaceZ_b hw p
  unfold vPace
  omega
theorem vFrost_b {V : zV} (hw : vWf V) : vFrost V ≤ 99 := by
  unfold vFrost
  split
  · omega
  · rename_i g G e
    have h := (hw.2.2.2.2.2 g G e).2
    cases hl : gLo G 2 (gN G) with
    | none => decide
    | some x => exact gLo_b h (gN G) (by omega) x hl
theorem vLose_b {V : zV} (hw : vWf V) : 1 ≤ vLose V ∧ vLose V ≤ 99 := by
  unfold vLose
  split
  · omega
  · rename_i g G e
    have h := (hw.2.2.2.2.2 g G e).2
    cases hl : gLo G 3 (gN G) with
    | none => decide
    | some x =>
      have := gLo_b h (gN G) (by omega) x hl
      show 1 ≤ max 1 x ∧ max 1 x ≤ 99
      omega
theorem vTakes_b {V : zV} (hw : vWf V) {p : Nat} (hp : p < vN V) : 1 ≤ vTakes V p ∧ vTakes V p ≤ 2085 := by
  have h1 := vPace_b hw p
  have h2 := vFrost_b hw
  have h3 := hw.2.2.1 (4 * p + vHr V % 4) (by omega)
  unfold vTakes
  split
  · omega
  · split
    · omega
    · split
      · split <;> omega
      · split <;> omega
theorem vSays_b {V : zV} (hw : vWf V) {p w : Nat} (h : w < 10000) : vSays V p w < 10000 := by
  have h2 := vLose_b hw
  have h3 : w / vLose V ≤ w := Nat.div_le_self _ _
  unfold vSays
  split
  · omega
  · split
    · omega
    · split
      · omega
      · split <;> omega
theorem vPace_i {V : zV} (hw : vWf V) (p : Nat) (g : Nat) (G : zG) (e : vG V = some (g, G)) : (if (1 : Int32) < (3 : Int32) + Int32.ofInt (gZ (vW V p) G (gN G)) then (3 : Int32) + Int32.ofInt (gZ (vW V p) G (gN G)) else (1 : Int32)) = nI (vPace V p) := by
  have hb := vPaceZ_b hw p
  have hz : vPaceZ V p = 3 + gZ (vW V p) G (gN G) := by unfold vPaceZ; rw [e]
  have h3 : (3 : Int32) + Int32.ofInt (gZ (vW V p) G (gN G)) = Int32.ofInt (vPaceZ V p) := by rw [hz]; exact oI_add 3 _
  rw [h3]
  have h1 : ((1 : Int32) < Int32.ofInt (vPaceZ V p)) ↔ 1 < vPaceZ V p := by
    rw [Int32.lt_iff_toInt_lt, oI_toInt (by omega) (by omega)]
    exact Iff.rfl
  unfold vPace
  by_cases q : 1 < vPaceZ V p
  · rw [if_pos (h1.mpr q), show max 1 (vPaceZ V p) = vPaceZ V p by omega, ← oI_nI, Int.toNat_of_nonneg (by omega)]
  · rw [if_neg (fun z => q (h1.mp z)), show max 1 (vPaceZ V p) = 1 by omega]
    rfl
theorem y_slowG_21 (d : Nat) {Q : zQ} {m : zM} {vw : Nat → Nat} {G : zG} {g : Nat} (hg : g < 6) (hw : gWf G) (hx : gX m (58 + 5 * g) G) (hv : ∀ l, l < 6 → gI m 26 l = nI (vw l) ∧ vw l < 2 ^ 31) (h : Q (some (.int (Int32.ofInt (gZ vw G (gN G))))) m) : (bif zrc m_Garden_slowness [.ref (58 + 5 * g), .ref 26] && (true && true) then zCall (d + 2) m_Garden_slowness [.ref (58 + 5 * g), .ref 26] m Q else False) :=
  match g, hg, hx with
  | 0, _, hx => y_slowC_58_26 d hw hx hv h
  | 1, _, hx => y_slowC_63_26 d hw hx hv h
  | 2, _, hx => y_slowC_68_26 d hw hx hv h
  | 3, _, hx => y_slowC_73_26 d hw hx hv h
  | 4, _, hx => y_slowC_78_26 d hw hx hv h
  | 5, _, hx => y_slowC_83_26 d hw hx hv h
theorem y_pace_21 (d : Nat) {Q : zQ} {m : zM} {V : zV} (hV : vX m 21 V) {p : Nat} (hp : p < vN V) (h : ∀ m', zsm (fun q => q = 26) m m' → Q (some (.int (nI (vPace V p)))) m') : zCall (d + 3) m_Hedge_paceOf [.ref 21, .int (nI p)] m Q := by
  have hV' := hV
  obtain ⟨h0, h1, h2, h3, h4, h5, h6, h7⟩ := hV
  have h8 := h0.1
  obtain ⟨k1, k2, k3⟩ := h0.2.1 p hp
  have a1 : gI m 22 p = nI (vK V p) := (h2 p hp).1
  have a2 : gI m 23 p = nI (vV V p) := (h2 p hp).2.1
  have a3 : gI m 24 p = vT V p := (h2 p hp).2.2
  have hr := h0.2.2.2.2.1
  refine en_Hedge_paceOf_21 (d + 2) (nI p) m (sg_Hedge_paceOf_21_0 (zCall_m _) (nI p) m ⟨fun q1 hq1 => ?_, fun hn => ?_⟩)
  · cases hg : vG V with
    | none => rw [h6, hg] at hq1; cases hq1
    | some gG' =>
      obtain ⟨g, G⟩ := gG'
      obtain ⟨hg6, hgw⟩ := h0.2.2.2.2.2 g G hg
      have hgm : gG m 21 = some (58 + 5 * g) := by rw [h6, hg]; rfl
      rw [hgm] at hq1
      cases hq1
      have hpi : vp_in (nI p) 8 := vp_in_nI (by omega) (by omega)
      have hpc : (nI p).toNatClampNeg = p := nI_clamp (by omega)
      refine ⟨by omega, vp_in_nI (n := 0) (by omega) (by omega), hpi, vp_in_nI (n := 1) (by omega) (by omega), hpi, vp_in_nI (n := 2) (by omega) (by omega), hpi, ?_⟩
      simp only [gI_sI, hpc, a1, a2, a3, show (22 : Nat) = 26 ↔ False by decide, show (23 : Nat) = 26 ↔ False by decide, show (24 : Nat) = 26 ↔ False by decide, show (21 : Nat) = 26 ↔ False by decide, false_and, if_false]
      refine y_bitCount _ k3 h8 ⟨_, rfl, vp_in_nI (n := 3) (by omega) (by omega), by decide, vp_in_nI (n := 4) (by omega) (by omega), by decide, vp_in_nI (n := 5) (by omega) (by omega), ?_⟩
      simp only [gI_sI, gG_sI, hgm, h5, show (21 : Nat) = 26 ↔ False by decide, false_and, if_false]
      rw [show (24 : Int32) = nI 24 from rfl, pk_rem (by omega) (by omega) (by omega), pk_div (by omega) (by omega) (by omega)]
      refine ⟨fun q5 hq5 => ?_, fun hq5 => by cases hq5⟩
      cases hq5
      refine y_slowG_21 d hg6 hgw (vw := vW V p) (gX_sm (h7 g G hg) (P := fun q => q = 26) ?_ (fun q a b z => by omega)) (fun l hl => ?_) ⟨_, rfl, ?_⟩
      · repeat (first | exact zsm_refl _ | refine zsm_sI (P := fun q => q = 26) ?_ (show (26 : Nat) = 26 from rfl) _)
      · have hm : min (vHr V / 24) 99 = vW V p 5 := rfl
        have := pop_b k3 h8
        refine ⟨?_, ?_⟩
        · rcases (show l = 0 ∨ l = 1 ∨ l = 2 ∨ l = 3 ∨ l = 4 ∨ l = 5 by omega) with rfl | rfl | rfl | rfl | rfl | rfl
          · rfl
          · rfl
          · rfl
          · rfl
          · rfl
          · show (if nI (vHr V / 24) < (nI 99) then nI (vHr V / 24) else nI 99) = nI (min (vHr V / 24) 99)
            by_cases q : vHr V / 24 < 99
            · rw [if_pos ((nI_ltI (by omega) (by omega)).mpr q), Nat.min_eq_left (by omega)]
            · rw [if_neg (fun z => q ((nI_ltI (by omega) (by omega)).mp z)), Nat.min_eq_right (by omega)]
        · unfold vW
          repeat (first | omega | split)
      · rw [vPace_i h0 p g G hg]
        refine h _ ?_
        repeat (first | exact zsm_refl _ | refine zsm_sI (P := fun q => q = 26) ?_ (show (26 : Nat) = 26 from rfl) _)
  · have hg : vG V = none := by
      cases hg : vG V with
      | none => rfl
      | some x => rw [h6, hg] at hn; cases hn
    have : vPace V p = 3 := by
      unfold vPace vPaceZ
      rw [hg]; rfl
    have hh := h m (zsm_refl m)
    rw [this] at hh
    exact hh

theorem y_frost_21 (d : Nat) {Q : zQ} {m : zM} {V : zV} (hV : vX m 21 V) (h : Q (some (.int (nI (vFrost V)))) m) : zCall (d + 1) m_Hedge_frost [.ref 21] m Q := by
  obtain ⟨h0, h1, h2, h3, h4, h5, h6, h7⟩ := hV
  refine en_Hedge_frost_21 d m (sg_Hedge_frost_21_0 (zCall_m _) m ?_)
  unfold vFrost at h
  cases hg : vG V with
  | none =>
    rw [hg] at h h6
    exact ⟨fun q e => (by rw [h6] at e; cases e), fun _ => h⟩
  | some x =>
    obtain ⟨g, G⟩ := x
    rw [hg] at h h6
    have h6 : gG m 21 = some (58 + 5 * g) := h6
    obtain ⟨hg6, hgw⟩ := h0.2.2.2.2.2 g G hg
    obtain ⟨_, x1, x2, _⟩ := h7 g G hg
    have hb := gLo_b hgw (w := 2) (gN G) (by omega)
    have hs : Nat.beq (zsh (58 + 5 * g)) 1 = true := match g, hg6 with
      | 0, _ => rfl
      | 1, _ => rfl
      | 2, _ => rfl
      | 3, _ => rfl
      | 4, _ => rfl
      | 5, _ => rfl
    refine ⟨fun q1 e => ?_, fun e => by rw [h6] at e; cases e⟩
    rw [h6] at e
    cases e
    refine ⟨by omega, fun q2 e => ?_, fun e => by rw [h6] at e; cases e⟩
    rw [h6] at e
    cases e
    rw [hs, cond_true, x1]
    dsimp only at h
    cases hl : gLo G 2 (gN G) with
    | none => rw [hl] at h; exact iq (by decide) h
    | some x =>
      rw [hl] at h
      have := hb x hl
      refine ip (nI_pos' (by omega)) ⟨fun q3 e => ?_, fun e => by rw [h6] at e; cases e⟩
      rw [h6] at e
      cases e
      rw [hs, cond_true, x1, hl]
      exact h
theorem y_lose_21 (d : Nat) {Q : zQ} {m : zM} {V : zV} (hV : vX m 21 V) (h : Q (some (.int (nI (vLose V)))) m) : zCall (d + 1) m_Hedge_lose [.ref 21] m Q := by
  obtain ⟨h0, h1, h2, h3, h4, h5, h6, h7⟩ := hV
  refine en_Hedge_lose_21 d m (sg_Hedge_lose_21_0 (zCall_m _) m ?_)
  unfold vLose at h
  cases hg : vG V with
  | none =>
    rw [hg] at h h6
    exact ⟨fun q e => (by rw [h6] at e; cases e), fun _ => h⟩
  | some x =>
    obtain ⟨g, G⟩ := x
    rw [hg] at h h6
    have h6 : gG m 21 = some (58 + 5 * g) := h6
    obtain ⟨hg6, hgw⟩ := h0.2.2.2.2.2 g G hg
    obtain ⟨_, x1, x2, _⟩ := h7 g G hg
    have hb := gLo_b hgw (w := 3) (gN G) (by omega)
    have hs : Nat.beq (zsh (58 + 5 * g)) 1 = true := match g, hg6 with
      | 0, _ => rfl
      | 1, _ => rfl
      | 2, _ => rfl
      | 3, _ => rfl
      | 4, _ => rfl
      | 5, _ => rfl
    refine ⟨fun q1 e => ?_, fun e => by rw [h6] at e; cases e⟩
    rw [h6] at e
    cases e
    refine ⟨by omega, fun q2 e => ?_, fun e => by rw [h6] at e; cases e⟩
    rw [h6] at e
    cases e
    rw [hs, cond_true, x2]
    dsimp only at h
    cases hl : gLo G 3 (gN G) with
    | none => rw [hl] at h; exact iq (by decide) h
    | some x =>
      rw [hl] at h
      have := hb x hl
      refine ip (nI_pos' (by omega)) ⟨fun q3 e => ?_, fun e => by rw [h6] at e; cases e⟩
      rw [h6] at e
      cases e
      rw [hs, cond_true, x2, hl]
      have h : Q (some (.int (nI (max 1 x)))) m := h
      show Q (some (.int (if (nI 1) < nI x then nI x else nI 1))) m
      by_cases q : 1 < x
      · rw [if_pos ((nI_ltI (by omega) (by omega)).mpr q)]
        rw [Nat.max_eq_right (by omega)] at h
        exact h
      · rw [if_neg (fun z => q ((nI_ltI (by omega) (by omega)).mp z))]
        rw [Nat.max_eq_left (by omega)] at h
        exact h
theorem y_clip_21 (d : Nat) {Q : zQ} {m : zM} {V : zV} (hV : vX m 21 V) {w : Nat} (hw : w < 10000) (h : Q (some (.int (nI (w / vLose V)))) m) : zCall (d + 2) m_Hedge_clipped [.ref 21, .int (nI w)] m Q := by
  have hl := vLose_b hV.1
  refine en_Hedge_clipped_21 (d + 1) _ m (sg_Hedge_clipped_21_0 (zCall_m _) _ m (y_lose_21 d hV ⟨_, rfl, ip (nI_le hl.1 (by omega)) ⟨nI_ne0 (by omega) (by omega), ?_⟩⟩))
  rw [pk_div (by omega) (by omega) (by omega)]
  exact h
theorem y_says_21 (d : Nat) {Q : zQ} {m : zM} {V : zV} (hV : vX m 21 V) {p w : Nat} (hp : p < vN V) (hw : w < 10000) (h : Q (some (.int (nI (vSays V p w)))) m) : zCall (d + 3) m_Hedge_passedOn [.ref 21, .int (nI p), .int (nI w)] m Q := by
  have hV' := hV
  obtain ⟨h0, h1, h2, h3, h4, h5, h6, h7⟩ := hV
  have h8 := h0.1
  obtain ⟨k1, k2, k3⟩ := h0.2.1 p hp
  have a1 : gI m 22 p = nI (vK V p) := (h2 p hp).1
  have a2 : gI m 23 p = nI (vV V p) := (h2 p hp).2.1
  have hpi : vp_in (nI p) 8 := vp_in_nI (by omega) (by omega)
  have hpc : (nI p).toNatClampNeg = p := nI_clamp (by omega)
  have hlo := vLose_b h0
  have hdl : w / vLose V ≤ w := Nat.div_le_self _ _
  refine en_Hedge_passedOn_21 (d + 2) _ _ m (sg_Hedge_passedOn_21_0 (zCall_m _) _ _ m ⟨hpi, hpi, ?_⟩)
  rw [hpc, a1, a2, show (10000 : Int32) = nI 10000 from rfl, nI_add, show (2 : Int32) = nI 2 from rfl, pk_mul, pk_rem (by omega) (by omega) (by omega), pk_rem (by omega) (by omega) (by omega)]
  unfold vSays at h
  rcases (show vK V p = 0 ∨ vK V p = 1 ∨ vK V p = 2 ∨ vK V p = 3 ∨ vK V p = 4 ∨ vK V p = 5 ∨ vK V p = 6 by omega) with e | e | e | e | e | e | e <;> rw [e] at h ⊢
  · exact iq (by decide) (iq (by decide) (iq (by decide) (iq (by decide) (iq (by decide) (iq (by decide) h)))))
  · exact ip rfl ⟨by decide, h⟩
  · exact iq (by decide) (ip rfl h)
  · exact iq (by decide) (iq (by decide) (ip rfl (y_clip_21 d hV' hw ⟨_, rfl, h⟩)))
  · exact iq (by decide) (iq (by decide) (iq (by decide) (ip rfl ⟨by decide, h⟩)))
  · exact iq (by decide) (iq (by decide) (iq (by decide) (iq (by decide) (ip rfl h))))
  · refine iq (by decide) (iq (by decide) (iq (by decide) (iq (by decide) (iq (by decide) (ip rfl (y_clip_21 d hV' hw ⟨_, rfl, by decide, ?_⟩))))))
    rw [nI_add, pk_rem (by omega) (by omega) (by omega)]
    exact h
theorem y_takes_21 (d : Nat) {Q : zQ} {m : zM} {V : zV} (hV : vX m 21 V) {p : Nat} (hp : p < vN V) (h : ∀ m', zsm (fun q => q = 26) m m' → Q (some (.int (nI (vTakes V p)))) m') : zCall (d + 4) m_Hedge_takesOf [.ref 21, .int (nI p)] m Q := by
  refine en_Hedge_takesOf_21 (d + 3) _ m (sg_Hedge_takesOf_21_0 (zCall_m _) _ m (y_pace_21 d hV hp fun m' hs => ⟨_, rfl, ?_⟩))
  have hV' := vX_sm hV hs (fun q a b z => by omega) (fun q a b z => by omega)
  have h := h m' hs
  clear hV hs
  have hV := hV'
  obtain ⟨h0, h1, h2, h3, h4, h5, h6, h7⟩ := hV
  have h8 := h0.1
  obtain ⟨k1, k2, k3⟩ := h0.2.1 p hp
  have a1 : gI m' 22 p = nI (vK V p) := (h2 p hp).1
  have a4 : gI m' 25 (4 * p + vHr V % 4) = nI (vR V (4 * p + vHr V % 4)) := h3 _ (by omega)
  have hpi : vp_in (nI p) 8 := vp_in_nI (by omega) (by omega)
  have hpc : (nI p).toNatClampNeg = p := nI_clamp (by omega)
  have hr := h0.2.2.2.2.1
  have hpb := vPace_b h0 p
  refine ⟨hpi, ?_⟩
  rw [hpc, a1, h5, show (24 : Int32) = nI 24 from rfl, show (2 : Int32) = nI 2 from rfl, show (4 : Int32) = nI 4 from rfl, pk_mul, pk_rem (by omega) (by omega) (by omega), pk_rem (by omega) (by omega) (by omega), pk_mul, nI_add, nI_clamp (by omega), Nat.mul_comm p 4, a4, nI_add]
  unfold vTakes at h
  rcases (show vK V p = 0 ∨ vK V p = 1 ∨ vK V p = 2 ∨ vK V p = 3 ∨ vK V p = 4 ∨ vK V p = 5 ∨ vK V p = 6 by omega) with e | e | e | e | e | e | e <;> rw [e] at h ⊢
  · exact iq (by decide) (iq (by decide) (iq (by decide) (iq (by decide) (iq (by decide) h))))
  · exact iq (by decide) (iq (by decide) (iq (by decide) (iq (by decide) (iq (by decide) h))))
  · exact ip rfl h
  · exact iq (by decide) (ip rfl h)
  · refine iq (by decide) (iq (by decide) (ip rfl ?_))
    have h : Q (some (.int (nI (max 1 (vPace V p - 1))))) m' := h
    rw [show (1 : Int32) = nI 1 from rfl, pk_sub hpb.1]
    by_cases q : 1 < vPace V p - 1
    · rw [if_pos ((nI_ltI (by omega) (by omega)).mpr q)]
      rw [Nat.max_eq_right (by omega)] at h
      exact h
    · rw [if_neg (fun z => q ((nI_ltI (by omega) (by omega)).mp z))]
      rw [Nat.max_eq_left (by omega)] at h
      exact h
  · refine iq (by decide) (iq (by decide) (iq (by decide) (ip rfl ⟨by decide, ?_⟩)))
    have h : Q (some (.int (nI (2 * vPace V p + (if vHr V % 24 < 6 then vFrost V else 0))))) m' := h
    by_cases q : vHr V % 24 < 6
    · rw [if_pos q] at h
      refine iq (nI_ge (b := 6) q (by decide)) (y_frost_21 _ hV' ⟨_, rfl, ?_⟩)
      rw [nI_add]
      exact h
    · rw [if_neg q] at h
      refine ip (nI_le (a := 6) (Nat.le_of_not_lt q) (by omega)) ?_
      rw [show (0 : Int32) = nI 0 from rfl, nI_add]
      exact h
  · exact iq (by decide) (iq (by decide) (iq (by decide) (iq (by decide) (ip rfl ⟨by decide, vp_in_nI (by omega) (by omega), h⟩))))
theorem y_slowG_45 (d : Nat) {Q : zQ} {m : zM} {vw : Nat → Nat} {G : zG} {g : Nat} (hg : g < 6) (hw : gWf G) (hx : gX m (58 + 5 * g) G) (hv : ∀ l, l < 6 → gI m 50 l = nI (vw l) ∧ vw l < 2 ^ 31) (h : Q (some (.int (Int32.ofInt (gZ vw G (gN G))))) m) : (bif zrc m_Garden_slowness [.ref (58 + 5 * g), .ref 50] && (true && true) then zCall (d + 2) m_Garden_slowness [.ref (58 + 5 * g), .ref 50] m Q else False) :=
  match g, hg, hx with
  | 0, _, hx => y_slowC_58_50 d hw hx hv h
  | 1, _, hx => y_slowC_63_50 d hw hx hv h
  | 2, _, hx => y_slowC_68_50 d hw hx hv h
  | 3, _, hx => y_slowC_73_50 d hw hx hv h
  | 4, _, hx => y_slowC_78_50 d hw hx hv h
  | 5, _, hx => y_slowC_83_50 d hw hx hv h
theorem y_pace_45 (d : Nat) {Q : zQ} {m : zM} {V : zV} (hV : vX m 45 V) {p : Nat} (hp : p < vN V) (h : ∀ m', zsm (fun q => q = 50) m m' → Q (some (.int (nI (vPace V p)))) m') : zCall (d + 3) m_Hedge_paceOf [.ref 45, .int (nI p)] m Q := by
  have hV' := hV
  obtain ⟨h0, h1, h2, h3, h4, h5, h6, h7⟩ := hV
  have h8 := h0.1
  obtain ⟨k1, k2, k3⟩ := h0.2.1 p hp
  have a1 : gI m 46 p = nI (vK V p) := (h2 p hp).1
  have a2 : gI m 47 p = nI (vV V p) := (h2 p hp).2.1
  have a3 : gI m 48 p = vT V p := (h2 p hp).2.2
  have hr := h0.2.2.2.2.1
  refine en_Hedge_paceOf_45 (d + 2) (nI p) m (sg_Hedge_paceOf_45_0 (zCall_m _) (nI p) m ⟨fun q1 hq1 => ?_, fun hn => ?_⟩)
  · cases hg : vG V with
    | none => rw [h6, hg] at hq1; cases hq1
    | some gG' =>
      obtain ⟨g, G⟩ := gG'
      obtain ⟨hg6, hgw⟩ := h0.2.2.2.2.2 g G hg
      have hgm : gG m 45 = some (58 + 5 * g) := by rw [h6, hg]; rfl
      rw [hgm] at hq1
      cases hq1
      have hpi : vp_in (nI p) 8 := vp_in_nI (by omega) (by omega)
      have hpc : (nI p).toNatClampNeg = p := nI_clamp (by omega)
      refine ⟨by omega, vp_in_nI (n := 0) (by omega) (by omega), hpi, vp_in_nI (n := 1) (by omega) (by omega), hpi, vp_in_nI (n := 2) (by omega) (by omega), hpi, ?_⟩
      simp only [gI_sI, hpc, a1, a2, a3, show (46 : Nat) = 50 ↔ False by decide, show (47 : Nat) = 50 ↔ False by decide, show (48 : Nat) = 50 ↔ False by decide, show (45 : Nat) = 50 ↔ False by decide, false_and, if_false]
      refine y_bitCount _ k3 h8 ⟨_, rfl, vp_in_nI (n := 3) (by omega) (by omega), by decide, vp_in_nI (n := 4) (by omega) (by omega), by decide, vp_in_nI (n := 5) (by omega) (by omega), ?_⟩
      simp only [gI_sI, gG_sI, hgm, h5, show (45 : Nat) = 50 ↔ False by decide, false_and, if_false]
      rw [show (24 : Int32) = nI 24 from rfl, pk_rem (by omega) (by omega) (by omega), pk_div (by omega) (by omega) (by omega)]
      refine ⟨fun q5 hq5 => ?_, fun hq5 => by cases hq5⟩
      cases hq5
      refine y_slowG_45 d hg6 hgw (vw := vW V p) (gX_sm (h7 g G hg) (P := fun q => q = 50) ?_ (fun q a b z => by omega)) (fun l hl => ?_) ⟨_, rfl, ?_⟩
      · repeat (first | exact zsm_refl _ | refine zsm_sI (P := fun q => q = 50) ?_ (show (50 : Nat) = 50 from rfl) _)
      · have hm : min (vHr V / 24) 99 = vW V p 5 := rfl
        have := pop_b k3 h8
        refine ⟨?_, ?_⟩
        · rcases (show l = 0 ∨ l = 1 ∨ l = 2 ∨ l = 3 ∨ l = 4 ∨ l = 5 by omega) with rfl | rfl | rfl | rfl | rfl | rfl
          · rfl
          · rfl
          · rfl
          · rfl
          · rfl
          · show (if nI (vHr V / 24) < (nI 99) then nI (vHr V / 24) else nI 99) = nI (min (vHr V / 24) 99)
            by_cases q : vHr V / 24 < 99
            · rw [if_pos ((nI_ltI (by omega) (by omega)).mpr q), Nat.min_eq_left (by omega)]
            · rw [if_neg (fun z => q ((nI_ltI (by omega) (by omega)).mp z)), Nat.min_eq_right (by omega)]
        · unfold vW
          repeat (first | omega | split)
      · rw [vPace_i h0 p g G hg]
        refine h _ ?_
        repeat (first | exact zsm_refl _ | refine zsm_sI (P := fun q => q = 50) ?_ (show (50 : Nat) = 50 from rfl) _)
  · have hg : vG V = none := by
      cases hg : vG V with
      | none => rfl
      | some x => rw [h6, hg] at hn; cases hn
    have : vPace V p = 3 := by
      unfold vPace vPaceZ
      rw [hg]; rfl
    have hh := h m (zsm_refl m)
    rw [this] at hh
    exact hh

theorem y_frost_45 (d : Nat) {Q : zQ} {m : zM} {V : zV} (hV : vX m 45 V) (h : Q (some (.int (nI (vFrost V)))) m) : zCall (d + 1) m_Hedge_frost [.ref 45] m Q := by
  obtain ⟨h0, h1, h2, h3, h4, h5, h6, h7⟩ := hV
  refine en_Hedge_frost_45 d m (sg_Hedge_frost_45_0 (zCall_m _) m ?_)
  unfold vFrost at h
  cases hg : vG V with
  | none =>
    rw [hg] at h h6
    exact ⟨fun q e => (by rw [h6] at e; cases e), fun _ => h⟩
  | some x =>
    obtain ⟨g, G⟩ := x
    rw [hg] at h h6
    have h6 : gG m 45 = some (58 + 5 * g) := h6
    obtain ⟨hg6, hgw⟩ := h0.2.2.2.2.2 g G hg
    obtain ⟨_, x1, x2, _⟩ := h7 g G hg
    have hb := gLo_b hgw (w := 2) (gN G) (by omega)
    have hs : Nat.beq (zsh (58 + 5 * g)) 1 = true := match g, hg6 with
      | 0, _ => rfl
      | 1, _ => rfl
      | 2, _ => rfl
      | 3, _ => rfl
      | 4, _ => rfl
      | 5, _ => rfl
    refine ⟨fun q1 e => ?_, fun e => by rw [h6] at e; cases e⟩
    rw [h6] at e
    cases e
    refine ⟨by omega, fun q2 e => ?_, fun e => by rw [h6] at e; cases e⟩
    rw [h6] at e
    cases e
    rw [hs, cond_true, x1]
    dsimp only at h
    cases hl : gLo G 2 (gN G) with
    | none => rw [hl] at h; exact iq (by decide) h
    | some x =>
      rw [hl] at h
      have := hb x hl
      refine ip (nI_pos' (by omega)) ⟨fun q3 e => ?_, fun e => by rw [h6] at e; cases e⟩
      rw [h6] at e
      cases e
      rw [hs, cond_true, x1, hl]
      exact h
theorem y_lose_45 (d : Nat) {Q : zQ} {m : zM} {V : zV} (hV : vX m 45 V) (h : Q (some (.int (nI (vLose V)))) m) : zCall (d + 1) m_Hedge_lose [.ref 45] m Q := by
  obtain ⟨h0, h1, h2, h3, h4, h5, h6, h7⟩ := hV
  refine en_Hedge_lose_45 d m (sg_Hedge_lose_45_0 (zCall_m _) m ?_)
  unfold vLose at h
  cases hg : vG V with
  | none =>
    rw [hg] at h h6
    exact ⟨fun q e => (by rw [h6] at e; cases e), fun _ => h⟩
  | some x =>
    obtain ⟨g, G⟩ := x
    rw [hg] at h h6
    have h6 : gG m 45 = some (58 + 5 * g) := h6
    obtain ⟨hg6, hgw⟩ := h0.2.2.2.2.2 g G hg
    obtain ⟨_, x1, x2, _⟩ := h7 g G hg
    have hb := gLo_b hgw (w := 3) (gN G) (by omega)
    have hs : Nat.beq (zsh (58 + 5 * g)) 1 = true := match g, hg6 with
      | 0, _ => rfl
      | 1, _ => rfl
      | 2, _ => rfl
      | 3, _ => rfl
      | 4, _ => rfl
      | 5, _ => rfl
    refine ⟨fun q1 e => ?_, fun e => by rw [h6] at e; cases e⟩
    rw [h6] at e
    cases e
    refine ⟨by omega, fun q2 e => ?_, fun e => by rw [h6] at e; cases e⟩
    rw [h6] at e
    cases e
    rw [hs, cond_true, x2]
    dsimp only at h
    cases hl : gLo G 3 (gN G) with
    | none => rw [hl] at h; exact iq (by decide) h
    | some x =>
      rw [hl] at h
      have := hb x hl
      refine ip (nI_pos' (by omega)) ⟨fun q3 e => ?_, fun e => by rw [h6] at e; cases e⟩
      rw [h6] at e
      cases e
      rw [hs, cond_true, x2, hl]
      have h : Q (some (.int (nI (max 1 x)))) m := h
      show Q (some (.int (if (nI 1) < nI x then nI x else nI 1))) m
      by_cases q : 1 < x
      · rw [if_pos ((nI_ltI (by omega) (by omega)).mpr q)]
        rw [Nat.max_eq_right (by omega)] at h
        exact h
      · rw [if_neg (fun z => q ((nI_ltI (by omega) (by omega)).mp z))]
        rw [Nat.max_eq_left (by omega)] at h
        exact h
theorem y_clip_45 (d : Nat) {Q : zQ} {m : zM} {V : zV} (hV : vX m 45 V) {w : Nat} (hw : w < 10000) (h : Q (some (.int (nI (w / vLose V)))) m) : zCall (d + 2) m_Hedge_clipped [.ref 45, .int (nI w)] m Q := by
  have hl := vLose_b hV.1
  refine en_Hedge_clipped_45 (d + 1) _ m (sg_Hedge_clipped_45_0 (zCall_m _) _ m (y_lose_45 d hV ⟨_, rfl, ip (nI_le hl.1 (by omega)) ⟨nI_ne0 (by omega) (by omega), ?_⟩⟩))
  rw [pk_div (by omega) (by omega) (by omega)]
  exact h
theorem y_says_45 (d : Nat) {Q : zQ} {m : zM} {V : zV} (hV : vX m 45 V) {p w : Nat} (hp : p < vN V) (hw : w < 10000) (h : Q (some (.int (nI (vSays V p w)))) m) : zCall (d + 3) m_Hedge_passedOn [.ref 45, .int (nI p), .int (nI w)] m Q := by
  have hV' := hV
  obtain ⟨h0, h1, h2, h3, h4, h5, h6, h7⟩ := hV
  have h8 := h0.1
  obtain ⟨k1, k2, k3⟩ := h0.2.1 p hp
  have a1 : gI m 46 p = nI (vK V p) := (h2 p hp).1
  have a2 : gI m 47 p = nI (vV V p) := (h2 p hp).2.1
  have hpi : vp_in (nI p) 8 := vp_in_nI (by omega) (by omega)
  have hpc : (nI p).toNatClampNeg = p := nI_clamp (by omega)
  have hlo := vLose_b h0
  have hdl : w / vLose V ≤ w := Nat.div_le_self _ _
  refine en_Hedge_passedOn_45 (d + 2) _ _ m (sg_Hedge_passedOn_45_0 (zCall_m _) _ _ m ⟨hpi, hpi, ?_⟩)
  rw [hpc, a1, a2, show (10000 : Int32) = nI 10000 from rfl, nI_add, show (2 : Int32) = nI 2 from rfl, pk_mul, pk_rem (by omega) (by omega) (by omega), pk_rem (by omega) (by omega) (by omega)]
  unfold vSays at h
  rcases (show vK V p = 0 ∨ vK V p = 1 ∨ vK V p = 2 ∨ vK V p = 3 ∨ vK V p = 4 ∨ vK V p = 5 ∨ vK V p = 6 by omega) with e | e | e | e | e | e | e <;> rw [e] at h ⊢
  · exact iq (by decide) (iq (by decide) (iq (by decide) (iq (by decide) (iq (by decide) (iq (by decide) h)))))
  · exact ip rfl ⟨by decide, h⟩
  · exact iq (by decide) (ip rfl h)
  · exact iq (by decide) (iq (by decide) (ip rfl (y_clip_45 d hV' hw ⟨_, rfl, h⟩)))
  · exact iq (by decide) (iq (by decide) (iq (by decide) (ip rfl ⟨by decide, h⟩)))
  · exact iq (by decide) (iq (by decide) (iq (by decide) (iq (by decide) (ip rfl h))))
  · refine iq (by decide) (iq (by decide) (iq (by decide) (iq (by decide) (iq (by decide) (ip rfl (y_clip_45 d hV' hw ⟨_, rfl, by decide, ?_⟩))))))
    rw [nI_add, pk_rem (by omega) (by omega) (by omega)]
    exact h
theorem y_takes_45 (d : Nat) {Q : zQ} {m : zM} {V : zV} (hV : vX m 45 V) {p : Nat} (hp : p < vN V) (h : ∀ m', zsm (fun q => q = 50) m m' → Q (some (.int (nI (vTakes V p)))) m') : zCall (d + 4) m_Hedge_takesOf [.ref 45, .int (nI p)] m Q := by
  refine en_Hedge_takesOf_45 (d + 3) _ m (sg_Hedge_takesOf_45_0 (zCall_m _) _ m (y_pace_45 d hV hp fun m' hs => ⟨_, rfl, ?_⟩))
  have hV' := vX_sm hV hs (fun q a b z => by omega) (fun q a b z => by omega)
  have h := h m' hs
  clear hV hs
  have hV := hV'
  obtain ⟨h0, h1, h2, h3, h4, h5, h6, h7⟩ := hV
  have h8 := h0.1
  obtain ⟨k1, k2, k3⟩ := h0.2.1 p hp
  have a1 : gI m' 46 p = nI (vK V p) := (h2 p hp).1
  have a4 : gI m' 49 (4 * p + vHr V % 4) = nI (vR V (4 * p + vHr V % 4)) := h3 _ (by omega)
  have hpi : vp_in (nI p) 8 := vp_in_nI (by omega) (by omega)
  have hpc : (nI p).toNatClampNeg = p := nI_clamp (by omega)
  have hr := h0.2.2.2.2.1
  have hpb := vPace_b h0 p
  refine ⟨hpi, ?_⟩
  rw [hpc, a1, h5, show (24 : Int32) = nI 24 from rfl, show (2 : Int32) = nI 2 from rfl, show (4 : Int32) = nI 4 from rfl, pk_mul, pk_rem (by omega) (by omega) (by omega), pk_rem (by omega) (by omega) (by omega), pk_mul, nI_add, nI_clamp (by omega), Nat.mul_comm p 4, a4, nI_add]
  unfold vTakes at h
  rcases (show vK V p = 0 ∨ vK V p = 1 ∨ vK V p = 2 ∨ vK V p = 3 ∨ vK V p = 4 ∨ vK V p = 5 ∨ vK V p = 6 by omega) with e | e | e | e | e | e | e <;> rw [e] at h ⊢
  · exact iq (by decide) (iq (by decide) (iq (by decide) (iq (by decide) (iq (by decide) h))))
  · exact iq (by decide) (iq (by decide) (iq (by decide) (iq (by decide) (iq (by decide) h))))
  · exact ip rfl h
  · exact iq (by decide) (ip rfl h)
  · refine iq (by decide) (iq (by decide) (ip rfl ?_))
    have h : Q (some (.int (nI (max 1 (vPace V p - 1))))) m' := h
    rw [show (1 : Int32) = nI 1 from rfl, pk_sub hpb.1]
    by_cases q : 1 < vPace V p - 1
    · rw [if_pos ((nI_ltI (by omega) (by omega)).mpr q)]
      rw [Nat.max_eq_right (by omega)] at h
      exact h
    · rw [if_neg (fun z => q ((nI_ltI (by omega) (by omega)).mp z))]
      rw [Nat.max_eq_left (by omega)] at h
      exact h
  · refine iq (by decide) (iq (by decide) (iq (by decide) (ip rfl ⟨by decide, ?_⟩)))
    have h : Q (some (.int (nI (2 * vPace V p + (if vHr V % 24 < 6 then vFrost V else 0))))) m' := h
    by_cases q : vHr V % 24 < 6
    · rw [if_pos q] at h
      refine iq (nI_ge (b := 6) q (by decide)) (y_frost_45 _ hV' ⟨_, rfl, ?_⟩)
      rw [nI_add]
      exact h
    · rw [if_neg q] at h
      refine ip (nI_le (a := 6) (Nat.le_of_not_lt q) (by omega)) ?_
      rw [show (0 : Int32) = nI 0 from rfl, nI_add]
      exact h
  · exact iq (by decide) (iq (by decide) (iq (by decide) (iq (by decide) (ip rfl ⟨by decide, vp_in_nI (by omega) (by omega), h⟩))))
