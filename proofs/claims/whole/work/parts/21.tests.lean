/-! the code of a garden's tests: what it means, and that both run it so (gen21.py) -/
def cX (s : Nat) : Int32 := if s < 1800 then nI s else if s = 1800 then -1 else if s = 1801 then -2 else -3
def cM (s : Nat) : Int32 := if s < 1800 then nI (1000 * (s / 300) + 100 * (s / 100 % 3) + s % 100) else if s = 1800 then -33 else if s = 1801 then -38 else -124
def hT (vw : Nat → Nat) (s : Nat) : Bool := if s / 100 % 3 = 0 then decide (vw (s / 300) < s % 100) else if s / 100 % 3 = 1 then decide (vw (s / 300) = s % 100) else decide (s % 100 < vw (s / 300))
def hN : List Bool → List Bool
  | [] => []
  | b :: r => (!b) :: r
def hA : List Bool → List Bool
  | b :: a :: r => (a && b) :: r
  | l => l
def hO : List Bool → List Bool
  | b :: a :: r => (a || b) :: r
  | l => l
def hS (vw : Nat → Nat) (s : Nat) (st : List Bool) : List Bool := if s < 1800 then hT vw s :: st else if s = 1800 then hN st else if s = 1801 then hA st else hO st
/-- from place i on, with d values laid, k steps more go well and leave one -/
def hW (code : Nat → Nat) : Nat → Nat → Nat → Prop
  | _, d, 0 => d = 1
  | i, d, k + 1 => (code i < 1800 ∧ d < 30 ∧ hW code (i + 1) (d + 1) k) ∨ (code i = 1800 ∧ 1 ≤ d ∧ hW code (i + 1) d k) ∨ ((code i = 1801 ∨ code i = 1802) ∧ ∃ e, d = e + 2 ∧ hW code (i + 1) (e + 1) k)
def hR (vw : Nat → Nat) (code : Nat → Nat) : Nat → List Bool → Nat → List Bool
  | _, st, 0 => st
  | i, st, k + 1 => hR vw code (i + 1) (hS vw (code i) st) k
def hH : List Bool → Bool
  | [] => false
  | b :: _ => b
/-- the bits of a number are these, from below -/
def bl (x : Int32) (st : List Bool) : Prop := ∀ j, j < st.length → bt x j = st.getD j false
theorem b_two : ∀ i, i < 32 → bt (-2) i = decide (i ≠ 0) := by decide +kernel
theorem b_sr1 (x : Int32) {i : Nat} (hi : i < 31) : bt (x >>> ((1 : Int32) &&& 31)) i = bt x (i + 1) := by
  have := b_sshr 1 (by omega) x (show i < 32 by omega)
  rw [show (nI 1 : Int32) = 1 from rfl] at this
  rw [this, if_pos (by omega), Nat.add_comm]
theorem b_sl1 (x : Int32) {i : Nat} (hi : i < 32) : bt (x <<< ((1 : Int32) &&& 31)) i = (decide (1 ≤ i) && bt x (i - 1)) := by
  unfold bt
  rw [Int32.toBitVec_shiftLeft]
  show (x.toBitVec <<< (((1 : Int32) &&& 31).toBitVec.smod 32).toNat).getLsbD i = _
  rw [show (((1 : Int32) &&& 31).toBitVec.smod 32).toNat = 1 from by decide, BitVec.getLsbD_shiftLeft]
  rcases Nat.lt_or_ge i 1 with h | h
  · simp [h, Nat.not_le.mpr h]
  · simp [hi, h, Nat.not_lt.mpr h]
theorem bl_psh {x : Int32} {st : List Bool} (b : Bool) (h : bl x st) (hl : st.length < 31) : bl ((x <<< ((1 : Int32) &&& 31)) ||| zb b) (b :: st) := by
  intro j hj
  rw [List.length_cons] at hj
  rw [b_or, b_sl1 x (by omega)]
  cases j with
  | zero => cases b <;> rfl
  | succ j =>
    have hz : bt (zb b) (j + 1) = false := by
      cases b
      · exact b_0 _
      · show bt 1 (j + 1) = false
        rw [b_one _ (by omega)]; rfl
    rw [hz, Bool.or_false, decide_eq_true (by omega), Bool.true_and, Nat.add_sub_cancel, h j (by omega)]
    rfl
theorem bl_not {x : Int32} {b : Bool} {st : List Bool} (h : bl x (b :: st)) (hl : st.length < 31) : bl (x ^^^ 1) ((!b) :: st) := by
  intro j hj
  rw [List.length_cons] at hj
  have h1 := h j (by rw [List.length_cons]; exact hj)
  rw [b_xor, h1, b_one j (by omega)]
  cases j with
  | zero => cases b <;> rfl
  | succ j => rw [decide_eq_false (by omega), Bool.xor_false]; rfl
theorem bl_and {x : Int32} {b a : Bool} {st : List Bool} (h : bl x (b :: a :: st)) (hl : st.length < 29) : bl ((x >>> ((1 : Int32) &&& 31)) &&& (x ||| (-2))) ((a && b) :: st) := by
  intro j hj
  rw [List.length_cons] at hj
  have h1 := h j (by simp only [List.length_cons]; omega)
  have h2 := h (j + 1) (by simp only [List.length_cons]; omega)
  rw [b_and, b_or, b_sr1 x (by omega), h1, h2, b_two j (by omega)]
  cases j with
  | zero => cases a <;> cases b <;> rfl
  | succ j => rw [decide_eq_true (by omega), Bool.or_true, Bool.and_true]; rfl
theorem bl_or {x : Int32} {b a : Bool} {st : List Bool} (h : bl x (b :: a :: st)) (hl : st.length < 29) : bl ((x >>> ((1 : Int32) &&& 31)) ||| (x &&& 1)) ((a || b) :: st) := by
  intro j hj
  rw [List.length_cons] at hj
  have h1 := h j (by simp only [List.length_cons]; omega)
  have h2 := h (j + 1) (by simp only [List.length_cons]; omega)
  rw [b_or, b_and, b_sr1 x (by omega), h1, h2, b_one j (by omega)]
  cases j with
  | zero => cases a <;> cases b <;> rfl
  | succ j => rw [decide_eq_false (by omega), Bool.and_false, Bool.or_false]; rfl
theorem cX_t {s : Nat} (h : s < 1800) : cX s = nI s := if_pos h
theorem nI_ne {a b : Nat} (ha : a < 2 ^ 31) (hb : b < 2 ^ 31) (h : a ≠ b) : ¬ nI a = nI b := fun z => h ((nI_eq ha hb).mp z)
theorem cX_m {s : Nat} (h : s < 1800) : ¬ cX s = -1 ∧ ¬ cX s = -2 ∧ ¬ cX s = -3 := by
  rw [cX_t h]
  have g : ∀ c : Int32, c.toInt < 0 → ¬ nI s = c := fun c hc z => by
    have := congrArg Int32.toInt z
    rw [nI_toInt (by omega)] at this
    omega
  exact ⟨g _ (by decide), g _ (by decide), g _ (by decide)⟩
theorem bl_top {x : Int32} {b : Bool} {st : List Bool} (h : bl x (b :: st)) : x &&& 1 = 1 ↔ b = true := by
  have h0 : bt x 0 = b := h 0 (by simp)
  constructor
  · intro z
    have := congrArg (bt · 0) z
    simp only [b_and, b_one 0 (by omega), decide_true, Bool.and_true] at this
    rw [← h0]; exact this
  · intro z
    apply b_ext
    intro i hi
    rw [b_and, b_one i hi]
    by_cases e : i = 0
    · subst e
      rw [h0, z]; rfl
    · rw [decide_eq_false e, Bool.and_false]
theorem y_stands_58_26 {C : zC} (hC : zCm C) {Q : zQ} {m : zM} {vw code : Nat → Nat} {e : Nat} (he : e ≤ 100) (hc : ∀ j, j < e → gI m 62 j = cX (code j)) (hv : ∀ l, l < 6 → gI m 26 l = nI (vw l) ∧ vw l < 2 ^ 31) (v2 : Int32) :
    ∀ (k i : Nat) (x : Int32) (st : List Bool), i + k = e → hW code i st.length k → st.length < 31 → bl x st → Q (some (.int (zb (hH (hR vw code i st k))))) m →
    zRun C 1 (some .boolean) zc_Garden_stands Q 6 [.ref 58, .ref 26, .int v2, .int (nI e), .int x, .int (nI i), .retAddr 0, .retAddr 0, .retAddr 0, .retAddr 0, .retAddr 0] [] m
  | 0, i, x, st, hi, hw, _, hb, h => by
    refine sg_Garden_stands_58_26_6 hC _ _ _ _ m (ip (nI_le (by omega) (by omega)) ?_)
    have hw : st.length = 1 := hw
    match st, hw with
    | [b], _ =>
      cases b with
      | true => exact iq (fun z => z ((bl_top hb).mpr rfl)) ⟨rfl, h⟩
      | false => exact ip (fun z => by have := (bl_top hb).mp z; cases this) ⟨rfl, h⟩
  | k + 1, i, x, st, hi, hw, hl, hb, h => by
    have wk : ∀ {u : List Value} {y : Int32}, (∀ st', st' = hS vw (code i) st → hW code (i + 1) st'.length k ∧ st'.length < 31 ∧ bl y st') → zle [.ref 58, .ref 26, .int v2, .int (nI e), .int y, .int (nI (i + 1)), .retAddr 0, .retAddr 0, .retAddr 0, .retAddr 0, .retAddr 0] u → zRun C 1 (some .boolean) zc_Garden_stands Q 6 u [] m := fun hst hz =>
      zRun_le hC hz (y_stands_58_26 hC he hc hv v2 k (i + 1) _ _ (by omega) (hst _ rfl).1 (hst _ rfl).2.1 (hst _ rfl).2.2 h)
    refine sg_Garden_stands_58_26_6 hC _ _ _ _ m (iq (nI_ge (by omega) (by omega)) ⟨vp_in_nI (by omega) (by omega), ?_⟩)
    rw [nI_clamp (by omega), hc i (by omega), nI_1]
    rcases hw with ⟨h1, h2, h3⟩ | ⟨h1, h2, h3⟩ | ⟨h1, e2, h2, h3⟩
    · obtain ⟨n1, n2, n3⟩ := cX_m h1
      refine ip n1 (ip n2 (ip n3 ?_))
      have hl6 : code i / 300 < 6 := by omega
      rw [cX_t h1, show (300 : Int32) = nI 300 from rfl, show (100 : Int32) = nI 100 from rfl, show (3 : Int32) = nI 3 from rfl, pk_rem (by omega) (by omega) (by omega), pk_div (by omega) (by omega) (by omega), pk_div (by omega) (by omega) (by omega), pk_rem (by omega) (by omega) (by omega), nI_clamp (by omega), (hv _ hl6).1]
      have hvb := (hv _ hl6).2
      have fin : ∀ t : Nat, t < 3 → (decide (t = code i / 100 % 3) = hT vw (code i)) → zRun C 1 (some .boolean) zc_Garden_stands Q 130 [.ref 58, .ref 26, .int v2, .int (nI e), .int x, .int (nI i), .int (nI (code i)), .int (nI (code i / 300)), .int (nI (code i / 100 % 3)), .int (nI (code i % 100)), .retAddr 0] [.int (nI t)] m := by
        intro t ht hd
        have hs : hS vw (code i) st = hT vw (code i) :: st := if_pos h1
        have hst : ∀ y, y = (x <<< ((1 : Int32) &&& 31)) ||| zb (hT vw (code i)) → ∀ st', st' = hS vw (code i) st → hW code (i + 1) st'.length k ∧ st'.length < 31 ∧ bl y st' := by
          rintro y rfl st' rfl
          rw [hs]
          exact ⟨h3, by rw [List.length_cons]; omega, bl_psh _ hb (by omega)⟩
        refine sg_Garden_stands_58_26_130 hC _ _ _ _ _ _ _ _ _ m ?_
        rw [nI_1]
        by_cases q : t = code i / 100 % 3
        · rw [decide_eq_true q] at hd
          refine iq (fun z => z (by rw [q])) (wk (hst _ (by rw [← hd])) ?_)
          repeat (first | exact zle_nil | apply zle_same | apply zle_new _ rfl)
        · rw [decide_eq_false q] at hd
          refine ip (nI_ne (by omega) (by omega) q) (wk (hst _ (by rw [← hd])) ?_)
          repeat (first | exact zle_nil | apply zle_same | apply zle_new _ rfl)
      refine ⟨by decide, by decide, by decide, by decide, vp_in_nI hl6 (by omega), ?_⟩
      unfold hT at fin
      by_cases q1 : vw (code i / 300) < code i % 100
      · refine iq (nI_ge q1 (by omega)) (fin 0 (by omega) ?_)
        by_cases r0 : code i / 100 % 3 = 0
        · rw [if_pos r0, decide_eq_true q1, r0]; rfl
        · rw [if_neg r0, decide_eq_false (fun z => r0 z.symm)]
          by_cases r1 : code i / 100 % 3 = 1
          · rw [if_pos r1, decide_eq_false (by omega)]
          · rw [if_neg r1, decide_eq_false (by omega)]
      · refine ip (nI_le (by omega) (by omega)) ⟨vp_in_nI hl6 (by omega), ?_⟩
        by_cases q2 : vw (code i / 300) = code i % 100
        · refine iq (fun z => z (by rw [q2])) (fin 1 (by omega) ?_)
          by_cases r0 : code i / 100 % 3 = 0
          · rw [if_pos r0, decide_eq_false q1, r0]; rfl
          · rw [if_neg r0]
            by_cases r1 : code i / 100 % 3 = 1
            · rw [if_pos r1, decide_eq_true q2, r1]; rfl
            · rw [if_neg r1, decide_eq_false (fun z => r1 z.symm), decide_eq_false (by omega)]
        · refine ip (nI_ne hvb (by omega) q2) (fin 2 (by omega) ?_)
          by_cases r0 : code i / 100 % 3 = 0
          · rw [if_pos r0, decide_eq_false q1, r0]; rfl
          · rw [if_neg r0]
            by_cases r1 : code i / 100 % 3 = 1
            · rw [if_pos r1, decide_eq_false q2, r1]; rfl
            · rw [if_neg r1, decide_eq_true (by omega), decide_eq_true (by omega)]
    · rw [show cX (code i) = -1 from by rw [h1]; rfl]
      refine iq (fun z => z rfl) (wk ?_ (by repeat (first | exact zle_nil | apply zle_same | apply zle_new _ rfl)))
      rintro st' rfl
      have hs : hS vw (code i) st = hN st := by rw [h1]; rfl
      rw [hs]
      match st, h2 with
      | b :: r, _ => exact ⟨h3, hl, bl_not hb (by rw [List.length_cons] at hl; omega)⟩
    · match st, h2 with
      | b :: a :: r, h2 =>
        have h4 : r.length = e2 := by simp only [List.length_cons] at h2; omega
        rw [List.length_cons, List.length_cons] at hl
        rcases h1 with h1 | h1
        · rw [show cX (code i) = -2 from by rw [h1]; rfl]
          refine ip (by decide) (iq (fun z => z rfl) (wk ?_ (by repeat (first | exact zle_nil | apply zle_same | apply zle_new _ rfl))))
          rintro st' rfl
          rw [show hS vw (code i) (b :: a :: r) = (a && b) :: r from by rw [h1]; rfl]
          exact ⟨by rw [List.length_cons, h4]; exact h3, by rw [List.length_cons]; omega, bl_and hb (by omega)⟩
        · rw [show cX (code i) = -3 from by rw [h1]; rfl]
          refine ip (by decide) (ip (by decide) (iq (fun z => z rfl) (wk ?_ (by repeat (first | exact zle_nil | apply zle_same | apply zle_new _ rfl)))))
          rintro st' rfl
          rw [show hS vw (code i) (b :: a :: r) = (a || b) :: r from by rw [h1]; rfl]
          exact ⟨by rw [List.length_cons, h4]; exact h3, by rw [List.length_cons]; omega, bl_or hb (by omega)⟩
theorem y_stands_58_50 {C : zC} (hC : zCm C) {Q : zQ} {m : zM} {vw code : Nat → Nat} {e : Nat} (he : e ≤ 100) (hc : ∀ j, j < e → gI m 62 j = cX (code j)) (hv : ∀ l, l < 6 → gI m 50 l = nI (vw l) ∧ vw l < 2 ^ 31) (v2 : Int32) :
    ∀ (k i : Nat) (x : Int32) (st : List Bool), i + k = e → hW code i st.length k → st.length < 31 → bl x st → Q (some (.int (zb (hH (hR vw code i st k))))) m →
    zRun C 1 (some .boolean) zc_Garden_stands Q 6 [.ref 58, .ref 50, .int v2, .int (nI e), .int x, .int (nI i), .retAddr 0, .retAddr 0, .retAddr 0, .retAddr 0, .retAddr 0] [] m
  | 0, i, x, st, hi, hw, _, hb, h => by
    refine sg_Garden_stands_58_50_6 hC _ _ _ _ m (ip (nI_le (by omega) (by omega)) ?_)
    have hw : st.length = 1 := hw
    match st, hw with
    | [b], _ =>
      cases b with
      | true => exact iq (fun z => z ((bl_top hb).mpr rfl)) ⟨rfl, h⟩
      | false => exact ip (fun z => by have := (bl_top hb).mp z; cases this) ⟨rfl, h⟩
  | k + 1, i, x, st, hi, hw, hl, hb, h => by
    have wk : ∀ {u : List Value} {y : Int32}, (∀ st', st' = hS vw (code i) st → hW code (i + 1) st'.length k ∧ st'.length < 31 ∧ bl y st') → zle [.ref 58, .ref 50, .int v2, .int (nI e), .int y, .int (nI (i + 1)), .retAddr 0, .retAddr 0, .retAddr 0, .retAddr 0, .retAddr 0] u → zRun C 1 (some .boolean) zc_Garden_stands Q 6 u [] m := fun hst hz =>
      zRun_le hC hz (y_stands_58_50 hC he hc hv v2 k (i + 1) _ _ (by omega) (hst _ rfl).1 (hst _ rfl).2.1 (hst _ rfl).2.2 h)
    refine sg_Garden_stands_58_50_6 hC _ _ _ _ m (iq (nI_ge (by omega) (by omega)) ⟨vp_in_nI (by omega) (by omega), ?_⟩)
    rw [nI_clamp (by omega), hc i (by omega), nI_1]
    rcases hw with ⟨h1, h2, h3⟩ | ⟨h1, h2, h3⟩ | ⟨h1, e2, h2, h3⟩
    · obtain ⟨n1, n2, n3⟩ := cX_m h1
      refine ip n1 (ip n2 (ip n3 ?_))
      have hl6 : code i / 300 < 6 := by omega
      rw [cX_t h1, show (300 : Int32) = nI 300 from rfl, show (100 : Int32) = nI 100 from rfl, show (3 : Int32) = nI 3 from rfl, pk_rem (by omega) (by omega) (by omega), pk_div (by omega) (by omega) (by omega), pk_div (by omega) (by omega) (by omega), pk_rem (by omega) (by omega) (by omega), nI_clamp (by omega), (hv _ hl6).1]
      have hvb := (hv _ hl6).2
      have fin : ∀ t : Nat, t < 3 → (decide (t = code i / 100 % 3) = hT vw (code i)) → zRun C 1 (some .boolean) zc_Garden_stands Q 130 [.ref 58, .ref 50, .int v2, .int (nI e), .int x, .int (nI i), .int (nI (code i)), .int (nI (code i / 300)), .int (nI (code i / 100 % 3)), .int (nI (code i % 100)), .retAddr 0] [.int (nI t)] m := by
        intro t ht hd
        have hs : hS vw (code i) st = hT vw (code i) :: st := if_pos h1
        have hst : ∀ y, y = (x <<< ((1 : Int32) &&& 31)) ||| zb (hT vw (code i)) → ∀ st', st' = hS vw (code i) st → hW code (i + 1) st'.length k ∧ st'.length < 31 ∧ bl y st' := by
          rintro y rfl st' rfl
          rw [hs]
          exact ⟨h3, by rw [List.length_cons]; omega, bl_psh _ hb (by omega)⟩
        refine sg_Garden_stands_58_50_130 hC _ _ _ _ _ _ _ _ _ m ?_
        rw [nI_1]
        by_cases q : t = code i / 100 % 3
        · rw [decide_eq_true q] at hd
          refine iq (fun z => z (by rw [q])) (wk (hst _ (by rw [← hd])) ?_)
          repeat (first | exact zle_nil | apply zle_same | apply zle_new _ rfl)
        · rw [decide_eq_false q] at hd
          refine ip (nI_ne (by omega) (by omega) q) (wk (hst _ (by rw [← hd])) ?_)
          repeat (first | exact zle_nil | apply zle_same | apply zle_new _ rfl)
      refine ⟨by decide, by decide, by decide, by decide, vp_in_nI hl6 (by omega), ?_⟩
      unfold hT at fin
      by_cases q1 : vw (code i / 300) < code i % 100
      · refine iq (nI_ge q1 (by omega)) (fin 0 (by omega) ?_)
        by_cases r0 : code i / 100 % 3 = 0
        · rw [if_pos r0, decide_eq_true q1, r0]; rfl
        · rw [if_neg r0, decide_eq_false (fun z => r0 z.symm)]
          by_cases r1 : code i / 100 % 3 = 1
          · rw [if_pos r1, decide_eq_false (by omega)]
          · rw [if_neg r1, decide_eq_false (by omega)]
      · refine ip (nI_le (by omega) (by omega)) ⟨vp_in_nI hl6 (by omega), ?_⟩
        by_cases q2 : vw (code i / 300) = code i % 100
        · refine iq (fun z => z (by rw [q2])) (fin 1 (by omega) ?_)
          by_cases r0 : code i / 100 % 3 = 0
          · rw [if_pos r0, decide_eq_false q1, r0]; rfl
          · rw [if_neg r0]
            by_cases r1 : code i / 100 % 3 = 1
            · rw [if_pos r1, decide_eq_true q2, r1]; rfl
            · rw [if_neg r1, decide_eq_false (fun z => r1 z.symm), decide_eq_false (by omega)]
        · refine ip (nI_ne hvb (by omega) q2) (fin 2 (by omega) ?_)
          by_cases r0 : code i / 100 % 3 = 0
          · rw [if_pos r0, decide_eq_false q1, r0]; rfl
          · rw [if_neg r0]
            by_cases r1 : code i / 100 % 3 = 1
            · rw [if_pos r1, decide_eq_false q2, r1]; rfl
            · rw [if_neg r1, decide_eq_true (by omega), decide_eq_true (by omega)]
    · rw [show cX (code i) = -1 from by rw [h1]; rfl]
      refine iq (fun z => z rfl) (wk ?_ (by repeat (first | exact zle_nil | apply zle_same | apply zle_new _ rfl)))
      rintro st' rfl
      have hs : hS vw (code i) st = hN st := by rw [h1]; rfl
      rw [hs]
      match st, h2 with
      | b :: r, _ => exact ⟨h3, hl, bl_not hb (by rw [List.length_cons] at hl; omega)⟩
    · match st, h2 with
      | b :: a :: r, h2 =>
        have h4 : r.length = e2 := by simp only [List.length_cons] at h2; omega
        rw [List.length_cons, List.length_cons] at hl
        rcases h1 with h1 | h1
        · rw [show cX (code i) = -2 from by rw [h1]; rfl]
          refine ip (by decide) (iq (fun z => z rfl) (wk ?_ (by repeat (first | exact zle_nil | apply zle_same | apply zle_new _ rfl))))
          rintro st' rfl
          rw [show hS vw (code i) (b :: a :: r) = (a && b) :: r from by rw [h1]; rfl]
          exact ⟨by rw [List.length_cons, h4]; exact h3, by rw [List.length_cons]; omega, bl_and hb (by omega)⟩
        · rw [show cX (code i) = -3 from by rw [h1]; rfl]
          refine ip (by decide) (ip (by decide) (iq (fun z => z rfl) (wk ?_ (by repeat (first | exact zle_nil | apply zle_same | apply zle_new _ rfl)))))
          rintro st' rfl
          rw [show hS vw (code i) (b :: a :: r) = (a || b) :: r from by rw [h1]; rfl]
          exact ⟨by rw [List.length_cons, h4]; exact h3, by rw [List.length_cons]; omega, bl_or hb (by omega)⟩
theorem y_stands_63_26 {C : zC} (hC : zCm C) {Q : zQ} {m : zM} {vw code : Nat → Nat} {e : Nat} (he : e ≤ 100) (hc : ∀ j, j < e → gI m 67 j = cX (code j)) (hv : ∀ l, l < 6 → gI m 26 l = nI (vw l) ∧ vw l < 2 ^ 31) (v2 : Int32) :
    ∀ (k i : Nat) (x : Int32) (st : List Bool), i + k = e → hW code i st.length k → st.length < 31 → bl x st → Q (some (.int (zb (hH (hR vw code i st k))))) m →
    zRun C 1 (some .boolean) zc_Garden_stands Q 6 [.ref 63, .ref 26, .int v2, .int (nI e), .int x, .int (nI i), .retAddr 0, .retAddr 0, .retAddr 0, .retAddr 0, .retAddr 0] [] m
  | 0, i, x, st, hi, hw, _, hb, h => by
    refine sg_Garden_stands_63_26_6 hC _ _ _ _ m (ip (nI_le (by omega) (by omega)) ?_)
    have hw : st.length = 1 := hw
    match st, hw with
    | [b], _ =>
      cases b with
      | true => exact iq (fun z => z ((bl_top hb).mpr rfl)) ⟨rfl, h⟩
      | false => exact ip (fun z => by have := (bl_top hb).mp z; cases this) ⟨rfl, h⟩
  | k + 1, i, x, st, hi, hw, hl, hb, h => by
    have wk : ∀ {u : List Value} {y : Int32}, (∀ st', st' = hS vw (code i) st → hW code (i + 1) st'.length k ∧ st'.length < 31 ∧ bl y st') → zle [.ref 63, .ref 26, .int v2, .int (nI e), .int y, .int (nI (i + 1)), .retAddr 0, .retAddr 0, .retAddr 0, .retAddr 0, .retAddr 0] u → zRun C 1 (some .boolean) zc_Garden_stands Q 6 u [] m := fun hst hz =>
      zRun_le hC hz (y_stands_63_26 hC he hc hv v2 k (i + 1) _ _ (by omega) (hst _ rfl).1 (hst _ rfl).2.1 (hst _ rfl).2.2 h)
    refine sg_Garden_stands_63_26_6 hC _ _ _ _ m (iq (nI_ge (by omega) (by omega)) ⟨vp_in_nI (by omega) (by omega), ?_⟩)
    rw [nI_clamp (by omega), hc i (by omega), nI_1]
    rcases hw with ⟨h1, h2, h3⟩ | ⟨h1, h2, h3⟩ | ⟨h1, e2, h2, h3⟩
    · obtain ⟨n1, n2, n3⟩ := cX_m h1
      refine ip n1 (ip n2 (ip n3 ?_))
      have hl6 : code i / 300 < 6 := by omega
      rw [cX_t h1, show (300 : Int32) = nI 300 from rfl, show (100 : Int32) = nI 100 from rfl, show (3 : Int32) = nI 3 from rfl, pk_rem (by omega) (by omega) (by omega), pk_div (by omega) (by omega) (by omega), pk_div (by omega) (by omega) (by omega), pk_rem (by omega) (by omega) (by omega), nI_clamp (by omega), (hv _ hl6).1]
      have hvb := (hv _ hl6).2
      have fin : ∀ t : Nat, t < 3 → (decide (t = code i / 100 % 3) = hT vw (code i)) → zRun C 1 (some .boolean) zc_Garden_stands Q 130 [.ref 63, .ref 26, .int v2, .int (nI e), .int x, .int (nI i), .int (nI (code i)), .int (nI (code i / 300)), .int (nI (code i / 100 % 3)), .int (nI (code i % 100)), .retAddr 0] [.int (nI t)] m := by
        intro t ht hd
        have hs : hS vw (code i) st = hT vw (code i) :: st := if_pos h1
        have hst : ∀ y, y = (x <<< ((1 : Int32) &&& 31)) ||| zb (hT vw (code i)) → ∀ st', st' = hS vw (code i) st → hW code (i + 1) st'.length k ∧ st'.length < 31 ∧ bl y st' := by
          rintro y rfl st' rfl
          rw [hs]
          exact ⟨h3, by rw [List.length_cons]; omega, bl_psh _ hb (by omega)⟩
        refine sg_Garden_stands_63_26_130 hC _ _ _ _ _ _ _ _ _ m ?_
        rw [nI_1]
        by_cases q : t = code i / 100 % 3
        · rw [decide_eq_true q] at hd
          refine iq (fun z => z (by rw [q])) (wk (hst _ (by rw [← hd])) ?_)
          repeat (first | exact zle_nil | apply zle_same | apply zle_new _ rfl)
        · rw [decide_eq_false q] at hd
          refine ip (nI_ne (by omega) (by omega) q) (wk (hst _ (by rw [← hd])) ?_)
          repeat (first | exact zle_nil | apply zle_same | apply zle_new _ rfl)
      refine ⟨by decide, by decide, by decide, by decide, vp_in_nI hl6 (by omega), ?_⟩
      unfold hT at fin
      by_cases q1 : vw (code i / 300) < code i % 100
      · refine iq (nI_ge q1 (by omega)) (fin 0 (by omega) ?_)
        by_cases r0 : code i / 100 % 3 = 0
        · rw [if_pos r0, decide_eq_true q1, r0]; rfl
        · rw [if_neg r0, decide_eq_false (fun z => r0 z.symm)]
          by_cases r1 : code i / 100 % 3 = 1
          · rw [if_pos r1, decide_eq_false (by omega)]
          · rw [if_neg r1, decide_eq_false (by omega)]
      · refine ip (nI_le (by omega) (by omega)) ⟨vp_in_nI hl6 (by omega), ?_⟩
        by_cases q2 : vw (code i / 300) = code i % 100
        · refine iq (fun z => z (by rw [q2])) (fin 1 (by omega) ?_)
          by_cases r0 : code i / 100 % 3 = 0
          · rw [if_pos r0, decide_eq_false q1, r0]; rfl
          · rw [if_neg r0]
            by_cases r1 : code i / 100 % 3 = 1
            · rw [if_pos r1, decide_eq_true q2, r1]; rfl
            · rw [if_neg r1, decide_eq_false (fun z => r1 z.symm), decide_eq_false (by omega)]
        · refine ip (nI_ne hvb (by omega) q2) (fin 2 (by omega) ?_)
          by_cases r0 : code i / 100 % 3 = 0
          · rw [if_pos r0, decide_eq_false q1, r0]; rfl
          · rw [if_neg r0]
            by_cases r1 : code i / 100 % 3 = 1
            · rw [if_pos r1, decide_eq_false q2, r1]; rfl
            · rw [if_neg r1, decide_eq_true (by omega), decide_eq_true (by omega)]
    · rw [show cX (code i) = -1 from by rw [h1]; rfl]
      refine iq (fun z => z rfl) (wk ?_ (by repeat (first | exact zle_nil | apply zle_same | apply zle_new _ rfl)))
      rintro st' rfl
      have hs : hS vw (code i) st = hN st := by rw [h1]; rfl
      rw [hs]
      match st, h2 with
      | b :: r, _ => exact ⟨h3, hl, bl_not hb (by rw [List.length_cons] at hl; omega)⟩
    · match st, h2 with
      | b :: a :: r, h2 =>
        have h4 : r.length = e2 := by simp only [List.length_cons] at h2; omega
        rw [List.length_cons, List.length_cons] at hl
        rcases h1 with h1 | h1
        · rw [show cX (code i) = -2 from by rw [h1]; rfl]
          refine ip (by decide) (iq (fun z => z rfl) (wk ?_ (by repeat (first | exact zle_nil | apply zle_same | apply zle_new _ rfl))))
          rintro st' rfl
          rw [show hS vw (code i) (b :: a :: r) = (a && b) :: r from by rw [h1]; rfl]
          exact ⟨by rw [List.length_cons, h4]; exact h3, by rw [List.length_cons]; omega, bl_and hb (by omega)⟩
        · rw [show cX (code i) = -3 from by rw [h1]; rfl]
          refine ip (by decide) (ip (by decide) (iq (fun z => z rfl) (wk ?_ (by repeat (first | exact zle_nil | apply zle_same | apply zle_new _ rfl)))))
          rintro st' rfl
          rw [show hS vw (code i) (b :: a :: r) = (a || b) :: r from by rw [h1]; rfl]
          exact ⟨by rw [List.length_cons, h4]; exact h3, by rw [List.length_cons]; omega, bl_or hb (by omega)⟩
theorem y_stands_63_50 {C : zC} (hC : zCm C) {Q : zQ} {m : zM} {vw code : Nat → Nat} {e : Nat} (he : e ≤ 100) (hc : ∀ j, j < e → gI m 67 j = cX (code j)) (hv : ∀ l, l < 6 → gI m 50 l = nI (vw l) ∧ vw l < 2 ^ 31) (v2 : Int32) :
    ∀ (k i : Nat) (x : Int32) (st : List Bool), i + k = e → hW code i st.length k → st.length < 31 → bl x st → Q (some (.int (zb (hH (hR vw code i st k))))) m →
    zRun C 1 (some .boolean) zc_Garden_stands Q 6 [.ref 63, .ref 50, .int v2, .int (nI e), .int x, .int (nI i), .retAddr 0, .retAddr 0, .retAddr 0, .retAddr 0, .retAddr 0] [] m
  | 0, i, x, st, hi, hw, _, hb, h => by
    refine sg_Garden_stands_63_50_6 hC _ _ _ _ m (ip (nI_le (by omega) (by omega)) ?_)
    have hw : st.length = 1 := hw
    match st, hw with
    | [b], _ =>
      cases b with
      | true => exact iq (fun z => z ((bl_top hb).mpr rfl)) ⟨rfl, h⟩
      | false => exact ip (fun z => by have := (bl_top hb).mp z; cases this) ⟨rfl, h⟩
  | k + 1, i, x, st, hi, hw, hl, hb, h => by
    have wk : ∀ {u : List Value} {y : Int32}, (∀ st', st' = hS vw (code i) st → hW code (i + 1) st'.length k ∧ st'.length < 31 ∧ bl y st') → zle [.ref 63, .ref 50, .int v2, .int (nI e), .int y, .int (nI (i + 1)), .retAddr 0, .retAddr 0, .retAddr 0, .retAddr 0, .retAddr 0] u → zRun C 1 (some .boolean) zc_Garden_stands Q 6 u [] m := fun hst hz =>
      zRun_le hC hz (y_stands_63_50 hC he hc hv v2 k (i + 1) _ _ (by omega) (hst _ rfl).1 (hst _ rfl).2.1 (hst _ rfl).2.2 h)
    refine sg_Garden_stands_63_50_6 hC _ _ _ _ m (iq (nI_ge (by omega) (by omega)) ⟨vp_in_nI (by omega) (by omega), ?_⟩)
    rw [nI_clamp (by omega), hc i (by omega), nI_1]
    rcases hw with ⟨h1, h2, h3⟩ | ⟨h1, h2, h3⟩ | ⟨h1, e2, h2, h3⟩
    · obtain ⟨n1, n2, n3⟩ := cX_m h1
      refine ip n1 (ip n2 (ip n3 ?_))
      have hl6 : code i / 300 < 6 := by omega
      rw [cX_t h1, show (300 : Int32) = nI 300 from rfl, show (100 : Int32) = nI 100 from rfl, show (3 : Int32) = nI 3 from rfl, pk_rem (by omega) (by omega) (by omega), pk_div (by omega) (by omega) (by omega), pk_div (by omega) (by omega) (by omega), pk_rem (by omega) (by omega) (by omega), nI_clamp (by omega), (hv _ hl6).1]
      have hvb := (hv _ hl6).2
      have fin : ∀ t : Nat, t < 3 → (decide (t = code i / 100 % 3) = hT vw (code i)) → zRun C 1 (some .boolean) zc_Garden_stands Q 130 [.ref 63, .ref 50, .int v2, .int (nI e), .int x, .int (nI i), .int (nI (code i)), .int (nI (code i / 300)), .int (nI (code i / 100 % 3)), .int (nI (code i % 100)), .retAddr 0] [.int (nI t)] m := by
        intro t ht hd
        have hs : hS vw (code i) st = hT vw (code i) :: st := if_pos h1
        have hst : ∀ y, y = (x <<< ((1 : Int32) &&& 31)) ||| zb (hT vw (code i)) → ∀ st', st' = hS vw (code i) st → hW code (i + 1) st'.length k ∧ st'.length < 31 ∧ bl y st' := by
          rintro y rfl st' rfl
          rw [hs]
          exact ⟨h3, by rw [List.length_cons]; omega, bl_psh _ hb (by omega)⟩
        refine sg_Garden_stands_63_50_130 hC _ _ _ _ _ _ _ _ _ m ?_
        rw [nI_1]
        by_cases q : t = code i / 100 % 3
        · rw [decide_eq_true q] at hd
          refine iq (fun z => z (by rw [q])) (wk (hst _ (by rw [← hd])) ?_)
          repeat (first | exact zle_nil | apply zle_same | apply zle_new _ rfl)
        · rw [decide_eq_false q] at hd
          refine ip (nI_ne (by omega) (by omega) q) (wk (hst _ (by rw [← hd])) ?_)
          repeat (first | exact zle_nil | apply zle_same | apply zle_new _ rfl)
      refine ⟨by decide, by decide, by decide, by decide, vp_in_nI hl6 (by omega), ?_⟩
      unfold hT at fin
      by_cases q1 : vw (code i / 300) < code i % 100
      · refine iq (nI_ge q1 (by omega)) (fin 0 (by omega) ?_)
        by_cases r0 : code i / 100 % 3 = 0
        · rw [if_pos r0, decide_eq_true q1, r0]; rfl
        · rw [if_neg r0, decide_eq_false (fun z => r0 z.symm)]
          by_cases r1 : code i / 100 % 3 = 1
          · rw [if_pos r1, decide_eq_false (by omega)]
          · rw [if_neg r1, decide_eq_false (by omega)]
      · refine ip (nI_le (by omega) (by omega)) ⟨vp_in_nI hl6 (by omega), ?_⟩
        by_cases q2 : vw (code i / 300) = code i % 100
        · refine iq (fun z => z (by rw [q2])) (fin 1 (by omega) ?_)
          by_cases r0 : code i / 100 % 3 = 0
          · rw [if_pos r0, decide_eq_false q1, r0]; rfl
          · rw [if_neg r0]
            by_cases r1 : code i / 100 % 3 = 1
            · rw [if_pos r1, decide_eq_true q2, r1]; rfl
            · rw [if_neg r1, decide_eq_false (fun z => r1 z.symm), decide_eq_false (by omega)]
        · refine ip (nI_ne hvb (by omega) q2) (fin 2 (by omega) ?_)
          by_cases r0 : code i / 100 % 3 = 0
          · rw [if_pos r0, decide_eq_false q1, r0]; rfl
          · rw [if_neg r0]
            by_cases r1 : code i / 100 % 3 = 1
            · rw [if_pos r1, decide_eq_false q2, r1]; rfl
            · rw [if_neg r1, decide_eq_true (by omega), decide_eq_true (by omega)]
    · rw [show cX (code i) = -1 from by rw [h1]; rfl]
      refine iq (fun z => z rfl) (wk ?_ (by repeat (first | exact zle_nil | apply zle_same | apply zle_new _ rfl)))
      rintro st' rfl
      have hs : hS vw (code i) st = hN st := by rw [h1]; rfl
      rw [hs]
      match st, h2 with
      | b :: r, _ => exact ⟨h3, hl, bl_not hb (by rw [List.length_cons] at hl; omega)⟩
    · match st, h2 with
      | b :: a :: r, h2 =>
        have h4 : r.length = e2 := by simp only [List.length_cons] at h2; omega
        rw [List.length_cons, List.length_cons] at hl
        rcases h1 with h1 | h1
        · rw [show cX (code i) = -2 from by rw [h1]; rfl]
          refine ip (by decide) (iq (fun z => z rfl) (wk ?_ (by repeat (first | exact zle_nil | apply zle_same | apply zle_new _ rfl))))
          rintro st' rfl
          rw [show hS vw (code i) (b :: a :: r) = (a && b) :: r from by rw [h1]; rfl]
          exact ⟨by rw [List.length_cons, h4]; exact h3, by rw [List.length_cons]; omega, bl_and hb (by omega)⟩
        · rw [show cX (code i) = -3 from by rw [h1]; rfl]
          refine ip (by decide) (ip (by decide) (iq (fun z => z rfl) (wk ?_ (by repeat (first | exact zle_nil | apply zle_same | apply zle_new _ rfl)))))
          rintro st' rfl
          rw [show hS vw (code i) (b :: a :: r) = (a || b) :: r from by rw [h1]; rfl]
          exact ⟨by rw [List.length_cons, h4]; exact h3, by rw [List.length_cons]; omega, bl_or hb (by omega)⟩
theorem y_stands_68_26 {C : zC} (hC : zCm C) {Q : zQ} {m : zM} {vw code : Nat → Nat} {e : Nat} (he : e ≤ 100) (hc : ∀ j, j < e → gI m 72 j = cX (code j)) (hv : ∀ l, l < 6 → gI m 26 l = nI (vw l) ∧ vw l < 2 ^ 31) (v2 : Int32) :
    ∀ (k i : Nat) (x : Int32) (st : List Bool), i + k = e → hW code i st.length k → st.length < 31 → bl x st → Q (some (.int (zb (hH (hR vw code i st k))))) m →
    zRun C 1 (some .boolean) zc_Garden_stands Q 6 [.ref 68, .ref 26, .int v2, .int (nI e), .int x, .int (nI i), .retAddr 0, .retAddr 0, .retAddr 0, .retAddr 0, .retAddr 0] [] m
  | 0, i, x, st, hi, hw, _, hb, h => by
    refine sg_Garden_stands_68_26_6 hC _ _ _ _ m (ip (nI_le (by omega) (by omega)) ?_)
    have hw : st.length = 1 := hw
    match st, hw with
    | [b], _ =>
      cases b with
      | true => exact iq (fun z => z ((bl_top hb).mpr rfl)) ⟨rfl, h⟩
      | false => exact ip (fun z => by have := (bl_top hb).mp z; cases this) ⟨rfl, h⟩
  | k + 1, i, x, st, hi, hw, hl, hb, h => by
    have wk : ∀ {u : List Value} {y : Int32}, (∀ st', st' = hS vw (code i) st → hW code (i + 1) st'.length k ∧ st'.length < 31 ∧ bl y st') → zle [.ref 68, .ref 26, .int v2, .int (nI e), .int y, .int (nI (i + 1)), .retAddr 0, .retAddr 0, .retAddr 0, .retAddr 0, .retAddr 0] u → zRun C 1 (some .boolean) zc_Garden_stands Q 6 u [] m := fun hst hz =>
      zRun_le hC hz (y_stands_68_26 hC he hc hv v2 k (i + 1) _ _ (by omega) (hst _ rfl).1 (hst _ rfl).2.1 (hst _ rfl).2.2 h)
    refine sg_Garden_stands_68_26_6 hC _ _ _ _ m (iq (nI_ge (by omega) (by omega)) ⟨vp_in_nI (by omega) (by omega), ?_⟩)
    rw [nI_clamp (by omega), hc i (by omega), nI_1]
    rcases hw with ⟨h1, h2, h3⟩ | ⟨h1, h2, h3⟩ | ⟨h1, e2, h2, h3⟩
    · obtain ⟨n1, n2, n3⟩ := cX_m h1
      refine ip n1 (ip n2 (ip n3 ?_))
      have hl6 : code i / 300 < 6 := by omega
      rw [cX_t h1, show (300 : Int32) = nI 300 from rfl, show (100 : Int32) = nI 100 from rfl, show (3 : Int32) = nI 3 from rfl, pk_rem (by omega) (by omega) (by omega), pk_div (by omega) (by omega) (by omega), pk_div (by omega) (by omega) (by omega), pk_rem (by omega) (by omega) (by omega), nI_clamp (by omega), (hv _ hl6).1]
      have hvb := (hv _ hl6).2
      have fin : ∀ t : Nat, t < 3 → (decide (t = code i / 100 % 3) = hT vw (code i)) → zRun C 1 (some .boolean) zc_Garden_stands Q 130 [.ref 68, .ref 26, .int v2, .int (nI e), .int x, .int (nI i), .int (nI (code i)), .int (nI (code i / 300)), .int (nI (code i / 100 % 3)), .int (nI (code i % 100)), .retAddr 0] [.int (nI t)] m := by
        intro t ht hd
        have hs : hS vw (code i) st = hT vw (code i) :: st := if_pos h1
        have hst : ∀ y, y = (x <<< ((1 : Int32) &&& 31)) ||| zb (hT vw (code i)) → ∀ st', st' = hS vw (code i) st → hW code (i + 1) st'.length k ∧ st'.length < 31 ∧ bl y st' := by
          rintro y rfl st' rfl
          rw [hs]
          exact ⟨h3, by rw [List.length_cons]; omega, bl_psh _ hb (by omega)⟩
        refine sg_Garden_stands_68_26_130 hC _ _ _ _ _ _ _ _ _ m ?_
        rw [nI_1]
        by_cases q : t = code i / 100 % 3
        · rw [decide_eq_true q] at hd
          refine iq (fun z => z (by rw [q])) (wk (hst _ (by rw [← hd])) ?_)
          repeat (first | exact zle_nil | apply zle_same | apply zle_new _ rfl)
        · rw [decide_eq_false q] at hd
          refine ip (nI_ne (by omega) (by omega) q) (wk (hst _ (by rw [← hd])) ?_)
          repeat (first | exact zle_nil | apply zle_same | apply zle_new _ rfl)
      refine ⟨by decide, by decide, by decide, by decide, vp_in_nI hl6 (by omega), ?_⟩
      unfold hT at fin
      by_cases q1 : vw (code i / 300) < code i % 100
      · refine iq (nI_ge q1 (by omega)) (fin 0 (by omega) ?_)
        by_cases r0 : code i / 100 % 3 = 0
        · rw [if_pos r0, decide_eq_true q1, r0]; rfl
        · rw [if_neg r0, decide_eq_false (fun z => r0 z.symm)]
          by_cases r1 : code i / 100 % 3 = 1
          · rw [if_pos r1, decide_eq_false (by omega)]
          · rw [if_neg r1, decide_eq_false (by omega)]
      · refine ip (nI_le (by omega) (by omega)) ⟨vp_in_nI hl6 (by omega), ?_⟩
        by_cases q2 : vw (code i / 300) = code i % 100
        · refine iq (fun z => z (by rw [q2])) (fin 1 (by omega) ?_)
          by_cases r0 : code i / 100 % 3 = 0
          · rw [if_pos r0, decide_eq_false q1, r0]; rfl
          · rw [if_neg r0]
            by_cases r1 : code i / 100 % 3 = 1
            · rw [if_pos r1, decide_eq_true q2, r1]; rfl
            · rw [if_neg r1, decide_eq_false (fun z => r1 z.symm), decide_eq_false (by omega)]
        · refine ip (nI_ne hvb (by omega) q2) (fin 2 (by omega) ?_)
          by_cases r0 : code i / 100 % 3 = 0
          · rw [if_pos r0, decide_eq_false q1, r0]; rfl
          · rw [if_neg r0]
            by_cases r1 : code i / 100 % 3 = 1
            · rw [if_pos r1, decide_eq_false q2, r1]; rfl
            · rw [if_neg r1, decide_eq_true (by omega), decide_eq_true (by omega)]
    · rw [show cX (code i) = -1 from by rw [h1]; rfl]
      refine iq (fun z => z rfl) (wk ?_ (by repeat (first | exact zle_nil | apply zle_same | apply zle_new _ rfl)))
      rintro st' rfl
      have hs : hS vw (code i) st = hN st := by rw [h1]; rfl
      rw [hs]
      match st, h2 with
      | b :: r, _ => exact ⟨h3, hl, bl_not hb (by rw [List.length_cons] at hl; omega)⟩
    · match st, h2 with
      | b :: a :: r, h2 =>
        have h4 : r.length = e2 := by simp only [List.length_cons] at h2; omega
        rw [List.length_cons, List.length_cons] at hl
        rcases h1 with h1 | h1
        · rw [show cX (code i) = -2 from by rw [h1]; rfl]
          refine ip (by decide) (iq (fun z => z rfl) (wk ?_ (by repeat (first | exact zle_nil | apply zle_same | apply zle_new _ rfl))))
          rintro st' rfl
          rw [show hS vw (code i) (b :: a :: r) = (a && b) :: r from by rw [h1]; rfl]
          exact ⟨by rw [List.length_cons, h4]; exact h3, by rw [List.length_cons]; omega, bl_and hb (by omega)⟩
        · rw [show cX (code i) = -3 from by rw [h1]; rfl]
          refine ip (by decide) (ip (by decide) (iq (fun z => z rfl) (wk ?_ (by repeat (first | exact zle_nil | apply zle_same | apply zle_new _ rfl)))))
          rintro st' rfl
          rw [show hS vw (code i) (b :: a :: r) = (a || b) :: r from by rw [h1]; rfl]
          exact ⟨by rw [List.length_cons, h4]; exact h3, by rw [List.length_cons]; omega, bl_or hb (by omega)⟩
theorem y_stands_68_50 {C : zC} (hC : zCm C) {Q : zQ} {m : zM} {vw code : Nat → Nat} {e : Nat} (he : e ≤ 100) (hc : ∀ j, j < e → gI m 72 j = cX (code j)) (hv : ∀ l, l < 6 → gI m 50 l = nI (vw l) ∧ vw l < 2 ^ 31) (v2 : Int32) :
    ∀ (k i : Nat) (x : Int32) (st : List Bool), i + k = e → hW code i st.length k → st.length < 31 → bl x st → Q (some (.int (zb (hH (hR vw code i st k))))) m →
    zRun C 1 (some .boolean) zc_Garden_stands Q 6 [.ref 68, .ref 50, .int v2, .int (nI e), .int x, .int (nI i), .retAddr 0, .retAddr 0, .retAddr 0, .retAddr 0, .retAddr 0] [] m
  | 0, i, x, st, hi, hw, _, hb, h => by
    refine sg_Garden_stands_68_50_6 hC _ _ _ _ m (ip (nI_le (by omega) (by omega)) ?_)
    have hw : st.length = 1 := hw
    match st, hw with
    | [b], _ =>
      cases b with
      | true => exact iq (fun z => z ((bl_top hb).mpr rfl)) ⟨rfl, h⟩
      | false => exact ip (fun z => by have := (bl_top hb).mp z; cases this) ⟨rfl, h⟩
  | k + 1, i, x, st, hi, hw, hl, hb, h => by
    have wk : ∀ {u : List Value} {y : Int32}, (∀ st', st' = hS vw (code i) st → hW code (i + 1) st'.length k ∧ st'.length < 31 ∧ bl y st') → zle [.ref 68, .ref 50, .int v2, .int (nI e), .int y, .int (nI (i + 1)), .retAddr 0, .retAddr 0, .retAddr 0, .retAddr 0, .retAddr 0] u → zRun C 1 (some .boolean) zc_Garden_stands Q 6 u [] m := fun hst hz =>
      zRun_le hC hz (y_stands_68_50 hC he hc hv v2 k (i + 1) _ _ (by omega) (hst _ rfl).1 (hst _ rfl).2.1 (hst _ rfl).2.2 h)
    refine sg_Garden_stands_68_50_6 hC _ _ _ _ m (iq (nI_ge (by omega) (by omega)) ⟨vp_in_nI (by omega) (by omega), ?_⟩)
    rw [nI_clamp (by omega), hc i (by omega), nI_1]
    rcases hw with ⟨h1, h2, h3⟩ | ⟨h1, h2, h3⟩ | ⟨h1, e2, h2, h3⟩
    · obtain ⟨n1, n2, n3⟩ := cX_m h1
      refine ip n1 (ip n2 (ip n3 ?_))
      have hl6 : code i / 300 < 6 := by omega
      rw [cX_t h1, show (300 : Int32) = nI 300 from rfl, show (100 : Int32) = nI 100 from rfl, show (3 : Int32) = nI 3 from rfl, pk_rem (by omega) (by omega) (by omega), pk_div (by omega) (by omega) (by omega), pk_div (by omega) (by omega) (by omega), pk_rem (by omega) (by omega) (by omega), nI_clamp (by omega), (hv _ hl6).1]
      have hvb := (hv _ hl6).2
      have fin : ∀ t : Nat, t < 3 → (decide (t = code i / 100 % 3) = hT vw (code i)) → zRun C 1 (some .boolean) zc_Garden_stands Q 130 [.ref 68, .ref 50, .int v2, .int (nI e), .int x, .int (nI i), .int (nI (code i)), .int (nI (code i / 300)), .int (nI (code i / 100 % 3)), .int (nI (code i % 100)), .retAddr 0] [.int (nI t)] m := by
        intro t ht hd
        have hs : hS vw (code i) st = hT vw (code i) :: st := if_pos h1
        have hst : ∀ y, y = (x <<< ((1 : Int32) &&& 31)) ||| zb (hT vw (code i)) → ∀ st', st' = hS vw (code i) st → hW code (i + 1) st'.length k ∧ st'.length < 31 ∧ bl y st' := by
          rintro y rfl st' rfl
          rw [hs]
          exact ⟨h3, by rw [List.length_cons]; omega, bl_psh _ hb (by omega)⟩
        refine sg_Garden_stands_68_50_130 hC _ _ _ _ _ _ _ _ _ m ?_
        rw [nI_1]
        by_cases q : t = code i / 100 % 3
        · rw [decide_eq_true q] at hd
          refine iq (fun z => z (by rw [q])) (wk (hst _ (by rw [← hd])) ?_)
          repeat (first | exact zle_nil | apply zle_same | apply zle_new _ rfl)
        · rw [decide_eq_false q] at hd
          refine ip (nI_ne (by omega) (by omega) q) (wk (hst _ (by rw [← hd])) ?_)
          repeat (first | exact zle_nil | apply zle_same | apply zle_new _ rfl)
      refine ⟨by decide, by decide, by decide, by decide, vp_in_nI hl6 (by omega), ?_⟩
      unfold hT at fin
      by_cases q1 : vw (code i / 300) < code i % 100
      · refine iq (nI_ge q1 (by omega)) (fin 0 (by omega) ?_)
        by_cases r0 : code i / 100 % 3 = 0
        · rw [if_pos r0, decide_eq_true q1, r0]; rfl
        · rw [if_neg r0, decide_eq_false (fun z => r0 z.symm)]
          by_cases r1 : code i / 100 % 3 = 1
          · rw [if_pos r1, decide_eq_false (by omega)]
          · rw [if_neg r1, decide_eq_false (by omega)]
      · refine ip (nI_le (by omega) (by omega)) ⟨vp_in_nI hl6 (by omega), ?_⟩
        by_cases q2 : vw (code i / 300) = code i % 100
        · refine iq (fun z => z (by rw [q2])) (fin 1 (by omega) ?_)
          by_cases r0 : code i / 100 % 3 = 0
          · rw [if_pos r0, decide_eq_false q1, r0]; rfl
          · rw [if_neg r0]
            by_cases r1 : code i / 100 % 3 = 1
            · rw [if_pos r1, decide_eq_true q2, r1]; rfl
            · rw [if_neg r1, decide_eq_false (fun z => r1 z.symm), decide_eq_false (by omega)]
        · refine ip (nI_ne hvb (by omega) q2) (fin 2 (by omega) ?_)
          by_cases r0 : code i / 100 % 3 = 0
          · rw [if_pos r0, decide_eq_false q1, r0]; rfl
          · rw [if_neg r0]
            by_cases r1 : code i / 100 % 3 = 1
            · rw [if_pos r1, decide_eq_false q2, r1]; rfl
            · rw [if_neg r1, decide_eq_true (by omega), decide_eq_true (by omega)]
    · rw [show cX (code i) = -1 from by rw [h1]; rfl]
      refine iq (fun z => z rfl) (wk ?_ (by repeat (first | exact zle_nil | apply zle_same | apply zle_new _ rfl)))
      rintro st' rfl
      have hs : hS vw (code i) st = hN st := by rw [h1]; rfl
      rw [hs]
      match st, h2 with
      | b :: r, _ => exact ⟨h3, hl, bl_not hb (by rw [List.length_cons] at hl; omega)⟩
    · match st, h2 with
      | b :: a :: r, h2 =>
        have h4 : r.length = e2 := by simp only [List.length_cons] at h2; omega
        rw [List.length_cons, List.length_cons] at hl
        rcases h1 with h1 | h1
        · rw [show cX (code i) = -2 from by rw [h1]; rfl]
          refine ip (by decide) (iq (fun z => z rfl) (wk ?_ (by repeat (first | exact zle_nil | apply zle_same | apply zle_new _ rfl))))
          rintro st' rfl
          rw [show hS vw (code i) (b :: a :: r) = (a && b) :: r from by rw [h1]; rfl]
          exact ⟨by rw [List.length_cons, h4]; exact h3, by rw [List.length_cons]; omega, bl_and hb (by omega)⟩
        · rw [show cX (code i) = -3 from by rw [h1]; rfl]
          refine ip (by decide) (ip (by decide) (iq (fun z => z rfl) (wk ?_ (by repeat (first | exact zle_nil | apply zle_same | apply zle_new _ rfl)))))
          rintro st' rfl
          rw [show hS vw (code i) (b :: a :: r) = (a || b) :: r from by rw [h1]; rfl]
          exact ⟨by rw [List.length_cons, h4]; exact h3, by rw [List.length_cons]; omega, bl_or hb (by omega)⟩
theorem y_stands_73_26 {C : zC} (hC : zCm C) {Q : zQ} {m : zM} {vw code : Nat → Nat} {e : Nat} (he : e ≤ 100) (hc : ∀ j, j < e → gI m 77 j = cX (code j)) (hv : ∀ l, l < 6 → gI m 26 l = nI (vw l) ∧ vw l < 2 ^ 31) (v2 : Int32) :
    ∀ (k i : Nat) (x : Int32) (st : List Bool), i + k = e → hW code i st.length k → st.length < 31 → bl x st → Q (some (.int (zb (hH (hR vw code i st k))))) m →
    zRun C 1 (some .boolean) zc_Garden_stands Q 6 [.ref 73, .ref 26, .int v2, .int (nI e), .int x, .int (nI i), .retAddr 0, .retAddr 0, .retAddr 0, .retAddr 0, .retAddr 0] [] m
  | 0, i, x, st, hi, hw, _, hb, h => by
    refine sg_Garden_stands_73_26_6 hC _ _ _ _ m (ip (nI_le (by omega) (by omega)) ?_)
    have hw : st.length = 1 := hw
    match st, hw with
    | [b], _ =>
      cases b with
      | true => exact iq (fun z => z ((bl_top hb).mpr rfl)) ⟨rfl, h⟩
      | false => exact ip (fun z => by have := (bl_top hb).mp z; cases this) ⟨rfl, h⟩
  | k + 1, i, x, st, hi, hw, hl, hb, h => by
    have wk : ∀ {u : List Value} {y : Int32}, (∀ st', st' = hS vw (code i) st → hW code (i + 1) st'.length k ∧ st'.length < 31 ∧ bl y st') → zle [.ref 73, .ref 26, .int v2, .int (nI e), .int y, .int (nI (i + 1)), .retAddr 0, .retAddr 0, .retAddr 0, .retAddr 0, .retAddr 0] u → zRun C 1 (some .boolean) zc_Garden_stands Q 6 u [] m := fun hst hz =>
      zRun_le hC hz (y_stands_73_26 hC he hc hv v2 k (i + 1) _ _ (by omega) (hst _ rfl).1 (hst _ rfl).2.1 (hst _ rfl).2.2 h)
    refine sg_Garden_stands_73_26_6 hC _ _ _ _ m (iq (nI_ge (by omega) (by omega)) ⟨vp_in_nI (by omega) (by omega), ?_⟩)
    rw [nI_clamp (by omega), hc i (by omega), nI_1]
    rcases hw with ⟨h1, h2, h3⟩ | ⟨h1, h2, h3⟩ | ⟨h1, e2, h2, h3⟩
    · obtain ⟨n1, n2, n3⟩ := cX_m h1
      refine ip n1 (ip n2 (ip n3 ?_))
      have hl6 : code i / 300 < 6 := by omega
      rw [cX_t h1, show (300 : Int32) = nI 300 from rfl, show (100 : Int32) = nI 100 from rfl, show (3 : Int32) = nI 3 from rfl, pk_rem (by omega) (by omega) (by omega), pk_div (by omega) (by omega) (by omega), pk_div (by omega) (by omega) (by omega), pk_rem (by omega) (by omega) (by omega), nI_clamp (by omega), (hv _ hl6).1]
      have hvb := (hv _ hl6).2
      have fin : ∀ t : Nat, t < 3 → (decide (t = code i / 100 % 3) = hT vw (code i)) → zRun C 1 (some .boolean) zc_Garden_stands Q 130 [.ref 73, .ref 26, .int v2, .int (nI e), .int x, .int (nI i), .int (nI (code i)), .int (nI (code i / 300)), .int (nI (code i / 100 % 3)), .int (nI (code i % 100)), .retAddr 0] [.int (nI t)] m := by
        intro t ht hd
        have hs : hS vw (code i) st = hT vw (code i) :: st := if_pos h1
        have hst : ∀ y, y = (x <<< ((1 : Int32) &&& 31)) ||| zb (hT vw (code i)) → ∀ st', st' = hS vw (code i) st → hW code (i + 1) st'.length k ∧ st'.length < 31 ∧ bl y st' := by
          rintro y rfl st' rfl
          rw [hs]
          exact ⟨h3, by rw [List.length_cons]; omega, bl_psh _ hb (by omega)⟩
        refine sg_Garden_stands_73_26_130 hC _ _ _ _ _ _ _ _ _ m ?_
        rw [nI_1]
        by_cases q : t = code i / 100 % 3
        · rw [decide_eq_true q] at hd
          refine iq (fun z => z (by rw [q])) (wk (hst _ (by rw [← hd])) ?_)
          repeat (first | exact zle_nil | apply zle_same | apply zle_new _ rfl)
        · rw [decide_eq_false q] at hd
          refine ip (nI_ne (by omega) (by omega) q) (wk (hst _ (by rw [← hd])) ?_)
          repeat (first | exact zle_nil | apply zle_same | apply zle_new _ rfl)
      refine ⟨by decide, by decide, by decide, by decide, vp_in_nI hl6 (by omega), ?_⟩
      unfold hT at fin
      by_cases q1 : vw (code i / 300) < code i % 100
      · refine iq (nI_ge q1 (by omega)) (fin 0 (by omega) ?_)
        by_cases r0 : code i / 100 % 3 = 0
        · rw [if_pos r0, decide_eq_true q1, r0]; rfl
        · rw [if_neg r0, decide_eq_false (fun z => r0 z.symm)]
          by_cases r1 : code i / 100 % 3 = 1
          · rw [if_pos r1, decide_eq_false (by omega)]
          · rw [if_neg r1, decide_eq_false (by omega)]
      · refine ip (nI_le (by omega) (by omega)) ⟨vp_in_nI hl6 (by omega), ?_⟩
        by_cases q2 : vw (code i / 300) = code i % 100
        · refine iq (fun z => z (by rw [q2])) (fin 1 (by omega) ?_)
          by_cases r0 : code i / 100 % 3 = 0
          · rw [if_pos r0, decide_eq_false q1, r0]; rfl
          · rw [if_neg r0]
            by_cases r1 : code i / 100 % 3 = 1
            · rw [if_pos r1, decide_eq_true q2, r1]; rfl
            · rw [if_neg r1, decide_eq_false (fun z => r1 z.symm), decide_eq_false (by omega)]
        · refine ip (nI_ne hvb (by omega) q2) (fin 2 (by omega) ?_)
          by_cases r0 : code i / 100 % 3 = 0
          · rw [if_pos r0, decide_eq_false q1, r0]; rfl
          · rw [if_neg r0]
            by_cases r1 : code i / 100 % 3 = 1
            · rw [if_pos r1, decide_eq_false q2, r1]; rfl
            · rw [if_neg r1, decide_eq_true (by omega), decide_eq_true (by omega)]
    · rw [show cX (code i) = -1 from by rw [h1]; rfl]
      refine iq (fun z => z rfl) (wk ?_ (by repeat (first | exact zle_nil | apply zle_same | apply zle_new _ rfl)))
      rintro st' rfl
      have hs : hS vw (code i) st = hN st := by rw [h1]; rfl
      rw [hs]
      match st, h2 with
      | b :: r, _ => exact ⟨h3, hl, bl_not hb (by rw [List.length_cons] at hl; omega)⟩
    · match st, h2 with
      | b :: a :: r, h2 =>
        have h4 : r.length = e2 := by simp only [List.length_cons] at h2; omega
        rw [List.length_cons, List.length_cons] at hl
        rcases h1 with h1 | h1
        · rw [show cX (code i) = -2 from by rw [h1]; rfl]
          refine ip (by decide) (iq (fun z => z rfl) (wk ?_ (by repeat (first | exact zle_nil | apply zle_same | apply zle_new _ rfl))))
          rintro st' rfl
          rw [show hS vw (code i) (b :: a :: r) = (a && b) :: r from by rw [h1]; rfl]
          exact ⟨by rw [List.length_cons, h4]; exact h3, by rw [List.length_cons]; omega, bl_and hb (by omega)⟩
        · rw [show cX (code i) = -3 from by rw [h1]; rfl]
          refine ip (by decide) (ip (by decide) (iq (fun z => z rfl) (wk ?_ (by repeat (first | exact zle_nil | apply zle_same | apply zle_new _ rfl)))))
          rintro st' rfl
          rw [show hS vw (code i) (b :: a :: r) = (a || b) :: r from by rw [h1]; rfl]
          exact ⟨by rw [List.length_cons, h4]; exact h3, by rw [List.length_cons]; omega, bl_or hb (by omega)⟩
theorem y_stands_73_50 {C : zC} (hC : zCm C) {Q : zQ} {m : zM} {vw code : Nat → Nat} {e : Nat} (he : e ≤ 100) (hc : ∀ j, j < e → gI m 77 j = cX (code j)) (hv : ∀ l, l < 6 → gI m 50 l = nI (vw l) ∧ vw l < 2 ^ 31) (v2 : Int32) :
    ∀ (k i : Nat) (x : Int32) (st : List Bool), i + k = e → hW code i st.length k → st.length < 31 → bl x st → Q (some (.int (zb (hH (hR vw code i st k))))) m →
    zRun C 1 (some .boolean) zc_Garden_stands Q 6 [.ref 73, .ref 50, .int v2, .int (nI e), .int x, .int (nI i), .retAddr 0, .retAddr 0, .retAddr 0, .retAddr 0, .retAddr 0] [] m
  | 0, i, x, st, hi, hw, _, hb, h => by
    refine sg_Garden_stands_73_50_6 hC _ _ _ _ m (ip (nI_le (by omega) (by omega)) ?_)
    have hw : st.length = 1 := hw
    match st, hw with
    | [b], _ =>
      cases b with
      | true => exact iq (fun z => z ((bl_top hb).mpr rfl)) ⟨rfl, h⟩
      | false => exact ip (fun z => by have := (bl_top hb).mp z; cases this) ⟨rfl, h⟩
  | k + 1, i, x, st, hi, hw, hl, hb, h => by
    have wk : ∀ {u : List Value} {y : Int32}, (∀ st', st' = hS vw (code i) st → hW code (i + 1) st'.length k ∧ st'.length < 31 ∧ bl y st') → zle [.ref 73, .ref 50, .int v2, .int (nI e), .int y, .int (nI (i + 1)), .retAddr 0, .retAddr 0, .retAddr 0, .retAddr 0, .retAddr 0] u → zRun C 1 (some .boolean) zc_Garden_stands Q 6 u [] m := fun hst hz =>
      zRun_le hC hz (y_stands_73_50 hC he hc hv v2 k (i + 1) _ _ (by omega) (hst _ rfl).1 (hst _ rfl).2.1 (hst _ rfl).2.2 h)
    refine sg_Garden_stands_73_50_6 hC _ _ _ _ m (iq (nI_ge (by omega) (by omega)) ⟨vp_in_nI (by omega) (by omega), ?_⟩)
    rw [nI_clamp (by omega), hc i (by omega), nI_1]
    rcases hw with ⟨h1, h2, h3⟩ | ⟨h1, h2, h3⟩ | ⟨h1, e2, h2, h3⟩
    · obtain ⟨n1, n2, n3⟩ := cX_m h1
      refine ip n1 (ip n2 (ip n3 ?_))
      have hl6 : code i / 300 < 6 := by omega
      rw [cX_t h1, show (300 : Int32) = nI 300 from rfl, show (100 : Int32) = nI 100 from rfl, show (3 : Int32) = nI 3 from rfl, pk_rem (by omega) (by omega) (by omega), pk_div (by omega) (by omega) (by omega), pk_div (by omega) (by omega) (by omega), pk_rem (by omega) (by omega) (by omega), nI_clamp (by omega), (hv _ hl6).1]
      have hvb := (hv _ hl6).2
      have fin : ∀ t : Nat, t < 3 → (decide (t = code i / 100 % 3) = hT vw (code i)) → zRun C 1 (some .boolean) zc_Garden_stands Q 130 [.ref 73, .ref 50, .int v2, .int (nI e), .int x, .int (nI i), .int (nI (code i)), .int (nI (code i / 300)), .int (nI (code i / 100 % 3)), .int (nI (code i % 100)), .retAddr 0] [.int (nI t)] m := by
        intro t ht hd
        have hs : hS vw (code i) st = hT vw (code i) :: st := if_pos h1
        have hst : ∀ y, y = (x <<< ((1 : Int32) &&& 31)) ||| zb (hT vw (code i)) → ∀ st', st' = hS vw (code i) st → hW code (i + 1) st'.length k ∧ st'.length < 31 ∧ bl y st' := by
          rintro y rfl st' rfl
          rw [hs]
          exact ⟨h3, by rw [List.length_cons]; omega, bl_psh _ hb (by omega)⟩
        refine sg_Garden_stands_73_50_130 hC _ _ _ _ _ _ _ _ _ m ?_
        rw [nI_1]
        by_cases q : t = code i / 100 % 3
        · rw [decide_eq_true q] at hd
          refine iq (fun z => z (by rw [q])) (wk (hst _ (by rw [← hd])) ?_)
          repeat (first | exact zle_nil | apply zle_same | apply zle_new _ rfl)
        · rw [decide_eq_false q] at hd
          refine ip (nI_ne (by omega) (by omega) q) (wk (hst _ (by rw [← hd])) ?_)
          repeat (first | exact zle_nil | apply zle_same | apply zle_new _ rfl)
      refine ⟨by decide, by decide, by decide, by decide, vp_in_nI hl6 (by omega), ?_⟩
      unfold hT at fin
      by_cases q1 : vw (code i / 300) < code i % 100
      · refine iq (nI_ge q1 (by omega)) (fin 0 (by omega) ?_)
        by_cases r0 : code i / 100 % 3 = 0
        · rw [if_pos r0, decide_eq_true q1, r0]; rfl
        · rw [if_neg r0, decide_eq_false (fun z => r0 z.symm)]
          by_cases r1 : code i / 100 % 3 = 1
          · rw [if_pos r1, decide_eq_false (by omega)]
          · rw [if_neg r1, decide_eq_false (by omega)]
      · refine ip (nI_le (by omega) (by omega)) ⟨vp_in_nI hl6 (by omega), ?_⟩
        by_cases q2 : vw (code i / 300) = code i % 100
        · refine iq (fun z => z (by rw [q2])) (fin 1 (by omega) ?_)
          by_cases r0 : code i / 100 % 3 = 0
          · rw [if_pos r0, decide_eq_false q1, r0]; rfl
          · rw [if_neg r0]
            by_cases r1 : code i / 100 % 3 = 1
            · rw [if_pos r1, decide_eq_true q2, r1]; rfl
            · rw [if_neg r1, decide_eq_false (fun z => r1 z.symm), decide_eq_false (by omega)]
        · refine ip (nI_ne hvb (by omega) q2) (fin 2 (by omega) ?_)
          by_cases r0 : code i / 100 % 3 = 0
          · rw [if_pos r0, decide_eq_false q1, r0]; rfl
          · rw [if_neg r0]
            by_cases r1 : code i / 100 % 3 = 1
            · rw [if_pos r1, decide_eq_false q2, r1]; rfl
            · rw [if_neg r1, decide_eq_true (by omega), decide_eq_true (by omega)]
    · rw [show cX (code i) = -1 from by rw [h1]; rfl]
      refine iq (fun z => z rfl) (wk ?_ (by repeat (first | exact zle_nil | apply zle_same | apply zle_new _ rfl)))
      rintro st' rfl
      have hs : hS vw (code i) st = hN st := by rw [h1]; rfl
      rw [hs]
      match st, h2 with
      | b :: r, _ => exact ⟨h3, hl, bl_not hb (by rw [List.length_cons] at hl; omega)⟩
    · match st, h2 with
      | b :: a :: r, h2 =>
        have h4 : r.length = e2 := by simp only [List.length_cons] at h2; omega
        rw [List.length_cons, List.length_cons] at hl
        rcases h1 with h1 | h1
        · rw [show cX (code i) = -2 from by rw [h1]; rfl]
          refine ip (by decide) (iq (fun z => z rfl) (wk ?_ (by repeat (first | exact zle_nil | apply zle_same | apply zle_new _ rfl))))
          rintro st' rfl
          rw [show hS vw (code i) (b :: a :: r) = (a && b) :: r from by rw [h1]; rfl]
          exact ⟨by rw [List.length_cons, h4]; exact h3, by rw [List.length_cons]; omega, bl_and hb (by omega)⟩
        · rw [show cX (code i) = -3 from by rw [h1]; rfl]
          refine ip (by decide) (ip (by decide) (iq (fun z => z rfl) (wk ?_ (by repeat (first | exact zle_nil | apply zle_same | apply zle_new _ rfl)))))
          rintro st' rfl
          rw [show hS vw (code i) (b :: a :: r) = (a || b) :: r from by rw [h1]; rfl]
          exact ⟨by rw [List.length_cons, h4]; exact h3, by rw [List.length_cons]; omega, bl_or hb (by omega)⟩
theorem y_stands_78_26 {C : zC} (hC : zCm C) {Q : zQ} {m : zM} {vw code : Nat → Nat} {e : Nat} (he : e ≤ 100) (hc : ∀ j, j < e → gI m 82 j = cX (code j)) (hv : ∀ l, l < 6 → gI m 26 l = nI (vw l) ∧ vw l < 2 ^ 31) (v2 : Int32) :
    ∀ (k i : Nat) (x : Int32) (st : List Bool), i + k = e → hW code i st.length k → st.length < 31 → bl x st → Q (some (.int (zb (hH (hR vw code i st k))))) m →
    zRun C 1 (some .boolean) zc_Garden_stands Q 6 [.ref 78, .ref 26, .int v2, .int (nI e), .int x, .int (nI i), .retAddr 0, .retAddr 0, .retAddr 0, .retAddr 0, .retAddr 0] [] m
  | 0, i, x, st, hi, hw, _, hb, h => by
    refine sg_Garden_stands_78_26_6 hC _ _ _ _ m (ip (nI_le (by omega) (by omega)) ?_)
    have hw : st.length = 1 := hw
    match st, hw with
    | [b], _ =>
      cases b with
      | true => exact iq (fun z => z ((bl_top hb).mpr rfl)) ⟨rfl, h⟩
      | false => exact ip (fun z => by have := (bl_top hb).mp z; cases this) ⟨rfl, h⟩
  | k + 1, i, x, st, hi, hw, hl, hb, h => by
    have wk : ∀ {u : List Value} {y : Int32}, (∀ st', st' = hS vw (code i) st → hW code (i + 1) st'.length k ∧ st'.length < 31 ∧ bl y st') → zle [.ref 78, .ref 26, .int v2, .int (nI e), .int y, .int (nI (i + 1)), .retAddr 0, .retAddr 0, .retAddr 0, .retAddr 0, .retAddr 0] u → zRun C 1 (some .boolean) zc_Garden_stands Q 6 u [] m := fun hst hz =>
      zRun_le hC hz (y_stands_78_26 hC he hc hv v2 k (i + 1) _ _ (by omega) (hst _ rfl).1 (hst _ rfl).2.1 (hst _ rfl).2.2 h)
    refine sg_Garden_stands_78_26_6 hC _ _ _ _ m (iq (nI_ge (by omega) (by omega)) ⟨vp_in_nI (by omega) (by omega), ?_⟩)
    rw [nI_clamp (by omega), hc i (by omega), nI_1]
    rcases hw with ⟨h1, h2, h3⟩ | ⟨h1, h2, h3⟩ | ⟨h1, e2, h2, h3⟩
    · obtain ⟨n1, n2, n3⟩ := cX_m h1
      refine ip n1 (ip n2 (ip n3 ?_))
      have hl6 : code i / 300 < 6 := by omega
      rw [cX_t h1, show (300 : Int32) = nI 300 from rfl, show (100 : Int32) = nI 100 from rfl, show (3 : Int32) = nI 3 from rfl, pk_rem (by omega) (by omega) (by omega), pk_div (by omega) (by omega) (by omega), pk_div (by omega) (by omega) (by omega), pk_rem (by omega) (by omega) (by omega), nI_clamp (by omega), (hv _ hl6).1]
      have hvb := (hv _ hl6).2
      have fin : ∀ t : Nat, t < 3 → (decide (t = code i / 100 % 3) = hT vw (code i)) → zRun C 1 (some .boolean) zc_Garden_stands Q 130 [.ref 78, .ref 26, .int v2, .int (nI e), .int x, .int (nI i), .int (nI (code i)), .int (nI (code i / 300)), .int (nI (code i / 100 % 3)), .int (nI (code i % 100)), .retAddr 0] [.int (nI t)] m := by
        intro t ht hd
        have hs : hS vw (code i) st = hT vw (code i) :: st := if_pos h1
        have hst : ∀ y, y = (x <<< ((1 : Int32) &&& 31)) ||| zb (hT vw (code i)) → ∀ st', st' = hS vw (code i) st → hW code (i + 1) st'.length k ∧ st'.length < 31 ∧ bl y st' := by
          rintro y rfl st' rfl
          rw [hs]
          exact ⟨h3, by rw [List.length_cons]; omega, bl_psh _ hb (by omega)⟩
        refine sg_Garden_stands_78_26_130 hC _ _ _ _ _ _ _ _ _ m ?_
        rw [nI_1]
        by_cases q : t = code i / 100 % 3
        · rw [decide_eq_true q] at hd
          refine iq (fun z => z (by rw [q])) (wk (hst _ (by rw [← hd])) ?_)
          repeat (first | exact zle_nil | apply zle_same | apply zle_new _ rfl)
        · rw [decide_eq_false q] at hd
          refine ip (nI_ne (by omega) (by omega) q) (wk (hst _ (by rw [← hd])) ?_)
          repeat (first | exact zle_nil | apply zle_same | apply zle_new _ rfl)
      refine ⟨by decide, by decide, by decide, by decide, vp_in_nI hl6 (by omega), ?_⟩
      unfold hT at fin
      by_cases q1 : vw (code i / 300) < code i % 100
      · refine iq (nI_ge q1 (by omega)) (fin 0 (by omega) ?_)
        by_cases r0 : code i / 100 % 3 = 0
        · rw [if_pos r0, decide_eq_true q1, r0]; rfl
        · rw [if_neg r0, decide_eq_false (fun z => r0 z.symm)]
          by_cases r1 : code i / 100 % 3 = 1
          · rw [if_pos r1, decide_eq_false (by omega)]
          · rw [if_neg r1, decide_eq_false (by omega)]
      · refine ip (nI_le (by omega) (by omega)) ⟨vp_in_nI hl6 (by omega), ?_⟩
        by_cases q2 : vw (code i / 300) = code i % 100
        · refine iq (fun z => z (by rw [q2])) (fin 1 (by omega) ?_)
          by_cases r0 : code i / 100 % 3 = 0
          · rw [if_pos r0, decide_eq_false q1, r0]; rfl
          · rw [if_neg r0]
            by_cases r1 : code i / 100 % 3 = 1
            · rw [if_pos r1, decide_eq_true q2, r1]; rfl
            · rw [if_neg r1, decide_eq_false (fun z => r1 z.symm), decide_eq_false (by omega)]
        · refine ip (nI_ne hvb (by omega) q2) (fin 2 (by omega) ?_)
          by_cases r0 : code i / 100 % 3 = 0
          · rw [if_pos r0, decide_eq_false q1, r0]; rfl
          · rw [if_neg r0]
            by_cases r1 : code i / 100 % 3 = 1
            · rw [if_pos r1, decide_eq_false q2, r1]; rfl
            · rw [if_neg r1, decide_eq_true (by omega), decide_eq_true (by omega)]
    · rw [show cX (code i) = -1 from by rw [h1]; rfl]
      refine iq (fun z => z rfl) (wk ?_ (by repeat (first | exact zle_nil | apply zle_same | apply zle_new _ rfl)))
      rintro st' rfl
      have hs : hS vw (code i) st = hN st := by rw [h1]; rfl
      rw [hs]
      match st, h2 with
      | b :: r, _ => exact ⟨h3, hl, bl_not hb (by rw [List.length_cons] at hl; omega)⟩
    · match st, h2 with
      | b :: a :: r, h2 =>
        have h4 : r.length = e2 := by simp only [List.length_cons] at h2; omega
        rw [List.length_cons, List.length_cons] at hl
        rcases h1 with h1 | h1
        · rw [show cX (code i) = -2 from by rw [h1]; rfl]
          refine ip (by decide) (iq (fun z => z rfl) (wk ?_ (by repeat (first | exact zle_nil | apply zle_same | apply zle_new _ rfl))))
          rintro st' rfl
          rw [show hS vw (code i) (b :: a :: r) = (a && b) :: r from by rw [h1]; rfl]
          exact ⟨by rw [List.length_cons, h4]; exact h3, by rw [List.length_cons]; omega, bl_and hb (by omega)⟩
        · rw [show cX (code i) = -3 from by rw [h1]; rfl]
          refine ip (by decide) (ip (by decide) (iq (fun z => z rfl) (wk ?_ (by repeat (first | exact zle_nil | apply zle_same | apply zle_new _ rfl)))))
          rintro st' rfl
          rw [show hS vw (code i) (b :: a :: r) = (a || b) :: r from by rw [h1]; rfl]
          exact ⟨by rw [List.length_cons, h4]; exact h3, by rw [List.length_cons]; omega, bl_or hb (by omega)⟩
theorem y_stands_78_50 {C : zC} (hC : zCm C) {Q : zQ} {m : zM} {vw code : Nat → Nat} {e : Nat} (he : e ≤ 100) (hc : ∀ j, j < e → gI m 82 j = cX (code j)) (hv : ∀ l, l < 6 → gI m 50 l = nI (vw l) ∧ vw l < 2 ^ 31) (v2 : Int32) :
    ∀ (k i : Nat) (x : Int32) (st : List Bool), i + k = e → hW code i st.length k → st.length < 31 → bl x st → Q (some (.int (zb (hH (hR vw code i st k))))) m →
    zRun C 1 (some .boolean) zc_Garden_stands Q 6 [.ref 78, .ref 50, .int v2, .int (nI e), .int x, .int (nI i), .retAddr 0, .retAddr 0, .retAddr 0, .retAddr 0, .retAddr 0] [] m
  | 0, i, x, st, hi, hw, _, hb, h => by
    refine sg_Garden_stands_78_50_6 hC _ _ _ _ m (ip (nI_le (by omega) (by omega)) ?_)
    have hw : st.length = 1 := hw
    match st, hw with
    | [b], _ =>
      cases b with
      | true => exact iq (fun z => z ((bl_top hb).mpr rfl)) ⟨rfl, h⟩
      | false => exact ip (fun z => by have := (bl_top hb).mp z; cases this) ⟨rfl, h⟩
  | k + 1, i, x, st, hi, hw, hl, hb, h => by
    have wk : ∀ {u : List Value} {y : Int32}, (∀ st', st' = hS vw (code i) st → hW code (i + 1) st'.length k ∧ st'.length < 31 ∧ bl y st') → zle [.ref 78, .ref 50, .int v2, .int (nI e), .int y, .int (nI (i + 1)), .retAddr 0, .retAddr 0, .retAddr 0, .retAddr 0, .retAddr 0] u → zRun C 1 (some .boolean) zc_Garden_stands Q 6 u [] m := fun hst hz =>
      zRun_le hC hz (y_stands_78_50 hC he hc hv v2 k (i + 1) _ _ (by omega) (hst _ rfl).1 (hst _ rfl).2.1 (hst _ rfl).2.2 h)
    refine sg_Garden_stands_78_50_6 hC _ _ _ _ m (iq (nI_ge (by omega) (by omega)) ⟨vp_in_nI (by omega) (by omega), ?_⟩)
    rw [nI_clamp (by omega), hc i (by omega), nI_1]
    rcases hw with ⟨h1, h2, h3⟩ | ⟨h1, h2, h3⟩ | ⟨h1, e2, h2, h3⟩
    · obtain ⟨n1, n2, n3⟩ := cX_m h1
      refine ip n1 (ip n2 (ip n3 ?_))
      have hl6 : code i / 300 < 6 := by omega
      rw [cX_t h1, show (300 : Int32) = nI 300 from rfl, show (100 : Int32) = nI 100 from rfl, show (3 : Int32) = nI 3 from rfl, pk_rem (by omega) (by omega) (by omega), pk_div (by omega) (by omega) (by omega), pk_div (by omega) (by omega) (by omega), pk_rem (by omega) (by omega) (by omega), nI_clamp (by omega), (hv _ hl6).1]
      have hvb := (hv _ hl6).2
      have fin : ∀ t : Nat, t < 3 → (decide (t = code i / 100 % 3) = hT vw (code i)) → zRun C 1 (some .boolean) zc_Garden_stands Q 130 [.ref 78, .ref 50, .int v2, .int (nI e), .int x, .int (nI i), .int (nI (code i)), .int (nI (code i / 300)), .int (nI (code i / 100 % 3)), .int (nI (code i % 100)), .retAddr 0] [.int (nI t)] m := by
        intro t ht hd
        have hs : hS vw (code i) st = hT vw (code i) :: st := if_pos h1
        have hst : ∀ y, y = (x <<< ((1 : Int32) &&& 31)) ||| zb (hT vw (code i)) → ∀ st', st' = hS vw (code i) st → hW code (i + 1) st'.length k ∧ st'.length < 31 ∧ bl y st' := by
          rintro y rfl st' rfl
          rw [hs]
          exact ⟨h3, by rw [List.length_cons]; omega, bl_psh _ hb (by omega)⟩
        refine sg_Garden_stands_78_50_130 hC _ _ _ _ _ _ _ _ _ m ?_
        rw [nI_1]
        by_cases q : t = code i / 100 % 3
        · rw [decide_eq_true q] at hd
          refine iq (fun z => z (by rw [q])) (wk (hst _ (by rw [← hd])) ?_)
          repeat (first | exact zle_nil | apply zle_same | apply zle_new _ rfl)
        · rw [decide_eq_false q] at hd
          refine ip (nI_ne (by omega) (by omega) q) (wk (hst _ (by rw [← hd])) ?_)
          repeat (first | exact zle_nil | apply zle_same | apply zle_new _ rfl)
      refine ⟨by decide, by decide, by decide, by decide, vp_in_nI hl6 (by omega), ?_⟩
      unfold hT at fin
      by_cases q1 : vw (code i / 300) < code i % 100
      · refine iq (nI_ge q1 (by omega)) (fin 0 (by omega) ?_)
        by_cases r0 : code i / 100 % 3 = 0
        · rw [if_pos r0, decide_eq_true q1, r0]; rfl
        · rw [if_neg r0, decide_eq_false (fun z => r0 z.symm)]
          by_cases r1 : code i / 100 % 3 = 1
          · rw [if_pos r1, decide_eq_false (by omega)]
          · rw [if_neg r1, decide_eq_false (by omega)]
      · refine ip (nI_le (by omega) (by omega)) ⟨vp_in_nI hl6 (by omega), ?_⟩
        by_cases q2 : vw (code i / 300) = code i % 100
        · refine iq (fun z => z (by rw [q2])) (fin 1 (by omega) ?_)
          by_cases r0 : code i / 100 % 3 = 0
          · rw [if_pos r0, decide_eq_false q1, r0]; rfl
          · rw [if_neg r0]
            by_cases r1 : code i / 100 % 3 = 1
            · rw [if_pos r1, decide_eq_true q2, r1]; rfl
            · rw [if_neg r1, decide_eq_false (fun z => r1 z.symm), decide_eq_false (by omega)]
        · refine ip (nI_ne hvb (by omega) q2) (fin 2 (by omega) ?_)
          by_cases r0 : code i / 100 % 3 = 0
          · rw [if_pos r0, decide_eq_false q1, r0]; rfl
          · rw [if_neg r0]
            by_cases r1 : code i / 100 % 3 = 1
            · rw [if_pos r1, decide_eq_false q2, r1]; rfl
            · rw [if_neg r1, decide_eq_true (by omega), decide_eq_true (by omega)]
    · rw [show cX (code i) = -1 from by rw [h1]; rfl]
      refine iq (fun z => z rfl) (wk ?_ (by repeat (first | exact zle_nil | apply zle_same | apply zle_new _ rfl)))
      rintro st' rfl
      have hs : hS vw (code i) st = hN st := by rw [h1]; rfl
      rw [hs]
      match st, h2 with
      | b :: r, _ => exact ⟨h3, hl, bl_not hb (by rw [List.length_cons] at hl; omega)⟩
    · match st, h2 with
      | b :: a :: r, h2 =>
        have h4 : r.length = e2 := by simp only [List.length_cons] at h2; omega
        rw [List.length_cons, List.length_cons] at hl
        rcases h1 with h1 | h1
        · rw [show cX (code i) = -2 from by rw [h1]; rfl]
          refine ip (by decide) (iq (fun z => z rfl) (wk ?_ (by repeat (first | exact zle_nil | apply zle_same | apply zle_new _ rfl))))
          rintro st' rfl
          rw [show hS vw (code i) (b :: a :: r) = (a && b) :: r from by rw [h1]; rfl]
          exact ⟨by rw [List.length_cons, h4]; exact h3, by rw [List.length_cons]; omega, bl_and hb (by omega)⟩
        · rw [show cX (code i) = -3 from by rw [h1]; rfl]
          refine ip (by decide) (ip (by decide) (iq (fun z => z rfl) (wk ?_ (by repeat (first | exact zle_nil | apply zle_same | apply zle_new _ rfl)))))
          rintro st' rfl
          rw [show hS vw (code i) (b :: a :: r) = (a || b) :: r from by rw [h1]; rfl]
          exact ⟨by rw [List.length_cons, h4]; exact h3, by rw [List.length_cons]; omega, bl_or hb (by omega)⟩
theorem y_stands_83_26 {C : zC} (hC : zCm C) {Q : zQ} {m : zM} {vw code : Nat → Nat} {e : Nat} (he : e ≤ 100) (hc : ∀ j, j < e → gI m 87 j = cX (code j)) (hv : ∀ l, l < 6 → gI m 26 l = nI (vw l) ∧ vw l < 2 ^ 31) (v2 : Int32) :
    ∀ (k i : Nat) (x : Int32) (st : List Bool), i + k = e → hW code i st.length k → st.length < 31 → bl x st → Q (some (.int (zb (hH (hR vw code i st k))))) m →
    zRun C 1 (some .boolean) zc_Garden_stands Q 6 [.ref 83, .ref 26, .int v2, .int (nI e), .int x, .int (nI i), .retAddr 0, .retAddr 0, .retAddr 0, .retAddr 0, .retAddr 0] [] m
  | 0, i, x, st, hi, hw, _, hb, h => by
    refine sg_Garden_stands_83_26_6 hC _ _ _ _ m (ip (nI_le (by omega) (by omega)) ?_)
    have hw : st.length = 1 := hw
    match st, hw with
    | [b], _ =>
      cases b with
      | true => exact iq (fun z => z ((bl_top hb).mpr rfl)) ⟨rfl, h⟩
      | false => exact ip (fun z => by have := (bl_top hb).mp z; cases this) ⟨rfl, h⟩
  | k + 1, i, x, st, hi, hw, hl, hb, h => by
    have wk : ∀ {u : List Value} {y : Int32}, (∀ st', st' = hS vw (code i) st → hW code (i + 1) st'.length k ∧ st'.length < 31 ∧ bl y st') → zle [.ref 83, .ref 26, .int v2, .int (nI e), .int y, .int (nI (i + 1)), .retAddr 0, .retAddr 0, .retAddr 0, .retAddr 0, .retAddr 0] u → zRun C 1 (some .boolean) zc_Garden_stands Q 6 u [] m := fun hst hz =>
      zRun_le hC hz (y_stands_83_26 hC he hc hv v2 k (i + 1) _ _ (by omega) (hst _ rfl).1 (hst _ rfl).2.1 (hst _ rfl).2.2 h)
    refine sg_Garden_stands_83_26_6 hC _ _ _ _ m (iq (nI_ge (by omega) (by omega)) ⟨vp_in_nI (by omega) (by omega), ?_⟩)
    rw [nI_clamp (by omega), hc i (by omega), nI_1]
    rcases hw with ⟨h1, h2, h3⟩ | ⟨h1, h2, h3⟩ | ⟨h1, e2, h2, h3⟩
    · obtain ⟨n1, n2, n3⟩ := cX_m h1
      refine ip n1 (ip n2 (ip n3 ?_))
      have hl6 : code i / 300 < 6 := by omega
      rw [cX_t h1, show (300 : Int32) = nI 300 from rfl, show (100 : Int32) = nI 100 from rfl, show (3 : Int32) = nI 3 from rfl, pk_rem (by omega) (by omega) (by omega), pk_div (by omega) (by omega) (by omega), pk_div (by omega) (by omega) (by omega), pk_rem (by omega) (by omega) (by omega), nI_clamp (by omega), (hv _ hl6).1]
      have hvb := (hv _ hl6).2
      have fin : ∀ t : Nat, t < 3 → (decide (t = code i / 100 % 3) = hT vw (code i)) → zRun C 1 (some .boolean) zc_Garden_stands Q 130 [.ref 83, .ref 26, .int v2, .int (nI e), .int x, .int (nI i), .int (nI (code i)), .int (nI (code i / 300)), .int (nI (code i / 100 % 3)), .int (nI (code i % 100)), .retAddr 0] [.int (nI t)] m := by
        intro t ht hd
        have hs : hS vw (code i) st = hT vw (code i) :: st := if_pos h1
        have hst : ∀ y, y = (x <<< ((1 : Int32) &&& 31)) ||| zb (hT vw (code i)) → ∀ st', st' = hS vw (code i) st → hW code (i + 1) st'.length k ∧ st'.length < 31 ∧ bl y st' := by
          rintro y rfl st' rfl
          rw [hs]
          exact ⟨h3, by rw [List.length_cons]; omega, bl_psh _ hb (by omega)⟩
        refine sg_Garden_stands_83_26_130 hC _ _ _ _ _ _ _ _ _ m ?_
        rw [nI_1]
        by_cases q : t = code i / 100 % 3
        · rw [decide_eq_true q] at hd
          refine iq (fun z => z (by rw [q])) (wk (hst _ (by rw [← hd])) ?_)
          repeat (first | exact zle_nil | apply zle_same | apply zle_new _ rfl)
        · rw [decide_eq_false q] at hd
          refine ip (nI_ne (by omega) (by omega) q) (wk (hst _ (by rw [← hd])) ?_)
          repeat (first | exact zle_nil | apply zle_same | apply zle_new _ rfl)
      refine ⟨by decide, by decide, by decide, by decide, vp_in_nI hl6 (by omega), ?_⟩
      unfold hT at fin
      by_cases q1 : vw (code i / 300) < code i % 100
      · refine iq (nI_ge q1 (by omega)) (fin 0 (by omega) ?_)
        by_cases r0 : code i / 100 % 3 = 0
        · rw [if_pos r0, decide_eq_true q1, r0]; rfl
        · rw [if_neg r0, decide_eq_false (fun z => r0 z.symm)]
          by_cases r1 : code i / 100 % 3 = 1
          · rw [if_pos r1, decide_eq_false (by omega)]
          · rw [if_neg r1, decide_eq_false (by omega)]
      · refine ip (nI_le (by omega) (by omega)) ⟨vp_in_nI hl6 (by omega), ?_⟩
        by_cases q2 : vw (code i / 300) = code i % 100
        · refine iq (fun z => z (by rw [q2])) (fin 1 (by omega) ?_)
          by_cases r0 : code i / 100 % 3 = 0
          · rw [if_pos r0, decide_eq_false q1, r0]; rfl
          · rw [if_neg r0]
            by_cases r1 : code i / 100 % 3 = 1
            · rw [if_pos r1, decide_eq_true q2, r1]; rfl
            · rw [if_neg r1, decide_eq_false (fun z => r1 z.symm), decide_eq_false (by omega)]
        · refine ip (nI_ne hvb (by omega) q2) (fin 2 (by omega) ?_)
          by_cases r0 : code i / 100 % 3 = 0
          · rw [if_pos r0, decide_eq_false q1, r0]; rfl
          · rw [if_neg r0]
            by_cases r1 : code i / 100 % 3 = 1
            · rw [if_pos r1, decide_eq_false q2, r1]; rfl
            · rw [if_neg r1, decide_eq_true (by omega), decide_eq_true (by omega)]
    · rw [show cX (code i) = -1 from by rw [h1]; rfl]
      refine iq (fun z => z rfl) (wk ?_ (by repeat (first | exact zle_nil | apply zle_same | apply zle_new _ rfl)))
      rintro st' rfl
      have hs : hS vw (code i) st = hN st := by rw [h1]; rfl
      rw [hs]
      match st, h2 with
      | b :: r, _ => exact ⟨h3, hl, bl_not hb (by rw [List.length_cons] at hl; omega)⟩
    · match st, h2 with
      | b :: a :: r, h2 =>
        have h4 : r.length = e2 := by simp only [List.length_cons] at h2; omega
        rw [List.length_cons, List.length_cons] at hl
        rcases h1 with h1 | h1
        · rw [show cX (code i) = -2 from by rw [h1]; rfl]
          refine ip (by decide) (iq (fun z => z rfl) (wk ?_ (by repeat (first | exact zle_nil | apply zle_same | apply zle_new _ rfl))))
          rintro st' rfl
          rw [show hS vw (code i) (b :: a :: r) = (a && b) :: r from by rw [h1]; rfl]
          exact ⟨by rw [List.length_cons, h4]; exact h3, by rw [List.length_cons]; omega, bl_and hb (by omega)⟩
        · rw [show cX (code i) = -3 from by rw [h1]; rfl]
          refine ip (by decide) (ip (by decide) (iq (fun z => z rfl) (wk ?_ (by repeat (first | exact zle_nil | apply zle_same | apply zle_new _ rfl)))))
          rintro st' rfl
          rw [show hS vw (code i) (b :: a :: r) = (a || b) :: r from by rw [h1]; rfl]
          exact ⟨by rw [List.length_cons, h4]; exact h3, by rw [List.length_cons]; omega, bl_or hb (by omega)⟩
theorem y_stands_83_50 {C : zC} (hC : zCm C) {Q : zQ} {m : zM} {vw code : Nat → Nat} {e : Nat} (he : e ≤ 100) (hc : ∀ j, j < e → gI m 87 j = cX (code j)) (hv : ∀ l, l < 6 → gI m 50 l = nI (vw l) ∧ vw l < 2 ^ 31) (v2 : Int32) :
    ∀ (k i : Nat) (x : Int32) (st : List Bool), i + k = e → hW code i st.length k → st.length < 31 → bl x st → Q (some (.int (zb (hH (hR vw code i st k))))) m →
    zRun C 1 (some .boolean) zc_Garden_stands Q 6 [.ref 83, .ref 50, .int v2, .int (nI e), .int x, .int (nI i), .retAddr 0, .retAddr 0, .retAddr 0, .retAddr 0, .retAddr 0] [] m
  | 0, i, x, st, hi, hw, _, hb, h => by
    refine sg_Garden_stands_83_50_6 hC _ _ _ _ m (ip (nI_le (by omega) (by omega)) ?_)
    have hw : st.length = 1 := hw
    match st, hw with
    | [b], _ =>
      cases b with
      | true => exact iq (fun z => z ((bl_top hb).mpr rfl)) ⟨rfl, h⟩
      | false => exact ip (fun z => by have := (bl_top hb).mp z; cases this) ⟨rfl, h⟩
  | k + 1, i, x, st, hi, hw, hl, hb, h => by
    have wk : ∀ {u : List Value} {y : Int32}, (∀ st', st' = hS vw (code i) st → hW code (i + 1) st'.length k ∧ st'.length < 31 ∧ bl y st') → zle [.ref 83, .ref 50, .int v2, .int (nI e), .int y, .int (nI (i + 1)), .retAddr 0, .retAddr 0, .retAddr 0, .retAddr 0, .retAddr 0] u → zRun C 1 (some .boolean) zc_Garden_stands Q 6 u [] m := fun hst hz =>
      zRun_le hC hz (y_stands_83_50 hC he hc hv v2 k (i + 1) _ _ (by omega) (hst _ rfl).1 (hst _ rfl).2.1 (hst _ rfl).2.2 h)
    refine sg_Garden_stands_83_50_6 hC _ _ _ _ m (iq (nI_ge (by omega) (by omega)) ⟨vp_in_nI (by omega) (by omega), ?_⟩)
    rw [nI_clamp (by omega), hc i (by omega), nI_1]
    rcases hw with ⟨h1, h2, h3⟩ | ⟨h1, h2, h3⟩ | ⟨h1, e2, h2, h3⟩
    · obtain ⟨n1, n2, n3⟩ := cX_m h1
      refine ip n1 (ip n2 (ip n3 ?_))
      have hl6 : code i / 300 < 6 := by omega
      rw [cX_t h1, show (300 : Int32) = nI 300 from rfl, show (100 : Int32) = nI 100 from rfl, show (3 : Int32) = nI 3 from rfl, pk_rem (by omega) (by omega) (by omega), pk_div (by omega) (by omega) (by omega), pk_div (by omega) (by omega) (by omega), pk_rem (by omega) (by omega) (by omega), nI_clamp (by omega), (hv _ hl6).1]
      have hvb := (hv _ hl6).2
      have fin : ∀ t : Nat, t < 3 → (decide (t = code i / 100 % 3) = hT vw (code i)) → zRun C 1 (some .boolean) zc_Garden_stands Q 130 [.ref 83, .ref 50, .int v2, .int (nI e), .int x, .int (nI i), .int (nI (code i)), .int (nI (code i / 300)), .int (nI (code i / 100 % 3)), .int (nI (code i % 100)), .retAddr 0] [.int (nI t)] m := by
        intro t ht hd
        have hs : hS vw (code i) st = hT vw (code i) :: st := if_pos h1
        have hst : ∀ y, y = (x <<< ((1 : Int32) &&& 31)) ||| zb (hT vw (code i)) → ∀ st', st' = hS vw (code i) st → hW code (i + 1) st'.length k ∧ st'.length < 31 ∧ bl y st' := by
          rintro y rfl st' rfl
          rw [hs]
          exact ⟨h3, by rw [List.length_cons]; omega, bl_psh _ hb (by omega)⟩
        refine sg_Garden_stands_83_50_130 hC _ _ _ _ _ _ _ _ _ m ?_
        rw [nI_1]
        by_cases q : t = code i / 100 % 3
        · rw [decide_eq_true q] at hd
          refine iq (fun z => z (by rw [q])) (wk (hst _ (by rw [← hd])) ?_)
          repeat (first | exact zle_nil | apply zle_same | apply zle_new _ rfl)
        · rw [decide_eq_false q] at hd
          refine ip (nI_ne (by omega) (by omega) q) (wk (hst _ (by rw [← hd])) ?_)
          repeat (first | exact zle_nil | apply zle_same | apply zle_new _ rfl)
      refine ⟨by decide, by decide, by decide, by decide, vp_in_nI hl6 (by omega), ?_⟩
      unfold hT at fin
      by_cases q1 : vw (code i / 300) < code i % 100
      · refine iq (nI_ge q1 (by omega)) (fin 0 (by omega) ?_)
        by_cases r0 : code i / 100 % 3 = 0
        · rw [if_pos r0, decide_eq_true q1, r0]; rfl
        · rw [if_neg r0, decide_eq_false (fun z => r0 z.symm)]
          by_cases r1 : code i / 100 % 3 = 1
          · rw [if_pos r1, decide_eq_false (by omega)]
          · rw [if_neg r1, decide_eq_false (by omega)]
      · refine ip (nI_le (by omega) (by omega)) ⟨vp_in_nI hl6 (by omega), ?_⟩
        by_cases q2 : vw (code i / 300) = code i % 100
        · refine iq (fun z => z (by rw [q2])) (fin 1 (by omega) ?_)
          by_cases r0 : code i / 100 % 3 = 0
          · rw [if_pos r0, decide_eq_false q1, r0]; rfl
          · rw [if_neg r0]
            by_cases r1 : code i / 100 % 3 = 1
            · rw [if_pos r1, decide_eq_true q2, r1]; rfl
            · rw [if_neg r1, decide_eq_false (fun z => r1 z.symm), decide_eq_false (by omega)]
        · refine ip (nI_ne hvb (by omega) q2) (fin 2 (by omega) ?_)
          by_cases r0 : code i / 100 % 3 = 0
          · rw [if_pos r0, decide_eq_false q1, r0]; rfl
          · rw [if_neg r0]
            by_cases r1 : code i / 100 % 3 = 1
            · rw [if_pos r1, decide_eq_false q2, r1]; rfl
            · rw [if_neg r1, decide_eq_true (by omega), decide_eq_true (by omega)]
    · rw [show cX (code i) = -1 from by rw [h1]; rfl]
      refine iq (fun z => z rfl) (wk ?_ (by repeat (first | exact zle_nil | apply zle_same | apply zle_new _ rfl)))
      rintro st' rfl
      have hs : hS vw (code i) st = hN st := by rw [h1]; rfl
      rw [hs]
      match st, h2 with
      | b :: r, _ => exact ⟨h3, hl, bl_not hb (by rw [List.length_cons] at hl; omega)⟩
    · match st, h2 with
      | b :: a :: r, h2 =>
        have h4 : r.length = e2 := by simp only [List.length_cons] at h2; omega
        rw [List.length_cons, List.length_cons] at hl
        rcases h1 with h1 | h1
        · rw [show cX (code i) = -2 from by rw [h1]; rfl]
          refine ip (by decide) (iq (fun z => z rfl) (wk ?_ (by repeat (first | exact zle_nil | apply zle_same | apply zle_new _ rfl))))
          rintro st' rfl
          rw [show hS vw (code i) (b :: a :: r) = (a && b) :: r from by rw [h1]; rfl]
          exact ⟨by rw [List.length_cons, h4]; exact h3, by rw [List.length_cons]; omega, bl_and hb (by omega)⟩
        · rw [show cX (code i) = -3 from by rw [h1]; rfl]
          refine ip (by decide) (ip (by decide) (iq (fun z => z rfl) (wk ?_ (by repeat (first | exact zle_nil | apply zle_same | apply zle_new _ rfl)))))
          rintro st' rfl
          rw [show hS vw (code i) (b :: a :: r) = (a || b) :: r from by rw [h1]; rfl]
          exact ⟨by rw [List.length_cons, h4]; exact h3, by rw [List.length_cons]; omega, bl_or hb (by omega)⟩
