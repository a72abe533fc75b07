/-! judge, shift (gen66.py) -/
theorem sb_i {a b : Nat} (ha : a < 2 ^ 30) (hb : b < 2 ^ 31) : (nI a - nI b).toInt = (a : Int) - b := by
  rw [Int32.toInt_sub, nI_toInt (by omega), nI_toInt hb]
  exact Int.bmod_eq_of_le (by omega) (by omega)
theorem lc_00 : lg_cmp 0 0 = 0 := by decide
theorem lc_10 : ¬ lg_cmp 1 0 = 0 := by decide
theorem lc_01 : ¬ lg_cmp 0 1 = 0 := by decide
theorem lc_11 : lg_cmp 1 1 = 0 := by decide
def jgF (V : zV) (it : Nat → Int64) (b : Int32) (len : Nat) : Nat → Nat → Int32
  | 0, _ => -5
  | j + 1, k => if b < 0 then nI (100 + k) else if b.toNatClampNeg + k < len then (if bt (vT V (k / vN V)) (k % vN V) = decide (it (b.toNatClampNeg + k) = 1) then jgF V it b len j (k + 1) else nI (10 * (k / vN V) + k % vN V)) else nI (100 + k)
theorem dm_lt {k n : Nat} (h : k < n * n) : k / n < n ∧ k % n < n := by
  have hn : 0 < n := by
    rcases Nat.eq_zero_or_pos n with z | z
    · subst z; omega
    · exact z
  exact ⟨Nat.div_lt_of_lt_mul h, Nat.mod_lt _ hn⟩
theorem sq_b {n : Nat} (h : n ≤ 8) : n * n ≤ 64 := Nat.mul_le_mul h h
theorem y_jud_101 (d : Nat) {Q : zQ} {m : zM} {V : zV} (hV : vX m 21 V) {b : Int32} {len : Nat} (hl : gI m 101 1 = nI len) (hlb : len ≤ 60) (hit : 0 < len → ∀ j, j < 60 → gL m 102 j = 0 ∨ gL m 102 j = 1) :
    ∀ j k, k + j = vN V * vN V → Q (some (.int (jgF V (gL m 102) b len j k))) m → ∀ u, zle [.ref 21, .ref 101, .int b, .int (nI (vN V * vN V)), .int (nI k), .retAddr 0, .retAddr 0] u → zRun (zCall (d + 2)) 3 (some .int) zc_Hedge_judged Q 13 u [] m
  | 0, k, hk, h, u, hu => by
    have h8 := sq_b hV.1.1
    exact zRun_le (zCall_m _) hu (sg_Hedge_judged_101_13 (zCall_m _) _ _ _ m (ip (nI_le (by omega) (by omega)) h))
  | j + 1, k, hk, h, u, hu => by
    have h8 := hV.1.1
    have h64 := sq_b h8
    obtain ⟨d1, d2⟩ := dm_lt (show k < vN V * vN V by omega)
    have IH := y_jud_101 (Q := Q) d hV hl hlb hit (b := b) j (k + 1) (by omega)
    have hn0 : ¬ nI (vN V) = 0 := nI_ne0 (by omega) (by omega)
    unfold jgF at h
    refine zRun_le (zCall_m _) hu (sg_Hedge_judged_101_13 (zCall_m _) _ _ _ m (iq (nI_ge (by omega) (by omega)) ?_))
    rw [hl, hV.2.1, show (100 : Int32) = nI 100 from rfl, nI_add]
    by_cases h1 : b < 0
    · rw [if_pos h1] at h
      exact ip h1 h
    · rw [if_neg h1] at h
      refine iq h1 ?_
      obtain ⟨v, hv, rfl⟩ := nI_of h1
      rw [nI_clamp hv] at h
      have hc : nI v < nI len - nI k ↔ v + k < len := by
        rw [Int32.lt_iff_toInt_lt, sb_i (by omega) (by omega), nI_toInt hv]
        omega
      by_cases h2 : v + k < len
      · rw [if_pos h2] at h
        refine ip (hc.mpr h2) ⟨hn0, hn0, ?_⟩
        rw [pk_rem (by omega) (by omega) (by omega), pk_div (by omega) (by omega) (by omega), nI_add]
        refine ⟨vp_in_nI (by omega) (by omega), y_Box_holds d _ (by omega) ⟨_, rfl, vp_in_nI (by omega) (by omega), ?_⟩⟩
        rw [nI_clamp (n := v + k) (by omega)]
        have ht : gI m 24 (k / vN V) = vT V (k / vN V) := (hV.2.2.1 (k / vN V) d1).2.2
        rw [nI_clamp (n := k / vN V) (by omega), ht]
        have nx : ∀ x y, bt (vT V (k / vN V)) (k % vN V) = decide (gL m 102 (v + k) = 1) → zRun (zCall (d + 2)) 3 (some .int) zc_Hedge_judged Q 13 [.ref 21, .ref 101, .int (nI v), .int (nI (vN V * vN V)), .int (nI k + 1), .int x, .int y] [] m := fun x y e => by
          rw [if_pos e] at h
          rw [nI_1]
          exact IH h _ (by repeat (first | exact zle_nil | apply zle_same | apply zle_new _ rfl))
        have no : ¬ bt (vT V (k / vN V)) (k % vN V) = decide (gL m 102 (v + k) = 1) → Q (some (.int (10 * nI (k / vN V) + nI (k % vN V)))) m := fun e => by
          rw [if_neg e] at h
          rw [show (10 : Int32) = nI 10 from rfl, pk_mul, nI_add]
          exact h
        rcases hit (by omega) (v + k) (by omega) with e | e
        · rw [e] at nx no ⊢
          refine ip lc_00 ?_
          cases hb : bt (vT V (k / vN V)) (k % vN V) with
          | false => exact ip rfl (nx _ _ (by rw [hb]; decide))
          | true => exact iq (by decide) (no (by rw [hb]; decide))
        · rw [e] at nx no ⊢
          refine iq lc_10 ?_
          cases hb : bt (vT V (k / vN V)) (k % vN V) with
          | false => exact iq (by decide) (no (by rw [hb]; decide))
          | true => exact ip rfl (nx _ _ (by rw [hb]; decide))
      · rw [if_neg h2] at h
        exact iq (fun z => h2 (hc.mp z)) h
theorem y_jud_103 (d : Nat) {Q : zQ} {m : zM} {V : zV} (hV : vX m 21 V) {b : Int32} {len : Nat} (hl : gI m 103 1 = nI len) (hlb : len ≤ 60) (hit : 0 < len → ∀ j, j < 60 → gL m 104 j = 0 ∨ gL m 104 j = 1) :
    ∀ j k, k + j = vN V * vN V → Q (some (.int (jgF V (gL m 104) b len j k))) m → ∀ u, zle [.ref 21, .ref 103, .int b, .int (nI (vN V * vN V)), .int (nI k), .retAddr 0, .retAddr 0] u → zRun (zCall (d + 2)) 3 (some .int) zc_Hedge_judged Q 13 u [] m
  | 0, k, hk, h, u, hu => by
    have h8 := sq_b hV.1.1
    exact zRun_le (zCall_m _) hu (sg_Hedge_judged_103_13 (zCall_m _) _ _ _ m (ip (nI_le (by omega) (by omega)) h))
  | j + 1, k, hk, h, u, hu => by
    have h8 := hV.1.1
    have h64 := sq_b h8
    obtain ⟨d1, d2⟩ := dm_lt (show k < vN V * vN V by omega)
    have IH := y_jud_103 (Q := Q) d hV hl hlb hit (b := b) j (k + 1) (by omega)
    have hn0 : ¬ nI (vN V) = 0 := nI_ne0 (by omega) (by omega)
    unfold jgF at h
    refine zRun_le (zCall_m _) hu (sg_Hedge_judged_103_13 (zCall_m _) _ _ _ m (iq (nI_ge (by omega) (by omega)) ?_))
    rw [hl, hV.2.1, show (100 : Int32) = nI 100 from rfl, nI_add]
    by_cases h1 : b < 0
    · rw [if_pos h1] at h
      exact ip h1 h
    · rw [if_neg h1] at h
      refine iq h1 ?_
      obtain ⟨v, hv, rfl⟩ := nI_of h1
      rw [nI_clamp hv] at h
      have hc : nI v < nI len - nI k ↔ v + k < len := by
        rw [Int32.lt_iff_toInt_lt, sb_i (by omega) (by omega), nI_toInt hv]
        omega
      by_cases h2 : v + k < len
      · rw [if_pos h2] at h
        refine ip (hc.mpr h2) ⟨hn0, hn0, ?_⟩
        rw [pk_rem (by omega) (by omega) (by omega), pk_div (by omega) (by omega) (by omega), nI_add]
        refine ⟨vp_in_nI (by omega) (by omega), y_Box_holds d _ (by omega) ⟨_, rfl, vp_in_nI (by omega) (by omega), ?_⟩⟩
        rw [nI_clamp (n := v + k) (by omega)]
        have ht : gI m 24 (k / vN V) = vT V (k / vN V) := (hV.2.2.1 (k / vN V) d1).2.2
        rw [nI_clamp (n := k / vN V) (by omega), ht]
        have nx : ∀ x y, bt (vT V (k / vN V)) (k % vN V) = decide (gL m 104 (v + k) = 1) → zRun (zCall (d + 2)) 3 (some .int) zc_Hedge_judged Q 13 [.ref 21, .ref 103, .int (nI v), .int (nI (vN V * vN V)), .int (nI k + 1), .int x, .int y] [] m := fun x y e => by
          rw [if_pos e] at h
          rw [nI_1]
          exact IH h _ (by repeat (first | exact zle_nil | apply zle_same | apply zle_new _ rfl))
        have no : ¬ bt (vT V (k / vN V)) (k % vN V) = decide (gL m 104 (v + k) = 1) → Q (some (.int (10 * nI (k / vN V) + nI (k % vN V)))) m := fun e => by
          rw [if_neg e] at h
          rw [show (10 : Int32) = nI 10 from rfl, pk_mul, nI_add]
          exact h
        rcases hit (by omega) (v + k) (by omega) with e | e
        · rw [e] at nx no ⊢
          refine ip lc_00 ?_
          cases hb : bt (vT V (k / vN V)) (k % vN V) with
          | false => exact ip rfl (nx _ _ (by rw [hb]; decide))
          | true => exact iq (by decide) (no (by rw [hb]; decide))
        · rw [e] at nx no ⊢
          refine iq lc_10 ?_
          cases hb : bt (vT V (k / vN V)) (k % vN V) with
          | false => exact iq (by decide) (no (by rw [hb]; decide))
          | true => exact ip rfl (nx _ _ (by rw [hb]; decide))
      · rw [if_neg h2] at h
        exact iq (fun z => h2 (hc.mp z)) h
theorem y_jud_105 (d : Nat) {Q : zQ} {m : zM} {V : zV} (hV : vX m 21 V) {b : Int32} {len : Nat} (hl : gI m 105 1 = nI len) (hlb : len ≤ 60) (hit : 0 < len → ∀ j, j < 60 → gL m 106 j = 0 ∨ gL m 106 j = 1) :
    ∀ j k, k + j = vN V * vN V → Q (some (.int (jgF V (gL m 106) b len j k))) m → ∀ u, zle [.ref 21, .ref 105, .int b, .int (nI (vN V * vN V)), .int (nI k), .retAddr 0, .retAddr 0] u → zRun (zCall (d + 2)) 3 (some .int) zc_Hedge_judged Q 13 u [] m
  | 0, k, hk, h, u, hu => by
    have h8 := sq_b hV.1.1
    exact zRun_le (zCall_m _) hu (sg_Hedge_judged_105_13 (zCall_m _) _ _ _ m (ip (nI_le (by omega) (by omega)) h))
  | j + 1, k, hk, h, u, hu => by
    have h8 := hV.1.1
    have h64 := sq_b h8
    obtain ⟨d1, d2⟩ := dm_lt (show k < vN V * vN V by omega)
    have IH := y_jud_105 (Q := Q) d hV hl hlb hit (b := b) j (k + 1) (by omega)
    have hn0 : ¬ nI (vN V) = 0 := nI_ne0 (by omega) (by omega)
    unfold jgF at h
    refine zRun_le (zCall_m _) hu (sg_Hedge_judged_105_13 (zCall_m _) _ _ _ m (iq (nI_ge (by omega) (by omega)) ?_))
    rw [hl, hV.2.1, show (100 : Int32) = nI 100 from rfl, nI_add]
    by_cases h1 : b < 0
    · rw [if_pos h1] at h
      exact ip h1 h
    · rw [if_neg h1] at h
      refine iq h1 ?_
      obtain ⟨v, hv, rfl⟩ := nI_of h1
      rw [nI_clamp hv] at h
      have hc : nI v < nI len - nI k ↔ v + k < len := by
        rw [Int32.lt_iff_toInt_lt, sb_i (by omega) (by omega), nI_toInt hv]
        omega
      by_cases h2 : v + k < len
      · rw [if_pos h2] at h
        refine ip (hc.mpr h2) ⟨hn0, hn0, ?_⟩
        rw [pk_rem (by omega) (by omega) (by omega), pk_div (by omega) (by omega) (by omega), nI_add]
        refine ⟨vp_in_nI (by omega) (by omega), y_Box_holds d _ (by omega) ⟨_, rfl, vp_in_nI (by omega) (by omega), ?_⟩⟩
        rw [nI_clamp (n := v + k) (by omega)]
        have ht : gI m 24 (k / vN V) = vT V (k / vN V) := (hV.2.2.1 (k / vN V) d1).2.2
        rw [nI_clamp (n := k / vN V) (by omega), ht]
        have nx : ∀ x y, bt (vT V (k / vN V)) (k % vN V) = decide (gL m 106 (v + k) = 1) → zRun (zCall (d + 2)) 3 (some .int) zc_Hedge_judged Q 13 [.ref 21, .ref 105, .int (nI v), .int (nI (vN V * vN V)), .int (nI k + 1), .int x, .int y] [] m := fun x y e => by
          rw [if_pos e] at h
          rw [nI_1]
          exact IH h _ (by repeat (first | exact zle_nil | apply zle_same | apply zle_new _ rfl))
        have no : ¬ bt (vT V (k / vN V)) (k % vN V) = decide (gL m 106 (v + k) = 1) → Q (some (.int (10 * nI (k / vN V) + nI (k % vN V)))) m := fun e => by
          rw [if_neg e] at h
          rw [show (10 : Int32) = nI 10 from rfl, pk_mul, nI_add]
          exact h
        rcases hit (by omega) (v + k) (by omega) with e | e
        · rw [e] at nx no ⊢
          refine ip lc_00 ?_
          cases hb : bt (vT V (k / vN V)) (k % vN V) with
          | false => exact ip rfl (nx _ _ (by rw [hb]; decide))
          | true => exact iq (by decide) (no (by rw [hb]; decide))
        · rw [e] at nx no ⊢
          refine iq lc_10 ?_
          cases hb : bt (vT V (k / vN V)) (k % vN V) with
          | false => exact iq (by decide) (no (by rw [hb]; decide))
          | true => exact ip rfl (nx _ _ (by rw [hb]; decide))
      · rw [if_neg h2] at h
        exact iq (fun z => h2 (hc.mp z)) h
theorem y_jud_107 (d : Nat) {Q : zQ} {m : zM} {V : zV} (hV : vX m 21 V) {b : Int32} {len : Nat} (hl : gI m 107 1 = nI len) (hlb : len ≤ 60) (hit : 0 < len → ∀ j, j < 60 → gL m 108 j = 0 ∨ gL m 108 j = 1) :
    ∀ j k, k + j = vN V * vN V → Q (some (.int (jgF V (gL m 108) b len j k))) m → ∀ u, zle [.ref 21, .ref 107, .int b, .int (nI (vN V * vN V)), .int (nI k), .retAddr 0, .retAddr 0] u → zRun (zCall (d + 2)) 3 (some .int) zc_Hedge_judged Q 13 u [] m
  | 0, k, hk, h, u, hu => by
    have h8 := sq_b hV.1.1
    exact zRun_le (zCall_m _) hu (sg_Hedge_judged_107_13 (zCall_m _) _ _ _ m (ip (nI_le (by omega) (by omega)) h))
  | j + 1, k, hk, h, u, hu => by
    have h8 := hV.1.1
    have h64 := sq_b h8
    obtain ⟨d1, d2⟩ := dm_lt (show k < vN V * vN V by omega)
    have IH := y_jud_107 (Q := Q) d hV hl hlb hit (b := b) j (k + 1) (by omega)
    have hn0 : ¬ nI (vN V) = 0 := nI_ne0 (by omega) (by omega)
    unfold jgF at h
    refine zRun_le (zCall_m _) hu (sg_Hedge_judged_107_13 (zCall_m _) _ _ _ m (iq (nI_ge (by omega) (by omega)) ?_))
    rw [hl, hV.2.1, show (100 : Int32) = nI 100 from rfl, nI_add]
    by_cases h1 : b < 0
    · rw [if_pos h1] at h
      exact ip h1 h
    · rw [if_neg h1] at h
      refine iq h1 ?_
      obtain ⟨v, hv, rfl⟩ := nI_of h1
      rw [nI_clamp hv] at h
      have hc : nI v < nI len - nI k ↔ v + k < len := by
        rw [Int32.lt_iff_toInt_lt, sb_i (by omega) (by omega), nI_toInt hv]
        omega
      by_cases h2 : v + k < len
      · rw [if_pos h2] at h
        refine ip (hc.mpr h2) ⟨hn0, hn0, ?_⟩
        rw [pk_rem (by omega) (by omega) (by omega), pk_div (by omega) (by omega) (by omega), nI_add]
        refine ⟨vp_in_nI (by omega) (by omega), y_Box_holds d _ (by omega) ⟨_, rfl, vp_in_nI (by omega) (by omega), ?_⟩⟩
        rw [nI_clamp (n := v + k) (by omega)]
        have ht : gI m 24 (k / vN V) = vT V (k / vN V) := (hV.2.2.1 (k / vN V) d1).2.2
        rw [nI_clamp (n := k / vN V) (by omega), ht]
        have nx : ∀ x y, bt (vT V (k / vN V)) (k % vN V) = decide (gL m 108 (v + k) = 1) → zRun (zCall (d + 2)) 3 (some .int) zc_Hedge_judged Q 13 [.ref 21, .ref 107, .int (nI v), .int (nI (vN V * vN V)), .int (nI k + 1), .int x, .int y] [] m := fun x y e => by
          rw [if_pos e] at h
          rw [nI_1]
          exact IH h _ (by repeat (first | exact zle_nil | apply zle_same | apply zle_new _ rfl))
        have no : ¬ bt (vT V (k / vN V)) (k % vN V) = decide (gL m 108 (v + k) = 1) → Q (some (.int (10 * nI (k / vN V) + nI (k % vN V)))) m := fun e => by
          rw [if_neg e] at h
          rw [show (10 : Int32) = nI 10 from rfl, pk_mul, nI_add]
          exact h
        rcases hit (by omega) (v + k) (by omega) with e | e
        · rw [e] at nx no ⊢
          refine ip lc_00 ?_
          cases hb : bt (vT V (k / vN V)) (k % vN V) with
          | false => exact ip rfl (nx _ _ (by rw [hb]; decide))
          | true => exact iq (by decide) (no (by rw [hb]; decide))
        · rw [e] at nx no ⊢
          refine iq lc_10 ?_
          cases hb : bt (vT V (k / vN V)) (k % vN V) with
          | false => exact iq (by decide) (no (by rw [hb]; decide))
          | true => exact ip rfl (nx _ _ (by rw [hb]; decide))
      · rw [if_neg h2] at h
        exact iq (fun z => h2 (hc.mp z)) h
theorem y_jud_109 (d : Nat) {Q : zQ} {m : zM} {V : zV} (hV : vX m 21 V) {b : Int32} {len : Nat} (hl : gI m 109 1 = nI len) (hlb : len ≤ 60) (hit : 0 < len → ∀ j, j < 60 → gL m 110 j = 0 ∨ gL m 110 j = 1) :
    ∀ j k, k + j = vN V * vN V → Q (some (.int (jgF V (gL m 110) b len j k))) m → ∀ u, zle [.ref 21, .ref 109, .int b, .int (nI (vN V * vN V)), .int (nI k), .retAddr 0, .retAddr 0] u → zRun (zCall (d + 2)) 3 (some .int) zc_Hedge_judged Q 13 u [] m
  | 0, k, hk, h, u, hu => by
    have h8 := sq_b hV.1.1
    exact zRun_le (zCall_m _) hu (sg_Hedge_judged_109_13 (zCall_m _) _ _ _ m (ip (nI_le (by omega) (by omega)) h))
  | j + 1, k, hk, h, u, hu => by
    have h8 := hV.1.1
    have h64 := sq_b h8
    obtain ⟨d1, d2⟩ := dm_lt (show k < vN V * vN V by omega)
    have IH := y_jud_109 (Q := Q) d hV hl hlb hit (b := b) j (k + 1) (by omega)
    have hn0 : ¬ nI (vN V) = 0 := nI_ne0 (by omega) (by omega)
    unfold jgF at h
    refine zRun_le (zCall_m _) hu (sg_Hedge_judged_109_13 (zCall_m _) _ _ _ m (iq (nI_ge (by omega) (by omega)) ?_))
    rw [hl, hV.2.1, show (100 : Int32) = nI 100 from rfl, nI_add]
    by_cases h1 : b < 0
    · rw [if_pos h1] at h
      exact ip h1 h
    · rw [if_neg h1] at h
      refine iq h1 ?_
      obtain ⟨v, hv, rfl⟩ := nI_of h1
      rw [nI_clamp hv] at h
      have hc : nI v < nI len - nI k ↔ v + k < len := by
        rw [Int32.lt_iff_toInt_lt, sb_i (by omega) (by omega), nI_toInt hv]
        omega
      by_cases h2 : v + k < len
      · rw [if_pos h2] at h
        refine ip (hc.mpr h2) ⟨hn0, hn0, ?_⟩
        rw [pk_rem (by omega) (by omega) (by omega), pk_div (by omega) (by omega) (by omega), nI_add]
        refine ⟨vp_in_nI (by omega) (by omega), y_Box_holds d _ (by omega) ⟨_, rfl, vp_in_nI (by omega) (by omega), ?_⟩⟩
        rw [nI_clamp (n := v + k) (by omega)]
        have ht : gI m 24 (k / vN V) = vT V (k / vN V) := (hV.2.2.1 (k / vN V) d1).2.2
        rw [nI_clamp (n := k / vN V) (by omega), ht]
        have nx : ∀ x y, bt (vT V (k / vN V)) (k % vN V) = decide (gL m 110 (v + k) = 1) → zRun (zCall (d + 2)) 3 (some .int) zc_Hedge_judged Q 13 [.ref 21, .ref 109, .int (nI v), .int (nI (vN V * vN V)), .int (nI k + 1), .int x, .int y] [] m := fun x y e => by
          rw [if_pos e] at h
          rw [nI_1]
          exact IH h _ (by repeat (first | exact zle_nil | apply zle_same | apply zle_new _ rfl))
        have no : ¬ bt (vT V (k / vN V)) (k % vN V) = decide (gL m 110 (v + k) = 1) → Q (some (.int (10 * nI (k / vN V) + nI (k % vN V)))) m := fun e => by
          rw [if_neg e] at h
          rw [show (10 : Int32) = nI 10 from rfl, pk_mul, nI_add]
          exact h
        rcases hit (by omega) (v + k) (by omega) with e | e
        · rw [e] at nx no ⊢
          refine ip lc_00 ?_
          cases hb : bt (vT V (k / vN V)) (k % vN V) with
          | false => exact ip rfl (nx _ _ (by rw [hb]; decide))
          | true => exact iq (by decide) (no (by rw [hb]; decide))
        · rw [e] at nx no ⊢
          refine iq lc_10 ?_
          cases hb : bt (vT V (k / vN V)) (k % vN V) with
          | false => exact iq (by decide) (no (by rw [hb]; decide))
          | true => exact ip rfl (nx _ _ (by rw [hb]; decide))
      · rw [if_neg h2] at h
        exact iq (fun z => h2 (hc.mp z)) h
theorem y_jud_111 (d : Nat) {Q : zQ} {m : zM} {V : zV} (hV : vX m 21 V) {b : Int32} {len : Nat} (hl : gI m 111 1 = nI len) (hlb : len ≤ 60) (hit : 0 < len → ∀ j, j < 60 → gL m 112 j = 0 ∨ gL m 112 j = 1) :
    ∀ j k, k + j = vN V * vN V → Q (some (.int (jgF V (gL m 112) b len j k))) m → ∀ u, zle [.ref 21, .ref 111, .int b, .int (nI (vN V * vN V)), .int (nI k), .retAddr 0, .retAddr 0] u → zRun (zCall (d + 2)) 3 (some .int) zc_Hedge_judged Q 13 u [] m
  | 0, k, hk, h, u, hu => by
    have h8 := sq_b hV.1.1
    exact zRun_le (zCall_m _) hu (sg_Hedge_judged_111_13 (zCall_m _) _ _ _ m (ip (nI_le (by omega) (by omega)) h))
  | j + 1, k, hk, h, u, hu => by
    have h8 := hV.1.1
    have h64 := sq_b h8
    obtain ⟨d1, d2⟩ := dm_lt (show k < vN V * vN V by omega)
    have IH := y_jud_111 (Q := Q) d hV hl hlb hit (b := b) j (k + 1) (by omega)
    have hn0 : ¬ nI (vN V) = 0 := nI_ne0 (by omega) (by omega)
    unfold jgF at h
    refine zRun_le (zCall_m _) hu (sg_Hedge_judged_111_13 (zCall_m _) _ _ _ m (iq (nI_ge (by omega) (by omega)) ?_))
    rw [hl, hV.2.1, show (100 : Int32) = nI 100 from rfl, nI_add]
    by_cases h1 : b < 0
    · rw [if_pos h1] at h
      exact ip h1 h
    · rw [if_neg h1] at h
      refine iq h1 ?_
      obtain ⟨v, hv, rfl⟩ := nI_of h1
      rw [nI_clamp hv] at h
      have hc : nI v < nI len - nI k ↔ v + k < len := by
        rw [Int32.lt_iff_toInt_lt, sb_i (by omega) (by omega), nI_toInt hv]
        omega
      by_cases h2 : v + k < len
      · rw [if_pos h2] at h
        refine ip (hc.mpr h2) ⟨hn0, hn0, ?_⟩
        rw [pk_rem (by omega) (by omega) (by omega), pk_div (by omega) (by omega) (by omega), nI_add]
        refine ⟨vp_in_nI (by omega) (by omega), y_Box_holds d _ (by omega) ⟨_, rfl, vp_in_nI (by omega) (by omega), ?_⟩⟩
        rw [nI_clamp (n := v + k) (by omega)]
        have ht : gI m 24 (k / vN V) = vT V (k / vN V) := (hV.2.2.1 (k / vN V) d1).2.2
        rw [nI_clamp (n := k / vN V) (by omega), ht]
        have nx : ∀ x y, bt (vT V (k / vN V)) (k % vN V) = decide (gL m 112 (v + k) = 1) → zRun (zCall (d + 2)) 3 (some .int) zc_Hedge_judged Q 13 [.ref 21, .ref 111, .int (nI v), .int (nI (vN V * vN V)), .int (nI k + 1), .int x, .int y] [] m := fun x y e => by
          rw [if_pos e] at h
          rw [nI_1]
          exact IH h _ (by repeat (first | exact zle_nil | apply zle_same | apply zle_new _ rfl))
        have no : ¬ bt (vT V (k / vN V)) (k % vN V) = decide (gL m 112 (v + k) = 1) → Q (some (.int (10 * nI (k / vN V) + nI (k % vN V)))) m := fun e => by
          rw [if_neg e] at h
          rw [show (10 : Int32) = nI 10 from rfl, pk_mul, nI_add]
          exact h
        rcases hit (by omega) (v + k) (by omega) with e | e
        · rw [e] at nx no ⊢
          refine ip lc_00 ?_
          cases hb : bt (vT V (k / vN V)) (k % vN V) with
          | false => exact ip rfl (nx _ _ (by rw [hb]; decide))
          | true => exact iq (by decide) (no (by rw [hb]; decide))
        · rw [e] at nx no ⊢
          refine iq lc_10 ?_
          cases hb : bt (vT V (k / vN V)) (k % vN V) with
          | false => exact iq (by decide) (no (by rw [hb]; decide))
          | true => exact ip rfl (nx _ _ (by rw [hb]; decide))
      · rw [if_neg h2] at h
        exact iq (fun z => h2 (hc.mp z)) h
theorem y_jud (d : Nat) {Q : zQ} {m : zM} {V : zV} (hV : vX m 21 V) {t : Nat} (ht : t < 6) (b : Int32) {len : Nat} (hl : gI m (101 + 2 * t) 1 = nI len) (hlb : len ≤ 60) (hit : 0 < len → ∀ j, j < 60 → gL m (102 + 2 * t) j = 0 ∨ gL m (102 + 2 * t) j = 1) (h : Q (some (.int (jgF V (gL m (102 + 2 * t)) b len (vN V * vN V) 0))) m) : zCall (d + 3) m_Hedge_judged [.ref 21, .ref (101 + 2 * t), .int b] m Q := by
  match t, ht, hl, hit, h with
  | 0, _, hl, hit, h =>
    refine en_Hedge_judged_101 (d + 2) b m (sg_Hedge_judged_101_0 (zCall_m _) b m ?_)
    rw [hV.2.1, pk_mul]
    exact y_jud_101 d hV hl hlb hit _ 0 (Nat.zero_add _) h _ (zle_refl _)
  | 1, _, hl, hit, h =>
    refine en_Hedge_judged_103 (d + 2) b m (sg_Hedge_judged_103_0 (zCall_m _) b m ?_)
    rw [hV.2.1, pk_mul]
    exact y_jud_103 d hV hl hlb hit _ 0 (Nat.zero_add _) h _ (zle_refl _)
  | 2, _, hl, hit, h =>
    refine en_Hedge_judged_105 (d + 2) b m (sg_Hedge_judged_105_0 (zCall_m _) b m ?_)
    rw [hV.2.1, pk_mul]
    exact y_jud_105 d hV hl hlb hit _ 0 (Nat.zero_add _) h _ (zle_refl _)
  | 3, _, hl, hit, h =>
    refine en_Hedge_judged_107 (d + 2) b m (sg_Hedge_judged_107_0 (zCall_m _) b m ?_)
    rw [hV.2.1, pk_mul]
    exact y_jud_107 d hV hl hlb hit _ 0 (Nat.zero_add _) h _ (zle_refl _)
  | 4, _, hl, hit, h =>
    refine en_Hedge_judged_109 (d + 2) b m (sg_Hedge_judged_109_0 (zCall_m _) b m ?_)
    rw [hV.2.1, pk_mul]
    exact y_jud_109 d hV hl hlb hit _ 0 (Nat.zero_add _) h _ (zle_refl _)
  | 5, _, hl, hit, h =>
    refine en_Hedge_judged_111 (d + 2) b m (sg_Hedge_judged_111_0 (zCall_m _) b m ?_)
    rw [hV.2.1, pk_mul]
    exact y_jud_111 d hV hl hlb hit _ 0 (Nat.zero_add _) h _ (zle_refl _)
theorem jgF_cg {V : zV} {it it2 : Nat → Int64} {b : Int32} {len : Nat} (h : ∀ j, j < len → it j = it2 j) : ∀ j k, jgF V it b len j k = jgF V it2 b len j k
  | 0, _ => rfl
  | j + 1, k => by
    unfold jgF
    rw [jgF_cg h j (k + 1)]
    by_cases l : b.toNatClampNeg + k < len
    · rw [h _ l]
    · rw [if_neg l, if_neg l]
theorem y_mjud (d : Nat) {Q : zQ} {m : zM} {V : zV} (hV : vM m V) {t : Nat} (ht : t < 6) {b s : Int32} {len : Nat} (hs : gI m 157 t = s) (hs2 : s = -1 ∨ s = 4) (h0 : s = -1 → len = 0) (hl : gI m 158 t = nI len) (hlb : len ≤ 60) (hit : 0 < len → ∀ j, j < 60 → gL m 159 (60 * t + j) = 0 ∨ gL m 159 (60 * t + j) = 1) :
    ∀ j k, k + j = vN V * vN V → Q (some (.int (jgF V (fun i => gL m 159 (60 * t + i)) b len j k))) m → ∀ u, zle [.ref 113, .int (nI t), .int b, .int (nI k), .retAddr 0, .retAddr 0] u → zRun (zCall (d + 1)) 9 (some .int) zc_Mod_judge Q 34 u [] m
  | 0, k, hk, h, u, hu => by
    have h8 := sq_b hV.1.1
    refine zRun_le (zCall_m _) hu (sg_Mod_judge_34 (zCall_m _) _ _ _ m ?_)
    rw [hV.2.1, pk_mul]
    exact ip (nI_le (by omega) (by omega)) h
  | j + 1, k, hk, h, u, hu => by
    have h8 := hV.1.1
    have h64 := sq_b h8
    obtain ⟨d1, d2⟩ := dm_lt (show k < vN V * vN V by omega)
    have IH := y_mjud (Q := Q) d hV ht (b := b) hs hs2 h0 hl hlb hit j (k + 1) (by omega)
    have hn0 : ¬ nI (vN V) = 0 := nI_ne0 (by omega) (by omega)
    have hin : vp_in (nI t) 6 := vp_in_nI ht (by decide)
    unfold jgF at h
    refine zRun_le (zCall_m _) hu (sg_Mod_judge_34 (zCall_m _) _ _ _ m ?_)
    rw [hV.2.1, pk_mul]
    refine iq (nI_ge (by omega) (by omega)) ⟨hn0, hn0, hin, ?_⟩
    rw [nI_clamp (n := t) (by omega), hs, hl, show (100 : Int32) = nI 100 from rfl, nI_add]
    rcases hs2 with e | e
    · have hz := h0 e
      subst hz
      refine ip (by rw [e]; decide) ?_
      by_cases h1 : b < 0
      · rw [if_pos h1] at h; exact h
      · rw [if_neg h1, if_neg (by omega)] at h; exact h
    · refine iq (by rw [e]; decide) ?_
      by_cases h1 : b < 0
      · rw [if_pos h1] at h
        exact ip h1 h
      · rw [if_neg h1] at h
        refine iq h1 ⟨hin, ?_⟩
        obtain ⟨v, hv, rfl⟩ := nI_of h1
        rw [nI_clamp hv] at h
        have hc : nI v ≤ nI len - nI k - 1 ↔ v + k < len := by
          rw [Int32.le_iff_toInt_le, nI_toInt hv]
          have e1 : (nI len - nI k - 1).toInt = (len : Int) - k - 1 := by
            rw [Int32.toInt_sub, sb_i (by omega) (by omega), show (1 : Int32).toInt = 1 by decide]
            exact Int.bmod_eq_of_le (by omega) (by omega)
          rw [e1]
          omega
        by_cases h2 : v + k < len
        · rw [if_pos h2] at h
          rw [pk_rem (by omega) (by omega) (by omega), pk_div (by omega) (by omega) (by omega), show (60 : Int32) = nI 60 from rfl, pk_mul, nI_add, nI_add, nI_clamp (n := 60 * t + v + k) (by omega), nI_clamp (n := k / vN V) (by omega), (hV.2.2.1 (k / vN V) d1).2.2, Nat.add_assoc (60 * t)]
          refine ip (hc.mpr h2) ⟨vp_in_nI (by omega) (by decide), vp_in_nI (by omega) (by omega), y_Mod_has d _ (by omega) ⟨_, rfl, ?_⟩⟩
          have nx : ∀ x y, bt (vT V (k / vN V)) (k % vN V) = decide (gL m 159 (60 * t + (v + k)) = 1) → zRun (zCall (d + 1)) 9 (some .int) zc_Mod_judge Q 34 [.ref 113, .int (nI t), .int (nI v), .int (nI k + 1), .int x, .int y] [] m := fun x y e => by
            rw [if_pos e] at h
            rw [nI_1]
            exact IH h _ (by repeat (first | exact zle_nil | apply zle_same | apply zle_new _ rfl))
          have no : ¬ bt (vT V (k / vN V)) (k % vN V) = decide (gL m 159 (60 * t + (v + k)) = 1) → Q (some (.int (10 * nI (k / vN V) + nI (k % vN V)))) m := fun e => by
            rw [if_neg e] at h
            rw [show (10 : Int32) = nI 10 from rfl, pk_mul, nI_add]
            exact h
          rcases hit (by omega) (v + k) (by omega) with e | e
          · rw [e] at nx no ⊢
            cases hb : bt (vT V (k / vN V)) (k % vN V) with
            | false => exact ip rfl (ip lc_00 (nx _ _ (by rw [hb]; decide)))
            | true => exact iq (by decide) (iq lc_01 (no (by rw [hb]; decide)))
          · rw [e] at nx no ⊢
            cases hb : bt (vT V (k / vN V)) (k % vN V) with
            | false => exact ip rfl (iq lc_10 (no (by rw [hb]; decide)))
            | true => exact iq (by decide) (ip lc_11 (nx _ _ (by rw [hb]; decide)))
        · rw [if_neg h2] at h
          exact iq (fun z => h2 (hc.mp z)) h
theorem ok_judge {m : zM} (hR : Rel m) (a b : Int32) : okI m_Box_judge m_Mod_judge [.int a, .int b] m := by
  intro Q hQ
  have h0 := hQ m hR
  obtain ⟨V, ⟨hX, hM, _⟩, hr⟩ := Rel_o hR
  obtain ⟨S, R, B, gc, gs, n, tx, b1, b2, b3, cc, d, e, f, g, i, j, k⟩ := hr
  refine en_Box_judge 49 _ _ m (sg_Box_judge_0 (zCall_m _) _ _ m (y_Box_isTape _ a ⟨_, rfl, zb_d (fun ha => ?_) (fun ha => ?_)⟩))
  · refine ⟨_, rfl, en_Mod_judge 49 _ _ m (sg_Mod_judge_0 (zCall_m _) _ _ m (y_Mod_isTape _ a ⟨_, rfl, ?_⟩))⟩
    rw [ha]; exact iq (fun z => z rfl) ⟨_, rfl, rfl, h0⟩
  · have ha' := ha
    obtain ⟨a1, a2⟩ := zr_k ha
    generalize a.toNatClampNeg = t at a1 a2
    subst a2
    obtain ⟨s, len, t1, t2, t3, t4, t5, t6, t7, t8⟩ := i t a1
    obtain ⟨q1, q2, q3, q4⟩ := tp_sh a1
    obtain ⟨n1, n2⟩ := srt_neg t3
    have hin : vp_in (nI t) 6 := vp_in_nI a1 (by decide)
    refine ⟨hin, ?_⟩
    try rw [nI_clamp (n := t) (by omega)]
    rw [q1, cond_true, cond_true, t1]
    have MJ : ∀ {Q' : zQ}, (if s = -1 ∨ s = 4 then Q' (some (.int (jgF V (fun i => gL m 159 (60 * t + i)) b len (vN V * vN V) 0))) m else Q' (some (.int (-12))) m) → zCall 50 m_Mod_judge [.ref 113, .int (nI t), .int b] m Q' := fun {Q'} h => by
      refine en_Mod_judge 49 _ _ m (sg_Mod_judge_0 (zCall_m _) _ _ m (y_Mod_isTape _ _ ⟨_, rfl, ?_⟩))
      rw [ha']
      refine ip (by decide) ⟨hin, ?_⟩
      rw [nI_clamp (by omega), t2]
      have go : (s = -1 ∨ s = 4) → zRun (zCall 49) 9 (some .int) zc_Mod_judge Q' 34 [.ref 113, .int (nI t), .int b, .int 0, .retAddr 0, .retAddr 0] [] m := fun z => by
        rw [if_pos z] at h
        exact y_mjud 48 hM a1 t2 z t7 t5 t6 (fun w j hj => (t8 j hj).2 (z.elim (fun y => by have := t7 y; omega) id)) (vN V * vN V) 0 (Nat.zero_add _) h _ (zle_refl _)
      by_cases e : s = -1
      · exact ip (n1 e).1 (go (Or.inl e))
      · refine iq (n2 e).1 ⟨hin, ?_⟩
        by_cases e4 : s = 4
        · exact ip e4 (go (Or.inr e4))
        · rw [if_neg (fun z => z.elim e e4)] at h
          exact iq e4 h
    have XJ : (s = -1 ∨ s = 4) → zCall 49 m_Hedge_judged [.ref 21, .ref (101 + 2 * t), .int b] m (fun o4 m5 => ∃ x6, o4 = some (.int x6) ∧ ∃ x, some (Value.int x6) = some (.int x) ∧ zCall 50 m_Mod_judge [.ref 113, .int (nI t), .int b] m5 (fun o2 m2 => ∃ y, o2 = some (.int y) ∧ (x = y ∧ Q m2))) := fun z => by
      refine y_jud 46 hX a1 b t4 t6 (fun w j hj => by rw [(t8 j hj).1]; exact (t8 j hj).2 (z.elim (fun y => by have := t7 y; omega) id)) ⟨_, rfl, _, rfl, MJ ?_⟩
      rw [if_pos z, jgF_cg (fun j hj => (t8 j (by omega)).1)]
      exact ⟨_, rfl, rfl, h0⟩
    by_cases e : s = -1
    · exact ip e (XJ (Or.inl e))
    · refine iq e ?_
      by_cases e4 : s = 4
      · exact ip e4 (XJ (Or.inr e4))
      · refine iq e4 ⟨_, rfl, MJ ?_⟩
        rw [if_neg (fun z => z.elim e e4)]
        exact ⟨_, rfl, rfl, h0⟩
/-! shift -/
def spB (len : Nat) (a n : Int32) : Bool := decide (0 ≤ n.toInt ∧ 0 ≤ a.toInt ∧ a.toInt + n.toInt ≤ len)
theorem spB_q {Q : zQ} {m : zM} {len : Nat} (hl : len ≤ 60) {a b : Int32} (h : Q (some (.int (zb (spB len a b)))) m) : if b < (0 : Int32) then (0 : Int32) &&& 1 = (0 : Int32) ∧ Q (some (.int (0 : Int32))) m
    else if a < (0 : Int32) then (0 : Int32) &&& 1 = (0 : Int32) ∧ Q (some (.int (0 : Int32))) m
      else if nI len < b then (0 : Int32) &&& 1 = (0 : Int32) ∧ Q (some (.int (0 : Int32))) m
        else if (nI len - b) < a then (0 : Int32) &&& 1 = (0 : Int32) ∧ Q (some (.int (0 : Int32))) m
          else (1 : Int32) &&& 1 = (1 : Int32) ∧ Q (some (.int (1 : Int32))) m := by
  have no : spB len a b = false → Q (some (.int 0)) m := fun z => by rw [z] at h; exact h
  by_cases h1 : b < 0
  · refine ip h1 ⟨rfl, no (decide_eq_false (fun z => ?_))⟩
    rw [Int32.lt_iff_toInt_lt, i0] at h1
    omega
  · refine iq h1 ?_
    by_cases h2 : a < 0
    · refine ip h2 ⟨rfl, no (decide_eq_false (fun z => ?_))⟩
      rw [Int32.lt_iff_toInt_lt, i0] at h2
      omega
    · refine iq h2 ?_
      obtain ⟨w, hw, rfl⟩ := nI_of h1
      obtain ⟨u, hu, rfl⟩ := nI_of h2
      unfold spB at no h
      rw [nI_toInt hw, nI_toInt hu] at no h
      by_cases h3 : len < w
      · exact ip (nI_lt h3 hw) ⟨rfl, no (decide_eq_false (by omega))⟩
      · refine iq (nI_nlt (by omega) (by omega)) ?_
        rw [pk_sub (by omega)]
        by_cases h4 : len - w < u
        · exact ip (nI_lt h4 hu) ⟨rfl, no (decide_eq_false (by omega))⟩
        · refine iq (nI_nlt (by omega) (by omega)) ⟨rfl, ?_⟩
          rw [decide_eq_true (by omega)] at h
          exact h
theorem y_spans (d : Nat) {Q : zQ} {m : zM} {t : Nat} (ht : t < 6) {len : Nat} (hl : len ≤ 60) (he : gI m (101 + 2 * t) 1 = nI len) (a b : Int32) (h : Q (some (.int (zb (spB len a b)))) m) : zCall (d + 1) m_Tape_spans [.ref (101 + 2 * t), .int a, .int b] m Q := by
  match t, ht, he with
  | 0, _, he =>
    have he : gI m 101 1 = nI len := he
    refine en_Tape_spans_101 d a b m (sg_Tape_spans_101_0 (zCall_m _) a b m ?_)
    rw [he]
    exact spB_q hl h
  | 1, _, he =>
    have he : gI m 103 1 = nI len := he
    refine en_Tape_spans_103 d a b m (sg_Tape_spans_103_0 (zCall_m _) a b m ?_)
    rw [he]
    exact spB_q hl h
  | 2, _, he =>
    have he : gI m 105 1 = nI len := he
    refine en_Tape_spans_105 d a b m (sg_Tape_spans_105_0 (zCall_m _) a b m ?_)
    rw [he]
    exact spB_q hl h
  | 3, _, he =>
    have he : gI m 107 1 = nI len := he
    refine en_Tape_spans_107 d a b m (sg_Tape_spans_107_0 (zCall_m _) a b m ?_)
    rw [he]
    exact spB_q hl h
  | 4, _, he =>
    have he : gI m 109 1 = nI len := he
    refine en_Tape_spans_109 d a b m (sg_Tape_spans_109_0 (zCall_m _) a b m ?_)
    rw [he]
    exact spB_q hl h
  | 5, _, he =>
    have he : gI m 111 1 = nI len := he
    refine en_Tape_spans_111 d a b m (sg_Tape_spans_111_0 (zCall_m _) a b m ?_)
    rw [he]
    exact spB_q hl h
theorem y_sh1 (d : Nat) {Q : zQ} {t u w : Nat} (ht : t < 6) (huw : u + w ≤ 60) (c e : Int32) {mm : zM}
    (K : ∀ m2, zsm (fun q => q = 160) mm m2 → (∀ i, i < w → gL m2 160 i = gL mm 159 (60 * t + u + i)) → zRun (zCall d) 9 (some .int) zc_Mod_shift Q 141 [.ref 113, .int (nI t), .int (nI u), .int c, .int e, .int (nI w), .int 0] [] m2) :
    ∀ j k m', k + j = w → zsm (fun q => q = 160) mm m' → (∀ i, i < k → gL m' 160 i = gL mm 159 (60 * t + u + i)) → zRun (zCall d) 9 (some .int) zc_Mod_shift Q 104 [.ref 113, .int (nI t), .int (nI u), .int c, .int e, .int (nI w), .int (nI k)] [] m'
  | 0, k, m', hk, hs, h => sg_Mod_shift_104 (zCall_m _) _ _ _ _ _ _ m' (ip (nI_le (by omega) (by omega)) (K m' hs (fun i hi => h i (by omega))))
  | j + 1, k, m', hk, hs, h => by
    refine sg_Mod_shift_104 (zCall_m _) _ _ _ _ _ _ m' (iq (nI_ge (by omega) (by omega)) ?_)
    rw [show (60 : Int32) = nI 60 from rfl, pk_mul, nI_add, nI_add, nI_clamp (n := k) (by omega), nI_clamp (by omega), nI_1]
    refine ⟨vp_in_nI (by omega) (by decide), vp_in_nI (by omega) (by decide), y_sh1 d ht huw c e K j (k + 1) _ (by omega) (zsm_sL (P := fun q => q = 160) hs (show (160 : Nat) = 160 from rfl) _) (fun i hi => ?_)⟩
    rw [gLs]
    by_cases z : i = k
    · rw [if_pos ⟨rfl, z⟩, z, (hs 159 (by omega)).2.1]
    · rw [if_neg (fun y => z y.2)]
      exact h i (by omega)
theorem y_sh2 (d : Nat) {Q : zQ} {o u w : Nat} (ho : o < 6) (huw : u + w ≤ 60) (a b : Int32) {mm : zM}
    (K : ∀ m2, zsm (fun q => q = 159) mm m2 → (∀ i, i < w → gL m2 159 (60 * o + u + i) = gL mm 160 i) → (∀ i, (i < 60 * o + u ∨ 60 * o + u + w ≤ i) → gL m2 159 i = gL mm 159 i) → Q (some (.int (nI w))) m2) :
    ∀ j k m', k + j = w → zsm (fun q => q = 159) mm m' → (∀ i, i < k → gL m' 159 (60 * o + u + i) = gL mm 160 i) → (∀ i, (i < 60 * o + u ∨ 60 * o + u + k ≤ i) → gL m' 159 i = gL mm 159 i) → zRun (zCall d) 9 (some .int) zc_Mod_shift Q 141 [.ref 113, .int a, .int b, .int (nI o), .int (nI u), .int (nI w), .int (nI k)] [] m'
  | 0, k, m', hk, hs, h, h2 => by
    have e : k = w := by omega
    subst e
    exact sg_Mod_shift_141 (zCall_m _) _ _ _ _ _ _ m' (ip (nI_le (by omega) (by omega)) (K m' hs h h2))
  | j + 1, k, m', hk, hs, h, h2 => by
    refine sg_Mod_shift_141 (zCall_m _) _ _ _ _ _ _ m' (iq (nI_ge (by omega) (by omega)) ?_)
    rw [show (60 : Int32) = nI 60 from rfl, pk_mul, nI_add, nI_add, nI_clamp (n := k) (by omega), nI_clamp (by omega), nI_1]
    refine ⟨vp_in_nI (by omega) (by decide), vp_in_nI (by omega) (by decide), y_sh2 d ho huw a b K j (k + 1) _ (by omega) (zsm_sL (P := fun q => q = 159) hs (show (159 : Nat) = 159 from rfl) _) (fun i hi => ?_) (fun i hi => ?_)⟩
    · rw [gLs]
      by_cases z : i = k
      · rw [if_pos ⟨rfl, by omega⟩, z, (hs 160 (by omega)).2.1]
      · rw [if_neg (fun y => by omega)]
        exact h i (by omega)
    · rw [gLs, if_neg (fun y => by omega)]
      exact h2 i (by omega)
theorem gLcp (m : zM) (a i b j n q k : Nat) : gL (cpL m a i b j n) q k = if q = b then va_cpy (gL m a) (gL m b) i j n k else gL m q k := by rw [gL_cpL]
theorem gIcp (m : zM) (a i b j n q k : Nat) : gI (cpL m a i b j n) q k = gI m q k := by rw [gI_cpL]
theorem ok_shift {m : zM} (hR : Rel m) (a b c dd e : Int32) : okI m_Box_shift m_Mod_shift [.int a, .int b, .int c, .int dd, .int e] m := by
  intro Q hQ
  have h0 := hQ m hR
  obtain ⟨V, hH, hr⟩ := Rel_o hR
  have hr' := hr
  obtain ⟨S, R, B, gc, gs, n, tx, b1, b2, b3, cc, d0, e0, f, g, i, j, k⟩ := hr'
  refine en_Box_shift 49 _ _ _ _ _ m (sg_Box_shift_0 (zCall_m _) _ _ _ _ _ m (y_Box_isTape _ a ⟨_, rfl, zb_c (fun ha => ?_) (fun ha => y_Box_isTape _ c ⟨_, rfl, zb_d (fun hc => ?_) (fun hc => ?_)⟩)⟩))
  · refine ⟨_, rfl, en_Mod_shift 49 _ _ _ _ _ m (sg_Mod_shift_0 (zCall_m _) _ _ _ _ _ m (y_Mod_isTape _ a ⟨_, rfl, ?_⟩))⟩
    rw [ha]; exact ip rfl ⟨_, rfl, rfl, h0⟩
  · refine ⟨_, rfl, en_Mod_shift 49 _ _ _ _ _ m (sg_Mod_shift_0 (zCall_m _) _ _ _ _ _ m (y_Mod_isTape _ a ⟨_, rfl, ?_⟩))⟩
    rw [ha]
    refine iq (by decide) (y_Mod_isTape _ c ⟨_, rfl, ?_⟩)
    rw [hc]; exact iq (fun z => z rfl) ⟨_, rfl, rfl, h0⟩
  · have ha' := ha
    have hc' := hc
    obtain ⟨a1, a2⟩ := zr_k ha
    obtain ⟨c1, c2⟩ := zr_k hc
    generalize a.toNatClampNeg = t at a1 a2
    generalize c.toNatClampNeg = o at c1 c2
    subst a2 c2
    obtain ⟨s, len, t1, t2, t3, t4, t5, t6, t7, t8⟩ := i t a1
    obtain ⟨s2, len2, u1, u2, u3, u4, u5, u6, u7, u8⟩ := i o c1
    obtain ⟨q1, q2, q3, q4⟩ := tp_sh a1
    obtain ⟨v1, v2, v3, v4⟩ := tp_sh c1
    obtain ⟨n1, n2⟩ := srt_neg t3
    obtain ⟨w1, w2⟩ := srt_neg u3
    have hin : vp_in (nI t) 6 := vp_in_nI a1 (by decide)
    have hin2 : vp_in (nI o) 6 := vp_in_nI c1 (by decide)
    -- the reference, where it only looks
    have MN : ∀ {m' : zM} {Q' : zQ}, gI m' 157 t = s → gI m' 157 o = s2 → gI m' 158 t = nI len → gI m' 158 o = nI len2 → (if s = -1 then Q' (some (.int (-11))) m' else if s2 = -1 then Q' (some (.int (-11))) m' else if s = s2 then (if spB len b e = true ∧ spB len2 dd e = true then zRun (zCall 49) 9 (some .int) zc_Mod_shift Q' 104 [.ref 113, .int (nI t), .int b, .int (nI o), .int dd, .int e, .int 0] [] m' else Q' (some (.int (-13))) m') else Q' (some (.int (-12))) m') → zCall 50 m_Mod_shift [.ref 113, .int (nI t), .int b, .int (nI o), .int dd, .int e] m' Q' := fun {m' Q'} g1 g2 g3 g4 h => by
      refine en_Mod_shift 49 _ _ _ _ _ _ (sg_Mod_shift_0 (zCall_m _) _ _ _ _ _ _ (y_Mod_isTape _ _ ⟨_, rfl, ?_⟩))
      rw [ha']
      refine iq (by decide) (y_Mod_isTape _ _ ⟨_, rfl, ?_⟩)
      rw [hc']
      refine ip (by decide) ⟨hin, ?_⟩
      rw [nI_clamp (n := t) (by omega), nI_clamp (n := o) (by omega), g1, g2, g3, g4]
      by_cases z1 : s = -1
      · rw [if_pos z1] at h; exact ip (n1 z1).1 h
      · rw [if_neg z1] at h
        refine iq (n2 z1).1 ⟨hin2, ?_⟩
        by_cases z2 : s2 = -1
        · rw [if_pos z2] at h; exact iq (w1 z2).2 h
        · rw [if_neg z2] at h
          refine ip (w2 z2).2 ⟨hin, hin2, ?_⟩
          by_cases z3 : s = s2
          · rw [if_pos z3] at h
            refine ip z3 ?_
            have no : ¬ (spB len b e = true ∧ spB len2 dd e = true) → Q' (some (.int (-13))) m' := fun y => by rw [if_neg y] at h; exact h
            by_cases y1 : e < 0
            · refine ip y1 (no (fun y => ?_))
              have := (of_decide_eq_true y.1).1
              rw [Int32.lt_iff_toInt_lt, i0] at y1
              omega
            · refine iq y1 ?_
              by_cases y2 : b < 0
              · refine ip y2 (no (fun y => ?_))
                have := (of_decide_eq_true y.1).2.1
                rw [Int32.lt_iff_toInt_lt, i0] at y2
                omega
              · refine iq y2 ?_
                by_cases y3 : dd < 0
                · refine ip y3 (no (fun y => ?_))
                  have := (of_decide_eq_true y.2).2.1
                  rw [Int32.lt_iff_toInt_lt, i0] at y3
                  omega
                · refine iq y3 ⟨hin, ?_⟩
                  obtain ⟨we, hwe, rfl⟩ := nI_of y1
                  obtain ⟨wb, hwb, rfl⟩ := nI_of y2
                  obtain ⟨wd, hwd, rfl⟩ := nI_of y3
                  have k1 : nI len - nI we < nI wb ↔ ¬ wb + we ≤ len := by
                    rw [Int32.lt_iff_toInt_lt, sb_i (by omega) hwe, nI_toInt hwb]; omega
                  have k2 : nI wd ≤ nI len2 - nI we ↔ wd + we ≤ len2 := by
                    rw [Int32.le_iff_toInt_le, sb_i (by omega) hwe, nI_toInt hwd]; omega
                  have k3 : spB len (nI wb) (nI we) = decide (wb + we ≤ len) := by
                    unfold spB
                    rw [nI_toInt hwe, nI_toInt hwb]
                    by_cases z : wb + we ≤ len
                    · rw [decide_eq_true z, decide_eq_true (by omega)]
                    · rw [decide_eq_false z, decide_eq_false (by omega)]
                  have k4 : spB len2 (nI wd) (nI we) = decide (wd + we ≤ len2) := by
                    unfold spB
                    rw [nI_toInt hwe, nI_toInt hwd]
                    by_cases z : wd + we ≤ len2
                    · rw [decide_eq_true z, decide_eq_true (by omega)]
                    · rw [decide_eq_false z, decide_eq_false (by omega)]
                  rw [k3, k4] at h no
                  by_cases x1 : wb + we ≤ len
                  · refine iq (fun z => (k1.mp z) x1) ⟨hin2, ?_⟩
                    by_cases x2 : wd + we ≤ len2
                    · rw [if_pos ⟨decide_eq_true x1, decide_eq_true x2⟩] at h
                      exact ip (k2.mpr x2) h
                    · exact iq (fun z => x2 (k2.mp z)) (no (fun y => x2 (of_decide_eq_true y.2)))
                  · exact ip (k1.mpr x1) (no (fun y => x1 (of_decide_eq_true y.1)))
          · rw [if_neg z3] at h; exact iq z3 h
    have MN0 := fun {Q' : zQ} (h) => MN (m' := m) (Q' := Q') t2 u2 t5 u5 h
    refine ⟨hin, hin2, ?_⟩
    try rw [nI_clamp (n := t) (by omega)]
    try rw [nI_clamp (n := o) (by omega)]
    simp only [q1, v1, cond_true, q2, v2, t1, u1, tp_spn a1, tp_spn c1, Bool.true_and]
    by_cases z1 : s = -1
    · refine ip z1 ⟨_, rfl, MN0 ?_⟩
      rw [if_pos z1]; exact ⟨_, rfl, rfl, h0⟩
    · refine iq z1 ?_
      by_cases z2 : s2 = -1
      · refine iq (fun z => z z2) ⟨_, rfl, MN0 ?_⟩
        rw [if_neg z1, if_pos z2]; exact ⟨_, rfl, rfl, h0⟩
      · refine ip z2 ?_
        by_cases z3 : s = s2
        · refine ip z3 (y_spans _ a1 t6 t4 b e ⟨_, rfl, zb_c (fun y1 => ⟨_, rfl, MN0 ?_⟩) (fun y1 => y_spans _ c1 u6 u4 dd e ⟨_, rfl, zb_d (fun y2 => ⟨_, rfl, MN0 ?_⟩) (fun y2 => ?_)⟩)⟩)
          · rw [if_neg z1, if_neg z2, if_pos z3, if_neg (fun y => by rw [y1] at y; cases y.1)]; exact ⟨_, rfl, rfl, h0⟩
          · rw [if_neg z1, if_neg z2, if_pos z3, if_neg (fun y => by rw [y2] at y; cases y.2)]; exact ⟨_, rfl, rfl, h0⟩
          · have y1' := y1
            have y2' := y2
            obtain ⟨x1, x2, x3⟩ := of_decide_eq_true y1
            obtain ⟨_, x4, x5⟩ := of_decide_eq_true y2
            obtain ⟨we, hwe, rfl⟩ := nI_of (x := e) (fun z => by rw [Int32.lt_iff_toInt_lt, i0] at z; omega)
            obtain ⟨wb, hwb, rfl⟩ := nI_of (x := b) (fun z => by rw [Int32.lt_iff_toInt_lt, i0] at z; omega)
            obtain ⟨wd, hwd, rfl⟩ := nI_of (x := dd) (fun z => by rw [Int32.lt_iff_toInt_lt, i0] at z; omega)
            rw [nI_toInt hwe, nI_toInt hwb] at x3
            rw [nI_toInt hwe, nI_toInt hwd] at x5
            have hn20 : (Nat.beq (zsh (102 + 2 * t)) 20 && Nat.beq (zsh (102 + 2 * o)) 20) = false := by
              have : zsh (102 + 2 * t) = 22 := Nat.eq_of_beq_eq_true q3
              rw [this]; rfl
            rw [hn20, q3, v3, cond_false, Bool.true_and, cond_true, q4, v4, nI_clamp hwe, nI_clamp hwb, nI_clamp hwd]
            refine ⟨⟨nI_pos hwb, nI_pos hwd, nI_pos hwe, by omega, by omega⟩, _, rfl, ?_⟩
            refine MN (by rw [gIcp]; exact t2) (by rw [gIcp]; exact u2) (by rw [gIcp]; exact t5) (by rw [gIcp]; exact u5) ?_
            rw [if_neg z1, if_neg z2, if_pos z3, if_pos ⟨y1', y2'⟩]
            refine y_sh1 49 a1 (by omega) _ _ (fun m2 g1 g2 => ?_) we 0 _ (Nat.zero_add _) (zsm_refl _) (fun i hi => absurd hi (Nat.not_lt_zero _))
            refine y_sh2 49 c1 (by omega) _ _ (fun m3 g3 g4 g5 => ⟨_, rfl, rfl, hQ _ ?_⟩) we 0 _ (Nat.zero_add _) (zsm_refl _) (fun i hi => absurd hi (Nat.not_lt_zero _)) (fun i _ => rfl)
            have F : zfr tapeP tapeK m m3 := zfr_tr (zfr_tr (zfr_cpL (zfr_refl m) (by unfold tapeP; omega)) (zfr_of g1 (fun q z => by unfold tapeP; omega) (by omega))) (zfr_of g3 (fun q z => by unfold tapeP; omega) (by omega))
            refine Rel_tape hH hr F fun t' ht' => ?_
            have mI : ∀ q, q ≠ 159 → q ≠ 160 → ∀ k, gI m3 q k = gI m q k := fun q y1 y2 k => by
              rw [(g3 q y1).1, (g1 q y2).1, gIcp]
            have mL : ∀ q, q ≠ 159 → q ≠ 160 → ∀ k, gL m3 q k = if q = 102 + 2 * o then va_cpy (gL m (102 + 2 * t)) (gL m (102 + 2 * o)) wb wd we k else gL m q k := fun q y1 y2 k => by
              rw [(g3 q y1).2.1, (g1 q y2).2.1, gLcp]
            have m159 : ∀ k, gL m2 159 k = gL m 159 k := fun k => by rw [(g1 159 (by omega)).2.1, gLcp, if_neg (by omega)]
            by_cases et : t' = o
            · subst et
              refine ⟨s2, len2, (mI _ (by omega) (by omega) 0).trans u1, (mI _ (by omega) (by omega) _).trans u2, u3, (mI _ (by omega) (by omega) 1).trans u4, (mI _ (by omega) (by omega) _).trans u5, u6, u7, fun jj hj => ?_⟩
              rw [mL _ (by omega) (by omega), if_pos rfl]
              by_cases hin3 : wd ≤ jj ∧ jj < wd + we
              · have e1 : gL m3 159 (60 * t' + jj) = gL m 159 (60 * t + (wb + (jj - wd))) := by
                  have := g4 (jj - wd) (by omega)
                  rw [show 60 * t' + wd + (jj - wd) = 60 * t' + jj by omega] at this
                  rw [this, g2 _ (by omega), gLcp, if_neg (by omega), Nat.add_assoc]
                rw [pk_cpy_in hin3.1 hin3.2, e1, (t8 _ (by omega)).1]
                exact ⟨rfl, fun z => (t8 _ (by omega)).2 (z3.trans z)⟩
              · rw [pk_cpy_out (by omega), g5 _ (by omega), m159]
                exact u8 jj hj
            · refine rTape_o (i t' ht') (fun k => mI _ (by omega) (by omega) k) (mI _ (by omega) (by omega) _) (mI _ (by omega) (by omega) _) (fun jj hj => ?_) (fun jj hj => ?_)
              · rw [mL _ (by omega) (by omega), if_neg (by omega)]
              · rw [g5 _ (by omega), m159]
        · refine iq z3 ⟨_, rfl, MN0 ?_⟩
          rw [if_neg z1, if_neg z2, if_neg z3]; exact ⟨_, rfl, rfl, h0⟩
