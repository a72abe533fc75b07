/-! the reference's hedge: what each of its plants does (gen24.py) -/
theorem vp_l (n : Nat) {N : Nat} (h : n < N) (hN : N < 2 ^ 31) : vp_in (nI n) N := vp_in_nI h hN
def gMo (m : zM) (g : Nat) (G : zG) : Prop := gI m 119 g = nI (gN G) ∧ ∀ k, k < gN G → gI m 120 (10 * g + k) = nI (gWd G k) ∧ gI m 121 (10 * g + k) = nI (gNu G k) ∧ (gWd G k < 2 → gI m 122 (10 * g + k) = nI (100 * g + gSt G k) ∧ gI m 123 (10 * g + k) = nI (100 * g + gEn G k)) ∧ ∀ j, j < gEn G k → gI m 124 (100 * g + j) = cM (gCo G j)
def vThe (V : zV) : Int32 := match vG V with
  | none => -1
  | some (g, _) => nI g
def vM (m : zM) (V : zV) : Prop := vWf V ∧ gI m 113 0 = nI (vN V) ∧ (∀ j, j < vN V → gI m 114 j = nI (vK V j) ∧ gI m 115 j = nI (vV V j) ∧ gI m 116 j = vT V j) ∧ (∀ j, j < 4 * vN V → gI m 117 j = nI (vR V j)) ∧ gI m 113 2 = vD V ∧ gI m 113 1 = nI (vHr V) ∧ gI m 113 8 = vThe V ∧ (∀ g G, vG V = some (g, G) → gMo m g G)
theorem gMo_sm {P : Nat → Prop} {m m' : zM} {g : Nat} {G : zG} (h : gMo m g G) (hs : zsm P m m') (hp : ∀ q, 119 ≤ q → q ≤ 124 → ¬ P q) : gMo m' g G := by
  have e : ∀ q, 119 ≤ q → q ≤ 124 → ∀ k, gI m' q k = gI m q k := fun q a b k => (hs q (hp q a b)).1 k
  refine ⟨(e 119 (by omega) (by omega) g).trans h.1, fun k hk => ?_⟩
  obtain ⟨a, b, c, f⟩ := h.2 k hk
  exact ⟨(e _ (by omega) (by omega) _).trans a, (e _ (by omega) (by omega) _).trans b, fun z => ⟨(e _ (by omega) (by omega) _).trans (c z).1, (e _ (by omega) (by omega) _).trans (c z).2⟩, fun j hj => (e _ (by omega) (by omega) _).trans (f j hj)⟩
theorem vM_sm {P : Nat → Prop} {m m' : zM} {V : zV} (hV : vM m V) (hs : zsm P m m') (hp : ∀ q, 113 ≤ q → q ≤ 124 → ¬ P q) : vM m' V := by
  obtain ⟨h0, h1, h2, h3, h4, h5, h6, h7⟩ := hV
  have e : ∀ q, 113 ≤ q → q ≤ 124 → ∀ k, gI m' q k = gI m q k := fun q a b k => (hs q (hp q a b)).1 k
  refine ⟨h0, (e _ (by omega) (by omega) _).trans h1, fun j hj => ?_, fun j hj => (e _ (by omega) (by omega) j).trans (h3 j hj), (e _ (by omega) (by omega) _).trans h4, (e _ (by omega) (by omega) _).trans h5, (e _ (by omega) (by omega) _).trans h6, fun g G e2 => gMo_sm (h7 g G e2) hs (fun q a b => hp q (by omega) b)⟩
  obtain ⟨a, b, c⟩ := h2 j hj
  exact ⟨(e _ (by omega) (by omega) j).trans a, (e _ (by omega) (by omega) j).trans b, (e _ (by omega) (by omega) j).trans c⟩
theorem vW_b {V : zV} (hw : vWf V) {p : Nat} (hp : p < vN V) (l : Nat) : vW V p l ≤ 99 := by
  have h8 := hw.1
  obtain ⟨k1, k2, k3⟩ := hw.2.1 p hp
  have := pop_b k3 h8
  unfold vW
  repeat (first | omega | split)
theorem y_fact (d : Nat) {Q : zQ} {m : zM} {V : zV} (hV : vM m V) {p l : Nat} (hp : p < vN V) (hl : l < 6) (h : Q (some (.int (nI (vW V p l)))) m) : zCall (d + 2) m_Mod_factOf [.ref 113, .int (nI l), .int (nI p)] m Q := by
  obtain ⟨h0, h1, h2, h3, h4, h5, h6, h7⟩ := hV
  have h8 := h0.1
  obtain ⟨k1, k2, k3⟩ := h0.2.1 p hp
  obtain ⟨a1, a2, a3⟩ := h2 p hp
  have hpi : vp_in (nI p) 8 := vp_in_nI (by omega) (by omega)
  have hpc : (nI p).toNatClampNeg = p := nI_clamp (by omega)
  have hr := h0.2.2.2.2.1
  refine en_Mod_factOf (d + 1) _ _ m (sg_Mod_factOf_0 (zCall_m _) _ _ m ?_)
  rw [hpc, a1, a2, a3, h5, show (24 : Int32) = nI 24 from rfl, pk_rem (by omega) (by omega) (by omega), pk_div (by omega) (by omega) (by omega)]
  unfold vW at h
  rcases (show l = 0 ∨ l = 1 ∨ l = 2 ∨ l = 3 ∨ l = 4 ∨ l = 5 by omega) with rfl | rfl | rfl | rfl | rfl | rfl
  · exact ip rfl h
  · exact iq (by decide) (ip rfl ⟨hpi, h⟩)
  · exact iq (by decide) (iq (by decide) (ip rfl ⟨hpi, h⟩))
  · exact iq (by decide) (iq (by decide) (iq (by decide) (ip rfl ⟨hpi, y_onesC d k3 h8 ⟨_, rfl, h⟩⟩)))
  · exact iq (by decide) (iq (by decide) (iq (by decide) (iq (by decide) (ip rfl ⟨by decide, h⟩))))
  · refine iq (by decide) (iq (by decide) (iq (by decide) (iq (by decide) (iq (by decide) ⟨by decide, ?_⟩))))
    have h : Q (some (.int (nI (min (vHr V / 24) 99)))) m := h
    by_cases q : vHr V / 24 ≤ 99
    · rw [Nat.min_eq_left q] at h
      exact ip (nI_le (b := 99) q (by omega)) ⟨by decide, h⟩
    · rw [Nat.min_eq_right (by omega)] at h
      exact iq (nI_ge (a := 99) (by omega) (by omega)) h
theorem y_begin (d : Nat) {Q : zQ} {m : zM} {V : zV} (hV : vM m V) (h : Q (some (.int (match vG V with | none => 0 | some (g, _) => nI (10 * g)))) m) : zCall (d + 1) m_Mod_begin [.ref 113] m Q := by
  obtain ⟨h0, h1, h2, h3, h4, h5, h6, h7⟩ := hV
  refine en_Mod_begin d m (sg_Mod_begin_0 (zCall_m _) m ?_)
  rw [h6]
  unfold vThe
  cases hg : vG V with
  | none => rw [hg] at h; exact iq (by decide) h
  | some x =>
    obtain ⟨g, G⟩ := x
    rw [hg] at h
    have := (h0.2.2.2.2.2 g G hg).1
    refine ip (nI_pos' (by omega)) ?_
    rw [show (10 : Int32) = nI 10 from rfl, pk_mul]
    exact h
theorem y_behind (d : Nat) {Q : zQ} {m : zM} {V : zV} (hV : vM m V) (h : Q (some (.int (match vG V with | none => 0 | some (g, G) => nI (10 * g + gN G)))) m) : zCall (d + 1) m_Mod_behind [.ref 113] m Q := by
  obtain ⟨h0, h1, h2, h3, h4, h5, h6, h7⟩ := hV
  refine en_Mod_behind d m (sg_Mod_behind_0 (zCall_m _) m ?_)
  rw [h6]
  unfold vThe
  cases hg : vG V with
  | none => rw [hg] at h; exact iq (by decide) h
  | some x =>
    obtain ⟨g, G⟩ := x
    rw [hg] at h
    have h6 := (h0.2.2.2.2.2 g G hg).1
    refine ip (nI_pos' (by omega)) ⟨vp_in_nI h6 (by omega), ?_⟩
    dsimp only at h ⊢
    rw [show (10 : Int32) = nI 10 from rfl, pk_mul, nI_clamp (by omega), (h7 g G hg).1, nI_add]
    exact h
theorem y_one (d : Nat) {Q : zQ} {m : zM} (x : Int32) (h : Q (some (.int (if (1 : Int32) ≤ x then x else 1))) m) : zCall (d + 1) m_Mod_atLeastOne [.ref 113, .int x] m Q := by
  refine en_Mod_atLeastOne d _ m (sg_Mod_atLeastOne_0 (zCall_m _) _ m ?_)
  by_cases q : (1 : Int32) ≤ x
  · rw [if_pos q] at h; exact ip q h
  · rw [if_neg q] at h; exact iq q h
theorem y_lastOf (d : Nat) {Q : zQ} {m : zM} {V : zV} (hV : vM m V) {g : Nat} {G : zG} (hg : vG V = some (g, G)) {w : Nat} (hw : w < 4) {dn : Nat} (h : Q (some (.int (nI ((gLo G w (gN G)).getD dn)))) m) :
    ∀ j k, k + j = gN G → zRun (zCall (d + 1)) 9 (some .int) zc_Mod_lastOf Q 8 [.ref 113, .int (nI w), .int (nI dn), .int (nI ((gLo G w k).getD dn)), .int (nI (10 * g + k))] [] m
  | 0, k, hk => by
    refine sg_Mod_lastOf_8 (zCall_m _) _ _ _ _ m (y_behind d hV ⟨_, rfl, ?_⟩)
    obtain ⟨h6, h7⟩ := hV.1.2.2.2.2.2 g G hg
    have := h7.1
    rw [hg]
    dsimp only
    refine ip (nI_le (by omega) (by omega)) ?_
    rw [show k = gN G by omega]
    exact h
  | j + 1, k, hk => by
    have IH := y_lastOf d hV hg hw h j (k + 1) (by omega)
    refine sg_Mod_lastOf_8 (zCall_m _) _ _ _ _ m (y_behind d hV ⟨_, rfl, ?_⟩)
    obtain ⟨h6, h7⟩ := hV.1.2.2.2.2.2 g G hg
    have h8 := h7.1
    have h9 := (h7.2 k (by omega)).1
    obtain ⟨b1, b2, _⟩ := (hV.2.2.2.2.2.2.2 g G hg).2 k (by omega)
    rw [hg]
    dsimp only
    refine iq (nI_ge (by omega) (by omega)) ⟨vp_in_nI (by omega) (by omega), ?_⟩
    rw [nI_clamp (by omega), b1, b2, nI_1]
    unfold gLo at IH
    by_cases q : gWd G k = w
    · rw [if_pos q] at IH
      refine iq (fun z => z (by rw [q])) ⟨vp_in_nI (by omega) (by omega), IH⟩
    · rw [if_neg q] at IH
      exact ip (nI_ne (by omega) (by omega) q) IH
theorem y_lastC (d : Nat) {Q : zQ} {m : zM} {V : zV} (hV : vM m V) {w : Nat} (hw : w < 4) (dn : Nat) (h : Q (some (.int (nI (match vG V with | none => dn | some (_, G) => (gLo G w (gN G)).getD dn)))) m) : zCall (d + 2) m_Mod_lastOf [.ref 113, .int (nI w), .int (nI dn)] m Q := by
  refine en_Mod_lastOf (d + 1) _ _ m (sg_Mod_lastOf_0 (zCall_m _) _ _ m (y_begin d hV ⟨_, rfl, ?_⟩))
  cases hg : vG V with
  | some x =>
    obtain ⟨g, G⟩ := x
    rw [hg] at h
    exact y_lastOf d hV hg hw h (gN G) 0 (by omega)
  | none =>
    rw [hg] at h
    refine sg_Mod_lastOf_8 (zCall_m _) _ _ _ _ m (y_behind d hV ⟨_, rfl, ?_⟩)
    rw [hg]
    exact ip (by decide) h
theorem y_mfrost (d : Nat) {Q : zQ} {m : zM} {V : zV} (hV : vM m V) (h : Q (some (.int (nI (vFrost V)))) m) : zCall (d + 3) m_Mod_frost [.ref 113] m Q :=
  en_Mod_frost (d + 2) m (sg_Mod_frost_0 (zCall_m _) m (y_lastC d hV (w := 2) (by omega) 20 ⟨_, rfl, h⟩))
theorem y_mlose (d : Nat) {Q : zQ} {m : zM} {V : zV} (hV : vM m V) (h : Q (some (.int (nI (vLose V)))) m) : zCall (d + 3) m_Mod_lose [.ref 113] m Q := by
  refine en_Mod_lose (d + 2) m (sg_Mod_lose_0 (zCall_m _) m (y_lastC d hV (w := 3) (by omega) 2 ⟨_, rfl, ?_⟩))
  unfold vLose at h
  cases hg : vG V with
  | none => rw [hg] at h; exact ip (by decide) h
  | some x =>
    obtain ⟨g, G⟩ := x
    rw [hg] at h
    have hb : (gLo G 3 (gN G)).getD 2 ≤ 99 := by
      cases hl : gLo G 3 (gN G) with
      | none => decide
      | some x => exact gLo_b (hV.1.2.2.2.2.2 g G hg).2 (gN G) (by omega) x hl
    dsimp only at h ⊢
    by_cases q : 1 ≤ (gLo G 3 (gN G)).getD 2
    · rw [Nat.max_eq_right q] at h
      exact ip (nI_le (a := 1) q (by omega)) h
    · rw [Nat.max_eq_left (by omega)] at h
      exact iq (nI_ge (b := 1) (by omega) (by decide)) h
/-- the pile holds these, the last on top -/
def pl (m : zM) : List Bool → Prop
  | [] => True
  | b :: r => gI m 127 r.length = zb b ∧ pl m r
theorem pl_set {m : zM} {k : Nat} {x : Int32} : ∀ {r : List Bool}, pl m r → r.length ≤ k → pl (sI m 127 k x) r
  | [], _, _ => trivial
  | b :: r, h, hk => by
    rw [List.length_cons] at hk
    exact ⟨by rw [gI_sI, if_neg (fun z => by omega)]; exact h.1, pl_set h.2 (by omega)⟩
theorem pl_top {m : zM} {x : Int32} {b : Bool} {r : List Bool} (h : pl m r) (hx : x &&& 1 = zb b) : pl (sI m 127 r.length (x &&& 1)) (b :: r) :=
  ⟨by rw [gI_sI, if_pos ⟨rfl, rfl⟩]; exact hx, pl_set h (Nat.le_refl _)⟩
theorem cM_neg {s : Nat} : (¬ s < 1800) → cM s = if s = 1800 then -33 else if s = 1801 then -38 else -124 := fun h => if_neg h
theorem nI_nn {n : Nat} (h : n < 2 ^ 31) {c : Int32} (hc : c.toInt < 0) : ¬ nI n = c := fun z => by
  have := congrArg Int32.toInt z
  rw [nI_toInt h] at this
  omega
theorem y_mholds (d : Nat) {Q : zQ} {m : zM} {V : zV} (hV : vM m V) {g : Nat} {G : zG} (hg : vG V = some (g, G)) {k0 : Nat} (hk0 : k0 < gN G) (hw2 : gWd G k0 < 2) {p : Nat} (hp : p < vN V) :
    ∀ (k i : Nat) (st : List Bool) (m' : zM), i + k = gEn G k0 → hW (gCo G) i st.length k → st.length < 31 → pl m' st → zsm (fun q => q = 127) m m' → (∀ m'', zsm (fun q => q = 127) m m'' → Q (some (.int (zb (hH (hR (vW V p) (gCo G) i st k))))) m'') →
    zRun (zCall (d + 2)) 9 (some .boolean) zc_Mod_holds Q 10 [.ref 113, .int (nI (10 * g + k0)), .int (nI p), .int (nI st.length), .int (nI (100 * g + i)), .retAddr 0, .retAddr 0, .retAddr 0] [] m'
  | 0, i, st, m', hi, hw, _, hb, hs, h => by
    obtain ⟨hg6, hgw⟩ := hV.1.2.2.2.2.2 g G hg
    have h10 := hgw.1
    obtain ⟨w1, w2, w3, w4, w5⟩ := hgw.2 k0 hk0
    have hto : gI m' 123 (10 * g + k0) = nI (100 * g + gEn G k0) := ((hs 123 (by decide)).1 _).trans (((hV.2.2.2.2.2.2.2 g G hg).2 k0 hk0).2.2.1 hw2).2
    refine sg_Mod_holds_10 (zCall_m _) _ _ _ _ m' ⟨vp_in_nI (by omega) (by omega), ?_⟩
    rw [nI_clamp (by omega), hto]
    refine ip (nI_le (by omega) (by omega)) ⟨vp_l 0 (by omega) (by omega), ?_⟩
    have hw : st.length = 1 := hw
    match st, hw with
    | [b], _ =>
      have h1 : gI m' 127 (0 : Int32).toNatClampNeg = zb b := hb.1
      rw [h1]
      exact ⟨zb_1 b, h m' hs⟩
  | k + 1, i, st, m', hi, hw, hl, hb, hs, h => by
    obtain ⟨hg6, hgw⟩ := hV.1.2.2.2.2.2 g G hg
    have h10 := hgw.1
    obtain ⟨w1, w2, w3, w4, w5⟩ := hgw.2 k0 hk0
    have hto : gI m' 123 (10 * g + k0) = nI (100 * g + gEn G k0) := ((hs 123 (by decide)).1 _).trans (((hV.2.2.2.2.2.2.2 g G hg).2 k0 hk0).2.2.1 hw2).2
    have hco : gI m' 124 (100 * g + i) = cM (gCo G i) := ((hs 124 (by decide)).1 _).trans (((hV.2.2.2.2.2.2.2 g G hg).2 k0 hk0).2.2.2 i (by omega))
    have hV' : vM m' V := vM_sm hV hs (fun q a b z => by omega)
    have IH : ∀ st' m2, st' = hS (vW V p) (gCo G i) st → hW (gCo G) (i + 1) st'.length k → st'.length < 31 → pl m2 st' → zsm (fun q => q = 127) m m2 → ∀ u, zle [.ref 113, .int (nI (10 * g + k0)), .int (nI p), .int (nI st'.length), .int (nI (100 * g + (i + 1))), .retAddr 0, .retAddr 0, .retAddr 0] u → zRun (zCall (d + 2)) 9 (some .boolean) zc_Mod_holds Q 10 u [] m2 := fun st' m2 e a b c f u hz =>
      zRun_le (zCall_m _) hz (y_mholds d hV hg hk0 hw2 hp k (i + 1) st' m2 (by omega) a b c f (fun m'' hm => by rw [e]; exact h m'' hm))
    have E : ∀ st' m2, st' = hS (vW V p) (gCo G i) st → hW (gCo G) (i + 1) st'.length k → st'.length < 31 → pl m2 st' → zsm (fun q => q = 127) m m2 → ∀ u5 u, zle [.ref 113, .int (nI (10 * g + k0)), .int (nI p), .int (nI st'.length), .int (nI (100 * g + i)), .int u5, .retAddr 0, .retAddr 0] u → zRun (zCall (d + 2)) 9 (some .boolean) zc_Mod_holds Q 237 u [] m2 := fun st' m2 e a b c f u5 u hz => by
      refine zRun_le (zCall_m _) hz (sg_Mod_holds_237 (zCall_m _) _ _ _ _ _ m2 ?_)
      rw [nI_1]
      refine IH st' m2 e a b c f _ ?_
      repeat (first | exact zle_nil | apply zle_same | apply zle_new _ rfl)
    refine sg_Mod_holds_10 (zCall_m _) _ _ _ _ m' ⟨vp_in_nI (by omega) (by omega), ?_⟩
    rw [nI_clamp (by omega), hto, nI_clamp (by omega), hco]
    refine iq (nI_ge (by omega) (by omega)) ⟨vp_in_nI (by omega) (by omega), ?_⟩
    rcases hw with ⟨h1, h2, h3⟩ | ⟨h1, h2, h3⟩ | ⟨h1, e2, h2, h3⟩
    · have hc : cM (gCo G i) = nI (1000 * (gCo G i / 300) + 100 * (gCo G i / 100 % 3) + gCo G i % 100) := if_pos h1
      have hs1 : hS (vW V p) (gCo G i) st = hT (vW V p) (gCo G i) :: st := if_pos h1
      have t1 : (1000 * (gCo G i / 300) + 100 * (gCo G i / 100 % 3) + gCo G i % 100) / 1000 = gCo G i / 300 := by omega
      have t2 : (1000 * (gCo G i / 300) + 100 * (gCo G i / 100 % 3) + gCo G i % 100) / 100 % 10 = gCo G i / 100 % 3 := by omega
      have t3 : (1000 * (gCo G i / 300) + 100 * (gCo G i / 100 % 3) + gCo G i % 100) % 100 = gCo G i % 100 := by omega
      have hl6 : gCo G i / 300 < 6 := by omega
      have hvb := vW_b hV.1 hp (gCo G i / 300)
      rw [hc]
      refine ip (nI_nn (by omega) (by decide)) (ip (nI_pos' (by omega)) ⟨by decide, ?_⟩)
      rw [show (1000 : Int32) = nI 1000 from rfl, show (100 : Int32) = nI 100 from rfl, show (10 : Int32) = nI 10 from rfl, pk_div (by omega) (by omega) (by omega), t1]
      refine y_fact d hV' hp hl6 ⟨_, rfl, by decide, by decide, ?_⟩
      rw [pk_rem (by omega) (by omega) (by omega), t3, pk_div (by omega) (by omega) (by omega), pk_rem (by omega) (by omega) (by omega), t2]
      have fin : ∀ (y : Int32) v5 v6 v7, y = zb (hT (vW V p) (gCo G i)) → zRun (zCall (d + 2)) 9 (some .boolean) zc_Mod_holds Q 233 [.ref 113, .int (nI (10 * g + k0)), .int (nI p), .int (nI st.length), .int (nI (100 * g + i)), .int v5, .int v6, .int v7] [.int y, .int (nI st.length), .ref 127] m' := by
        rintro y v5 v6 v7 rfl
        refine sg_Mod_holds_233 (zCall_m _) _ _ _ _ _ _ _ _ _ m' ⟨vp_in_nI (by omega) (by omega), ?_⟩
        rw [nI_clamp (by omega), nI_1]
        refine E (hT (vW V p) (gCo G i) :: st) _ hs1.symm h3 (by rw [List.length_cons]; omega) (pl_top hb (zb_1 _)) (zsm_sI (P := fun q => q = 127) hs rfl _) v5 _ ?_
        repeat (first | exact zle_nil | apply zle_same | apply zle_new _ rfl)
      unfold hT at fin
      by_cases r0 : gCo G i / 100 % 3 = 0
      · rw [r0]
        simp only [if_pos r0] at fin
        refine iq (fun z => z rfl) ⟨by decide, ?_⟩
        by_cases q : vW V p (gCo G i / 300) < gCo G i % 100
        · exact iq (nI_ge q (by omega)) (fin _ _ _ _ (by rw [decide_eq_true q]; rfl))
        · exact ip (nI_le (by omega) (by omega)) (fin _ _ _ _ (by rw [decide_eq_false q]; rfl))
      · simp only [if_neg r0] at fin
        refine ip (nI_ne (b := 0) (by omega) (by decide) r0) ?_
        by_cases r1 : gCo G i / 100 % 3 = 1
        · rw [r1]
          simp only [if_pos r1] at fin
          refine iq (fun z => z rfl) ⟨by decide, ?_⟩
          by_cases q : vW V p (gCo G i / 300) = gCo G i % 100
          · exact iq (fun z => z (by rw [q])) (fin _ _ _ _ (by rw [decide_eq_true q]; rfl))
          · exact ip (nI_ne (by omega) (by omega) q) (fin _ _ _ _ (by rw [decide_eq_false q]; rfl))
        · simp only [if_neg r1] at fin
          refine ip (nI_ne (b := 1) (by omega) (by decide) r1) ⟨by decide, ?_⟩
          by_cases q : gCo G i % 100 < vW V p (gCo G i / 300)
          · exact iq (nI_ge q (by omega)) (fin _ _ _ _ (by rw [decide_eq_true q]; rfl))
          · exact ip (nI_le (by omega) (by omega)) (fin _ _ _ _ (by rw [decide_eq_false q]; rfl))
    · rw [show cM (gCo G i) = -33 from by rw [h1]; rfl]
      have hs1 : hS (vW V p) (gCo G i) st = hN st := by rw [h1]; rfl
      refine iq (fun z => z rfl) ?_
      match st, h2 with
      | b :: r, _ =>
        rw [List.length_cons] at hl h3 ⊢
        rw [show (nI (r.length + 1) - (1 : Int32)) = nI r.length from nI_pred _]
        refine ⟨vp_in_nI (by omega) (by omega), ?_⟩
        rw [nI_clamp (by omega), hb.1]
        have fin : ∀ y, y = zb (!b) → zRun (zCall (d + 2)) 9 (some .boolean) zc_Mod_holds Q 60 [.ref 113, .int (nI (10 * g + k0)), .int (nI p), .int (nI (r.length + 1)), .int (nI (100 * g + i)), .int (-33), .retAddr 0, .retAddr 0] [.int y, .int (nI r.length), .ref 127] m' := by
          rintro y rfl
          refine sg_Mod_holds_60 (zCall_m _) _ _ _ _ _ _ _ m' ⟨vp_in_nI (by omega) (by omega), ?_⟩
          rw [nI_clamp (by omega)]
          exact E ((!b) :: r) _ hs1.symm h3 (by rw [List.length_cons]; omega) (pl_top hb.2 (zb_1 _)) (zsm_sI (P := fun q => q = 127) hs rfl _) _ _ (zle_refl _)
        cases b with
        | true => exact ip (by decide) (fin _ rfl)
        | false => exact iq (by decide) (fin _ rfl)
    · match st, h2 with
      | b :: a :: r, h2 =>
        have h4 : r.length = e2 := by simp only [List.length_cons] at h2; omega
        rw [List.length_cons, List.length_cons] at hl ⊢
        have hm1 : nI (r.length + 1 + 1) + (-1 : Int32) = nI (r.length + 1) := pk_m1 _
        have hm2 : nI (r.length + 1) - (1 : Int32) = nI r.length := nI_pred _
        have ha : gI m' 127 r.length = zb a := hb.2.1
        have hbb : gI m' 127 (r.length + 1) = zb b := hb.1
        have fin : ∀ c5 (y : Bool), hS (vW V p) (gCo G i) (b :: a :: r) = y :: r → zRun (zCall (d + 2)) 9 (some .boolean) zc_Mod_holds Q 139 [.ref 113, .int (nI (10 * g + k0)), .int (nI p), .int (nI (r.length + 1)), .int (nI (100 * g + i)), .int c5, .retAddr 0, .retAddr 0] [.int (zb y), .int (nI r.length), .ref 127] m' := by
          intro c5 y hy
          refine sg_Mod_holds_139 (zCall_m _) _ _ _ _ _ _ _ m' ⟨vp_in_nI (by omega) (by omega), ?_⟩
          rw [nI_clamp (by omega)]
          exact E (y :: r) _ hy.symm (by rw [List.length_cons, h4]; exact h3) (by rw [List.length_cons]; omega) (pl_top hb.2.2 (zb_1 _)) (zsm_sI (P := fun q => q = 127) hs rfl _) _ _ (zle_refl _)
        rcases h1 with h1 | h1
        · rw [show cM (gCo G i) = -38 from by rw [h1]; rfl]
          have hy : hS (vW V p) (gCo G i) (b :: a :: r) = (a && b) :: r := by rw [h1]; rfl
          refine ip (by decide) (iq (by decide) (iq (fun z => z rfl) ?_))
          rw [hm1, hm2, nI_clamp (by omega), nI_clamp (by omega), ha, hbb]
          refine ⟨vp_in_nI (by omega) (by omega), ?_⟩
          cases a with
          | false => exact ip rfl (sg_Mod_holds_110 (zCall_m _) _ _ _ _ _ _ m' (fin _ false hy))
          | true =>
            refine iq (by decide) ⟨vp_in_nI (by omega) (by omega), ?_⟩
            cases b with
            | false => exact ip rfl (sg_Mod_holds_110 (zCall_m _) _ _ _ _ _ _ m' (fin _ false hy))
            | true => exact iq (by decide) (fin _ true hy)
        · rw [show cM (gCo G i) = -124 from by rw [h1]; rfl]
          have hy : hS (vW V p) (gCo G i) (b :: a :: r) = (a || b) :: r := by rw [h1]; rfl
          refine ip (by decide) (iq (by decide) (ip (by decide) ?_))
          rw [hm1, hm2, nI_clamp (by omega), nI_clamp (by omega), ha, hbb]
          refine ⟨vp_in_nI (by omega) (by omega), ?_⟩
          cases a with
          | true => exact ip (by decide) (sg_Mod_holds_134 (zCall_m _) _ _ _ _ _ _ m' (fin _ true hy))
          | false =>
            refine iq (by decide) ⟨vp_in_nI (by omega) (by omega), ?_⟩
            cases b with
            | false => exact ip rfl (fin _ false hy)
            | true => exact iq (by decide) (sg_Mod_holds_134 (zCall_m _) _ _ _ _ _ _ m' (fin _ true hy))
theorem y_mholdsC (d : Nat) {Q : zQ} {m : zM} {V : zV} (hV : vM m V) {g : Nat} {G : zG} (hg : vG V = some (g, G)) {k0 : Nat} (hk0 : k0 < gN G) (hw2 : gWd G k0 < 2) {p : Nat} (hp : p < vN V) (h : ∀ m', zsm (fun q => q = 127) m m' → Q (some (.int (zb (gH (vW V p) G k0)))) m') : zCall (d + 3) m_Mod_holds [.ref 113, .int (nI (10 * g + k0)), .int (nI p)] m Q := by
  obtain ⟨hg6, hgw⟩ := hV.1.2.2.2.2.2 g G hg
  have h10 := hgw.1
  obtain ⟨w1, w2, w3, w4, w5⟩ := hgw.2 k0 hk0
  have hfr := (((hV.2.2.2.2.2.2.2 g G hg).2 k0 hk0).2.2.1 hw2).1
  refine en_Mod_holds (d + 2) _ _ m (sg_Mod_holds_0 (zCall_m _) _ _ m ⟨vp_in_nI (by omega) (by omega), ?_⟩)
  rw [nI_clamp (by omega), hfr]
  exact y_mholds d hV hg hk0 hw2 hp (gEn G k0 - gSt G k0) (gSt G k0) [] m (by omega) (w5 hw2) (by decide) trivial (zsm_refl m) h
theorem y_mpace (d : Nat) {Q : zQ} {m : zM} {V : zV} (hV : vM m V) {g : Nat} {G : zG} (hg : vG V = some (g, G)) {p : Nat} (hp : p < vN V) (h : ∀ m', zsm (fun q => q = 127) m m' → Q (some (.int (nI (vPace V p)))) m') :
    ∀ j k m', k + j = gN G → zsm (fun q => q = 127) m m' → zRun (zCall (d + 3)) 9 (some .int) zc_Mod_pace Q 7 [.ref 113, .int (nI p), .int (Int32.ofInt (3 + gZ (vW V p) G k)), .int (nI (10 * g + k))] [] m'
  | 0, k, m', hk, hs => by
    have hV' : vM m' V := vM_sm hV hs (fun q a b z => by omega)
    obtain ⟨h6, h7⟩ := hV.1.2.2.2.2.2 g G hg
    have := h7.1
    refine sg_Mod_pace_7 (zCall_m _) _ _ _ m' (y_behind _ hV' ⟨_, rfl, ?_⟩)
    rw [hg]
    dsimp only
    refine ip (nI_le (by omega) (by omega)) (y_one _ _ ⟨_, rfl, ?_⟩)
    have hb := vPaceZ_b hV.1 p
    have hz : vPaceZ V p = 3 + gZ (vW V p) G (gN G) := by unfold vPaceZ; rw [hg]
    rw [show k = gN G by omega, ← hz]
    have h1 : ((1 : Int32) ≤ Int32.ofInt (vPaceZ V p)) ↔ 1 ≤ vPaceZ V p := by
      rw [Int32.le_iff_toInt_le, oI_toInt (by omega) (by omega)]
      exact Iff.rfl
    have h := h m' hs
    unfold vPace at h
    by_cases q : 1 ≤ vPaceZ V p
    · rw [if_pos (h1.mpr q)]
      rw [show max 1 (vPaceZ V p) = vPaceZ V p by omega, ← oI_nI, Int.toNat_of_nonneg (by omega)] at h
      exact h
    · rw [if_neg (fun z => q (h1.mp z))]
      rw [show max 1 (vPaceZ V p) = 1 by omega] at h
      exact h
  | j + 1, k, m', hk, hs => by
    have hV' : vM m' V := vM_sm hV hs (fun q a b z => by omega)
    obtain ⟨h6, h7⟩ := hV.1.2.2.2.2.2 g G hg
    have h10 := h7.1
    have h9 := (h7.2 k (by omega)).1
    obtain ⟨b1, b2, _⟩ := (hV'.2.2.2.2.2.2.2 g G hg).2 k (by omega)
    have IH : ∀ (y : Int32) m2, zsm (fun q => q = 127) m m2 → y = Int32.ofInt (3 + gZ (vW V p) G (k + 1)) → zRun (zCall (d + 3)) 9 (some .int) zc_Mod_pace Q 7 [.ref 113, .int (nI p), .int y, .int (nI (10 * g + k + 1))] [] m2 := fun y m2 a e => by
      rw [e]; exact y_mpace d hV hg hp h j (k + 1) m2 (by omega) a
    unfold gZ at IH
    refine sg_Mod_pace_7 (zCall_m _) _ _ _ m' (y_behind _ hV' ⟨_, rfl, ?_⟩)
    rw [hg]
    dsimp only
    have hin : vp_in (nI (10 * g + k)) 60 := vp_in_nI (by omega) (by omega)
    have hcl : (nI (10 * g + k)).toNatClampNeg = 10 * g + k := nI_clamp (by omega)
    refine iq (nI_ge (by omega) (by omega)) ⟨hin, ?_⟩
    rw [hcl, b1, nI_1]
    by_cases q : 1 < gWd G k
    · exact ip (nI_lt (a := 1) q (by omega)) (IH _ m' hs (by rw [if_neg (by omega), if_neg (by omega), Int.add_zero]))
    · refine iq (nI_nlt (a := 1) (by omega) (by decide)) (y_mholdsC d hV' hg (by omega) (by omega) hp fun m2 hs2 => ⟨_, rfl, ?_⟩)
      have hs3 : zsm (fun q => q = 127) m m2 := zsm_tr hs hs2
      have hV2 : vM m2 V := vM_sm hV hs3 (fun q a b z => by omega)
      obtain ⟨b1, b2, _⟩ := (hV2.2.2.2.2.2.2.2 g G hg).2 k (by omega)
      rw [b1, b2]
      by_cases c0 : gWd G k = 0
      · cases hh : gH (vW V p) G k with
        | false => exact iq (fun z => z rfl) (IH _ m2 hs3 (by rw [if_pos c0, if_neg (by rw [hh]; decide), Int.add_zero]))
        | true =>
          rw [c0]
          exact ip (by decide) ⟨hin, iq (fun z => z rfl) ⟨hin, IH _ m2 hs3 (by rw [if_pos c0, if_pos hh, ← oI_nI, oI_add, Int.add_assoc])⟩⟩
      · have c1 : gWd G k = 1 := by omega
        cases hh : gH (vW V p) G k with
        | false => exact iq (fun z => z rfl) (IH _ m2 hs3 (by rw [if_neg c0, if_pos c1, if_neg (by rw [hh]; decide), Int.add_zero]))
        | true =>
          rw [c1]
          exact ip (by decide) ⟨hin, ip (by decide) ⟨hin, IH _ m2 hs3 (by rw [if_neg c0, if_pos c1, if_pos hh, ← oI_nI, ← Int32.ofInt_neg, oI_add, Int.add_assoc])⟩⟩
theorem y_mpaceC (d : Nat) {Q : zQ} {m : zM} {V : zV} (hV : vM m V) {p : Nat} (hp : p < vN V) (h : ∀ m', zsm (fun q => q = 127) m m' → Q (some (.int (nI (vPace V p)))) m') : zCall (d + 4) m_Mod_pace [.ref 113, .int (nI p)] m Q := by
  refine en_Mod_pace (d + 3) _ m (sg_Mod_pace_0 (zCall_m _) _ m (y_begin _ hV ⟨_, rfl, ?_⟩))
  cases hg : vG V with
  | some x =>
    obtain ⟨g, G⟩ := x
    exact y_mpace d hV hg hp h (gN G) 0 m (by omega) (zsm_refl m)
  | none =>
    refine sg_Mod_pace_7 (zCall_m _) _ _ _ m (y_behind _ hV ⟨_, rfl, ?_⟩)
    rw [hg]
    have : vPace V p = 3 := by
      unfold vPace vPaceZ
      rw [hg]; rfl
    have hh := h m (zsm_refl m)
    rw [this] at hh
    exact ip (by decide) (y_one _ _ ⟨_, rfl, hh⟩)
theorem y_mtakes (d : Nat) {Q : zQ} {m : zM} {V : zV} (hV : vM m V) {p : Nat} (hp : p < vN V) (h : ∀ m', zsm (fun q => q = 127) m m' → Q (some (.int (nI (vTakes V p)))) m') : zCall (d + 5) m_Mod_takesLong [.ref 113, .int (nI p)] m Q := by
  refine en_Mod_takesLong (d + 4) _ m (sg_Mod_takesLong_0 (zCall_m _) _ m (y_mpaceC d hV hp fun m' hs => ⟨_, rfl, ?_⟩))
  have hV' : vM m' V := vM_sm hV hs (fun q a b z => by omega)
  have h := h m' hs
  clear hV hs
  have hV := hV'
  obtain ⟨h0, h1, h2, h3, h4, h5, h6, h7⟩ := hV
  have h8 := h0.1
  obtain ⟨k1, k2, k3⟩ := h0.2.1 p hp
  have a1 := (h2 p hp).1
  have a4 := h3 (4 * p + vHr V % 4) (by omega)
  have hpi : vp_in (nI p) 8 := vp_in_nI (by omega) (by omega)
  have hpc : (nI p).toNatClampNeg = p := nI_clamp (by omega)
  have hr := h0.2.2.2.2.1
  have hpb := vPace_b h0 p
  refine ⟨hpi, ?_⟩
  rw [hpc, a1, h5, show (24 : Int32) = nI 24 from rfl, show (2 : Int32) = nI 2 from rfl, show (4 : Int32) = nI 4 from rfl, pk_mul, pk_rem (by omega) (by omega) (by omega), pk_rem (by omega) (by omega) (by omega), pk_mul, nI_add, nI_clamp (by omega), a4, nI_add]
  unfold vTakes at h
  rcases (show vK V p = 0 ∨ vK V p = 1 ∨ vK V p = 2 ∨ vK V p = 3 ∨ vK V p = 4 ∨ vK V p = 5 ∨ vK V p = 6 by omega) with e | e | e | e | e | e | e <;> rw [e] at h ⊢
  · exact iq (by decide) (iq (by decide) (iq (by decide) (iq (by decide) (iq (by decide) h))))
  · exact iq (by decide) (iq (by decide) (iq (by decide) (iq (by decide) (iq (by decide) h))))
  · exact ip rfl h
  · exact iq (by decide) (ip rfl h)
  · refine iq (by decide) (iq (by decide) (ip rfl (y_one _ _ ⟨_, rfl, ?_⟩)))
    have h : Q (some (.int (nI (max 1 (vPace V p - 1))))) m' := h
    rw [show (1 : Int32) = nI 1 from rfl, pk_sub hpb.1]
    by_cases q : 1 ≤ vPace V p - 1
    · rw [if_pos ((nI_leI (by omega) (by omega)).mpr q)]
      rw [Nat.max_eq_right (by omega)] at h
      exact h
    · rw [if_neg (fun z => q ((nI_leI (by omega) (by omega)).mp z))]
      rw [Nat.max_eq_left (by omega)] at h
      exact h
  · refine iq (by decide) (iq (by decide) (iq (by decide) (ip rfl ⟨by decide, ?_⟩)))
    have h : Q (some (.int (nI (2 * vPace V p + (if vHr V % 24 < 6 then vFrost V else 0))))) m' := h
    by_cases q : vHr V % 24 < 6
    · rw [if_pos q] at h
      refine iq (nI_ge (b := 6) q (by decide)) (y_mfrost _ hV' ⟨_, rfl, ?_⟩)
      rw [nI_add]
      exact h
    · rw [if_neg q] at h
      exact ip (nI_le (a := 6) (Nat.le_of_not_lt q) (by omega)) h
  · exact iq (by decide) (iq (by decide) (iq (by decide) (iq (by decide) (ip rfl ⟨by decide, vp_in_nI (by omega) (by omega), h⟩))))
theorem y_msays (d : Nat) {Q : zQ} {m : zM} {V : zV} (hV : vM m V) {p w : Nat} (hp : p < vN V) (hw : w < 10000) (h : Q (some (.int (nI (vSays V p w)))) m) : zCall (d + 4) m_Mod_saysOf [.ref 113, .int (nI p), .int (nI w)] m Q := by
  have hV' := hV
  obtain ⟨h0, h1, h2, h3, h4, h5, h6, h7⟩ := hV
  have h8 := h0.1
  obtain ⟨k1, k2, k3⟩ := h0.2.1 p hp
  obtain ⟨a1, a2, _⟩ := h2 p hp
  have hpi : vp_in (nI p) 8 := vp_in_nI (by omega) (by omega)
  have hpc : (nI p).toNatClampNeg = p := nI_clamp (by omega)
  have hlo := vLose_b h0
  have hdl : w / vLose V ≤ w := Nat.div_le_self _ _
  have hne : ¬ nI (vLose V) = 0 := nI_ne0 (by omega) (by omega)
  refine en_Mod_saysOf (d + 3) _ _ m (sg_Mod_saysOf_0 (zCall_m _) _ _ m ⟨hpi, ?_⟩)
  rw [hpc, a1, a2, show (10000 : Int32) = nI 10000 from rfl, nI_add, show (2 : Int32) = nI 2 from rfl, pk_rem (by omega) (by omega) (by omega), pk_mul, pk_rem (by omega) (by omega) (by omega)]
  unfold vSays at h
  rcases (show vK V p = 0 ∨ vK V p = 1 ∨ vK V p = 2 ∨ vK V p = 3 ∨ vK V p = 4 ∨ vK V p = 5 ∨ vK V p = 6 by omega) with e | e | e | e | e | e | e <;> rw [e] at h ⊢
  · exact iq (by decide) (iq (by decide) (iq (by decide) (iq (by decide) (iq (by decide) (iq (by decide) h)))))
  · exact ip rfl ⟨hpi, by decide, h⟩
  · exact iq (by decide) (ip rfl h)
  · refine iq (by decide) (iq (by decide) (ip rfl (y_mlose _ hV' ⟨_, rfl, hne, ?_⟩)))
    rw [pk_div (by omega) (by omega) (by omega)]
    exact h
  · have h : Q (some (.int (nI (2 * (w + vV V p) % 10000)))) m := h
    rw [show 2 * (w + vV V p) % 10000 = 2 * ((w + vV V p) % 10000) % 10000 by omega] at h
    exact iq (by decide) (iq (by decide) (iq (by decide) (ip rfl ⟨hpi, by decide, by decide, h⟩)))
  · exact iq (by decide) (iq (by decide) (iq (by decide) (iq (by decide) (ip rfl h))))
  · refine iq (by decide) (iq (by decide) (iq (by decide) (iq (by decide) (iq (by decide) (ip rfl (y_mlose _ hV' ⟨_, rfl, hne, hpi, by decide, ?_⟩))))))
    rw [a2, pk_div (by omega) (by omega) (by omega), nI_add, pk_rem (by omega) (by omega) (by omega)]
    exact h
