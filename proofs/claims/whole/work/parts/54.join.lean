/-! join -/
def vTx (V : zV) (a : Nat) (x : Int32) : zV := (vN V, vK V, vV V, fun j => if j = a then x else vT V j, vR V, vD V, vHr V, vG V)
def vTo (V : zV) (a b : Nat) : zV := vTx V a (vT V a ||| z1 b)
theorem vTx_w {V : zV} (hw : vWf V) {a : Nat} {x : Int32} (hx : ybl x (vN V)) : vWf (vTx V a x) := by
  refine ⟨hw.1, fun j hj => ?_, hw.2.2⟩
  obtain ⟨h1, h2, h3⟩ := hw.2.1 j hj
  refine ⟨h1, h2, ?_⟩
  show ybl (if j = a then x else vT V j) (vN V)
  split
  · exact hx
  · exact h3
theorem vTx_back (V : zV) (a : Nat) (x : Int32) : vTx (vTx V a x) a (vT V a) = V := by
  have : (fun j => if j = a then vT V a else vT (vTx V a x) j) = vT V := by
    funext j
    by_cases e : j = a
    · rw [if_pos e, e]
    · rw [if_neg e]
      show (if j = a then x else vT V j) = _
      rw [if_neg e]
  show (vN V, vK V, vV V, (fun j => if j = a then vT V a else vT (vTx V a x) j), vR V, vD V, vHr V, vG V) = V
  rw [this]
  rfl
theorem vX_touch {m : zM} {h : Nat} {V : zV} (hV : vX m h V) (hh : h < 54) {a : Nat} {x : Int32} (hx : ybl x (vN V)) : vX (sI m (h + 3) a x) h (vTx V a x) := by
  obtain ⟨h0, h1, h2, h3, h4, h5, h6, h7⟩ := hV
  have hs : ∀ q, q ≠ h + 3 → ∀ k, gI (sI m (h + 3) a x) q k = gI m q k := fun q hq k => by rw [gI_sI, if_neg (fun z => hq z.1)]
  refine ⟨vTx_w h0 hx, (hs _ (by omega) 0).trans h1, fun j hj => ?_, fun j hj => (hs _ (by omega) j).trans (h3 j hj), (hs _ (by omega) 5).trans h4, (hs _ (by omega) 6).trans h5, h6, fun g G e => gX_sm (P := fun q => q = h + 3) (h7 g G e) (zsm_sI (P := fun q => q = h + 3) (zsm_refl m) (show h + 3 = h + 3 from rfl) _) (fun q a b z => by omega)⟩
  obtain ⟨r, s, t⟩ := h2 j hj
  refine ⟨(hs _ (by omega) j).trans r, (hs _ (by omega) j).trans s, ?_⟩
  rw [gI_sI]
  show _ = (if j = a then x else vT V j)
  by_cases e : j = a
  · rw [if_pos ⟨rfl, e⟩, if_pos e]
  · rw [if_neg (fun z => e z.2), if_neg e]; exact t
theorem vM_touch {m : zM} {V : zV} (hV : vM m V) {a : Nat} {x : Int32} (hx : ybl x (vN V)) : vM (sI m 116 a x) (vTx V a x) := by
  obtain ⟨h0, h1, h2, h3, h4, h5, h6, h7⟩ := hV
  have hs : ∀ q, q ≠ 116 → ∀ k, gI (sI m 116 a x) q k = gI m q k := fun q hq k => by rw [gI_sI, if_neg (fun z => hq z.1)]
  refine ⟨vTx_w h0 hx, (hs _ (by decide) 0).trans h1, fun j hj => ?_, fun j hj => (hs _ (by decide) j).trans (h3 j hj), (hs _ (by decide) 2).trans h4, (hs _ (by decide) 1).trans h5, (hs _ (by decide) 8).trans h6, fun g G e => gMo_sm (P := fun q => q = 116) (h7 g G e) (zsm_sI (P := fun q => q = 116) (zsm_refl m) (show (116 : Nat) = 116 from rfl) _) (fun q a b z => by omega)⟩
  obtain ⟨r, s, t⟩ := h2 j hj
  refine ⟨(hs _ (by decide) j).trans r, (hs _ (by decide) j).trans s, ?_⟩
  rw [gI_sI]
  show _ = (if j = a then x else vT V j)
  by_cases e : j = a
  · rw [if_pos ⟨rfl, e⟩, if_pos e]
  · rw [if_neg (fun z => e z.2), if_neg e]; exact t
/-- another plant's takes do not look at these touches -/
theorem vTakes_x (V : zV) (a : Nat) (x : Int32) {p : Nat} (h : p ≠ a) : vTakes (vTx V a x) p = vTakes V p := by
  have hW : vW (vTx V a x) p = vW V p := by
    funext l
    unfold vW
    have : vT (vTx V a x) p = vT V p := by
      show (if p = a then x else vT V p) = _
      rw [if_neg h]
    rw [this]
    rfl
  have hp : vPace (vTx V a x) p = vPace V p := by
    unfold vPace vPaceZ
    rw [hW]
    rfl
  unfold vTakes
  rw [hp]
  rfl
def jW (V : zV) (one other a b : Nat) : Option Nat := sW (s1 (vTo V a b) one) other
def jS (now w : Option Nat) (i : Nat) (s : Option (Nat × Nat)) : Option (Nat × Nat) := match w with
  | none => s
  | some x => match s with
    | some (t, f) => if x < t then some (x, i) else some (t, f)
    | none => match now with
      | none => some (x, i)
      | some y => if x < y then some (x, i) else none
def jR (V : zV) (one other a : Nat) : Nat → Option (Nat × Nat) → Option (Nat × Nat)
  | 0, s => s
  | b + 1, s => if a = b then jR V one other a b s else if bt (vT V a) b = true then jR V one other a b s else jS (sW (s1 V one) other) (jW V one other a b) (10 * a + b) (jR V one other a b s)
def jF (V : zV) (one other : Nat) : Nat → Option (Nat × Nat)
  | 0 => none
  | a + 1 => jR V one other a (vN V) (jF V one other a)
def jI (now : Option Nat) (i : Nat) (s : Option (Nat × Nat)) : Prop := ∀ t f, s = some (t, f) → f < i ∧ t ≤ 16680 ∧ ∀ y, now = some y → t < y
theorem jI_S {now w : Option Nat} {i : Nat} {s : Option (Nat × Nat)} (hw : ∀ x, w = some x → x ≤ 16680) (h : jI now i s) : jI now (i + 1) (jS now w i s) := by
  intro t f e
  unfold jS at e
  cases w with
  | none =>
    obtain ⟨a, b, c⟩ := h t f e
    exact ⟨by omega, b, c⟩
  | some x =>
    have hx := hw x rfl
    cases s with
    | some q =>
      obtain ⟨t0, f0⟩ := q
      obtain ⟨a, b, c⟩ := h t0 f0 rfl
      dsimp only at e
      split at e
      · cases e
        exact ⟨by omega, hx, fun y hy => by have := c y hy; omega⟩
      · cases e
        exact ⟨by omega, b, c⟩
    | none =>
      cases now with
      | none =>
        cases e
        exact ⟨by omega, hx, fun y hy => by cases hy⟩
      | some y =>
        dsimp only at e
        split at e
        · cases e
          exact ⟨by omega, hx, fun y hy => by cases hy; assumption⟩
        · cases e
theorem jI_mo {now : Option Nat} {i j : Nat} {s : Option (Nat × Nat)} (h : jI now i s) (hj : i ≤ j) : jI now j s := fun t f e => by
  obtain ⟨a, b, c⟩ := h t f e
  exact ⟨by omega, b, c⟩
def jb : Option (Nat × Nat) → Int32
  | none => -5
  | some (t, f) => nI (100 * t + f)
def jt (now : Option Nat) : Option (Nat × Nat) → Int32
  | none => e5 now
  | some (t, _) => nI t
def jf : Option (Nat × Nat) → Int32
  | none => -5
  | some (_, f) => nI f
def j2 : Option (Nat × Nat) → Int32
  | none => -5
  | some (t, _) => nI t
def aJoin (V : zV) (a b c : Int32) : Int32 := if zr a (vN V) = true then (if zr b (vN V) = true then (if zr c 2 = true then (if a.toNatClampNeg = b.toNatClampNeg then -2 else if c.toNatClampNeg = 0 then jf (jF V a.toNatClampNeg b.toNatClampNeg (vN V)) else j2 (jF V a.toNatClampNeg b.toNatClampNeg (vN V))) else -1) else -1) else -1
theorem y_hwt (d : Nat) {Q : zQ} {m : zM} {V : zV} (hV : vX m 21 V) (hX : vX m 45 V) (ht : hTk m (vN V) (vTakes V)) {one other a b : Nat} (h1 : one < vN V) (h2 : other < vN V) (ha : a < vN V) (hb : b < vN V)
    (h : ∀ m', zsm hP5 m m' → vX m' 45 V → hTk m' (vN V) (vTakes V) → Q (some (.int (e5 (jW V one other a b)))) m') : zCall (d + 5) m_Qu_hoursWithTouch [.ref 90, .int (nI one), .int (nI other), .int (nI a), .int (nI b)] m Q := by
  have h8 := hV.1.1
  have hin : vp_in (nI a) 8 := vp_in_nI (by omega) (by omega)
  have hcl : (nI a).toNatClampNeg = a := nI_clamp (by omega)
  have ht3 : gI m 24 a = vT V a := (hV.2.2.1 a ha).2.2
  have hbl : ybl (vT V a ||| z1 b) (vN V) := ybl_or (hV.1.2.1 a ha).2.2 (ybl_z1 hb (by omega))
  refine en_Qu_hoursWithTouch (d + 4) _ _ _ _ m (sg_Qu_hoursWithTouch_0 (zCall_m _) _ _ _ _ m ⟨hin, hin, y_Box_bit _ _ ⟨_, rfl, hin, ?_⟩⟩)
  rw [hcl, ht3]
  have hX1 : vX (sI m 48 a (vT V a ||| z1 b)) 45 (vTo V a b) := vX_touch hX (by decide) hbl
  refine y_takes_45 d hX1 ha fun m2 hs2 => ⟨_, rfl, hin, y_Box_bit _ _ ⟨_, rfl, ?_⟩⟩
  have hX2 := vX_sm hX1 hs2 (fun q a b z => by omega) (fun q a b z => by omega)
  have hs3 : zsm (fun q => q = 93) m2 (sI m2 93 a (nI (vTakes (vTo V a b) a))) := zsm_sI (P := fun q => q = 93) (zsm_refl m2) (show (93 : Nat) = 93 from rfl) _
  have hX3 := vX_sm hX2 hs3 (fun q a b z => by omega) (fun q a b z => by omega)
  have htk : hTk (sI m2 93 a (nI (vTakes (vTo V a b) a))) (vN (vTo V a b)) (vTakes (vTo V a b)) := fun p hp => by
    rw [gI_sI]
    by_cases e : p = a
    · rw [if_pos ⟨rfl, e⟩, e]
    · rw [if_neg (fun z => e z.2), (hs2 93 (by decide)).1]
      show gI m 93 p = _
      rw [ht p hp]
      unfold vTo
      rw [vTakes_x V a _ e]
  refine y_sp1_45 d hX3 htk (one := one) (by omega) fun m4 hs4 hx4 => ⟨rfl, hin, hin, hin, vp_in_nI (by omega) (by omega), ?_⟩
  have hX4 := vX_sm hX3 hs4 (fun q a b z => by unfold hP2 at z; omega) (fun q a b z => by unfold hP2 at z; omega)
  have sA : zsm hP5 m m4 := zsm_tr (zsm_sI (P := hP5) (zsm_refl m) (show hP5 48 by unfold hP5; omega) _) (zsm_tr (zsm_mo (fun q z => by unfold hP5; omega) hs2) (zsm_tr (zsm_mo (fun q z => by unfold hP5; omega) hs3) (zsm_mo (fun q z => by unfold hP2 at z; unfold hP5; omega) hs4)))
  have e24 : gI m4 24 a = vT V a := ((sA 24 (by unfold hP5; omega)).1 a).trans ht3
  rw [e24, nI_clamp (by omega), ht a ha]
  have e94 : gI (sI (sI m4 48 a (vT V a)) 93 a (nI (vTakes V a))) 94 other = e5 (jW V one other a b) := (hx4.1 other h2).1
  rw [e94]
  have hX5 : vX (sI m4 48 a (vT V a)) 45 (vTx (vTo V a b) a (vT V a)) := vX_touch hX4 (by decide) (hV.1.2.1 a ha).2.2
  rw [show vTx (vTo V a b) a (vT V a) = V from vTx_back V a _] at hX5
  refine h _ (zsm_sI (zsm_sI sA (by unfold hP5; omega) _) (by unfold hP5; omega) _) (vX_sm hX5 (zsm_sI (P := fun q => q = 93) (zsm_refl _) (show (93 : Nat) = 93 from rfl) _) (fun q a b z => by omega) (fun q a b z => by omega)) (fun p hp => ?_)
  rw [gI_sI]
  by_cases e : p = a
  · rw [if_pos ⟨rfl, e⟩, e]
  · rw [if_neg (fun z => e z.2)]
    show gI m4 93 p = _
    rw [(hs4 93 (by unfold hP2; omega)).1, htk p hp]
    unfold vTo
    rw [vTakes_x V a _ e]
theorem jW_b {V : zV} (hw : vWf V) {one other a b : Nat} (ha : a < vN V) (hb : b < vN V) : ∀ x, jW V one other a b = some x → x ≤ 16680 := fun x h => by
  have h8 := hw.1
  exact sT_wb (vTx_w hw (ybl_or (hw.2.1 a ha).2.2 (ybl_z1 hb (by omega)))) _ _ x h
theorem y_xjB (d : Nat) {Q : zQ} {m : zM} {V : zV} (hV : vX m 21 V) {one other a : Nat} (h1 : one < vN V) (h2 : other < vN V) (ha : a < vN V) {s0 : Option (Nat × Nat)} (hI : jI (sW (s1 V one) other) (10 * a) s0)
    (K : ∀ m', zsm hP5 m m' → vX m' 45 V → hTk m' (vN V) (vTakes V) → ∀ u, zle [.ref 90, .int (nI one), .int (nI other), .int (e5 (sW (s1 V one) other)), .int (jb (jR V one other a (vN V) s0)), .int (nI (a + 1)), .retAddr 0, .retAddr 0, .retAddr 0] u → zRun (zCall (d + 5)) 4 (some .int) zc_Qu_soonestTouch Q 34 u [] m') :
    ∀ j b m', b + j = vN V → jI (sW (s1 V one) other) (10 * a + b) (jR V one other a b s0) → zsm hP5 m m' → vX m' 45 V → hTk m' (vN V) (vTakes V) → ∀ u, zle [.ref 90, .int (nI one), .int (nI other), .int (e5 (sW (s1 V one) other)), .int (jb (jR V one other a b s0)), .int (nI a), .int (nI b), .retAddr 0, .retAddr 0] u → zRun (zCall (d + 5)) 4 (some .int) zc_Qu_soonestTouch Q 49 u [] m'
  | 0, b, m', hk, hJ, hs, hX, ht, u, hu => by
    have hV' := vX_5 hV hs
    have h8 := hV.1.1
    refine zRun_le (zCall_m _) hu (sg_Qu_soonestTouch_49 (zCall_m _) _ _ _ _ _ _ m' ?_)
    rw [hV'.2.1]
    refine ip (nI_le (by omega) (by omega)) ?_
    rw [nI_1, show b = vN V by omega]
    exact K m' hs hX ht _ (by repeat (first | exact zle_nil | apply zle_same | apply zle_new _ rfl))
  | j + 1, b, m', hk, hJ, hs, hX, ht, u, hu => by
    have hV' := vX_5 hV hs
    have h8 := hV.1.1
    have IH := y_xjB d hV h1 h2 ha hI K j (b + 1)
    unfold jR at IH
    refine zRun_le (zCall_m _) hu (sg_Qu_soonestTouch_49 (zCall_m _) _ _ _ _ _ _ m' ?_)
    rw [hV'.2.1]
    refine iq (nI_ge (by omega) (by omega)) ?_
    rw [nI_1 b]
    by_cases e : a = b
    · rw [if_pos e] at IH
      exact ip (by rw [e]) (IH m' (by omega) (jI_mo hJ (by omega)) hs hX ht _ (by repeat (first | exact zle_nil | apply zle_same | apply zle_new _ rfl)))
    · rw [if_neg e] at IH
      refine iq (nI_ne (by omega) (by omega) e) ⟨vp_in_nI (by omega) (by omega), y_Box_holds _ _ (by omega) ⟨_, rfl, ?_⟩⟩
      have ht3 : gI m' 24 a = vT V a := (hV'.2.2.1 a ha).2.2
      rw [nI_clamp (by omega), ht3]
      refine zb_c (fun z => ?_) (fun z => ?_)
      · rw [if_neg (by rw [z]; decide)] at IH
        refine y_hwt d hV' hX ht h1 h2 ha (b := b) (by omega) fun m2 hs2 hX2 ht2 => ⟨_, rfl, ?_⟩
        have hwb := jW_b hV.1 (one := one) (other := other) ha (b := b) (by omega)
        have hJ2 := jI_S hwb hJ
        have hs' := zsm_tr hs hs2
        have IH := IH m2 (by omega) hJ2 hs' hX2 ht2
        have hnb : ∀ y, sW (s1 V one) other = some y → y ≤ 16680 := fun y z => sT_wb hV.1 _ _ y z
        generalize jW V one other a b = w at hwb IH hJ2
        generalize jR V one other a b s0 = s at IH hJ hJ2
        generalize sW (s1 V one) other = now at IH hJ hJ2 hnb
        unfold jS at IH
        cases w with
        | none => exact ip rfl (IH _ (by repeat (first | exact zle_nil | apply zle_same | apply zle_new _ rfl)))
        | some x =>
          have hxb := hwb x rfl
          refine iq (e5_s (x := x) (by omega)) ?_
          have en : e5 (some x) * 100 + 10 * nI a + nI b = nI (100 * x + (10 * a + b)) := by
            show nI x * nI 100 + nI 10 * nI a + nI b = _
            rw [pk_mul, pk_mul, nI_add, nI_add]
            congr 1
            omega
          rw [en]
          cases s with
          | some q =>
            obtain ⟨t, f⟩ := q
            obtain ⟨j1, j2, j3⟩ := hJ t f rfl
            dsimp only at IH
            have hbest : ∀ A B : Prop, (x < t → B) → (¬ x < t → A) → @ite Prop (jb (some (t, f)) = -5) inferInstance B (if jb (some (t, f)) ≤ nI (100 * x + (10 * a + b)) then A else B) := fun A B hB hA => by
              refine iq (e5_s (x := 100 * t + f) (by omega)) ?_
              show @ite Prop (nI (100 * t + f) ≤ nI (100 * x + (10 * a + b))) _ _ _
              by_cases l : x < t
              · exact iq (nI_ge (by omega) (by omega)) (hB l)
              · exact ip (nI_le (by omega) (by omega)) (hA l)
            have R1 : x < t → ∀ p q, zRun (zCall (d + 5)) 4 (some .int) zc_Qu_soonestTouch Q 49 [.ref 90, .int (nI one), .int (nI other), .int (e5 now), .int (nI (100 * x + (10 * a + b))), .int (nI a), .int (nI (b + 1)), .int p, .int q] [] m2 := fun l p q => by
              rw [if_pos l] at IH
              exact IH _ (by repeat (first | exact zle_nil | apply zle_same | apply zle_new _ rfl))
            have R2 : ¬ x < t → ∀ p q, zRun (zCall (d + 5)) 4 (some .int) zc_Qu_soonestTouch Q 49 [.ref 90, .int (nI one), .int (nI other), .int (e5 now), .int (jb (some (t, f))), .int (nI a), .int (nI (b + 1)), .int p, .int q] [] m2 := fun l p q => by
              rw [if_neg l] at IH
              exact IH _ (by repeat (first | exact zle_nil | apply zle_same | apply zle_new _ rfl))
            cases now with
            | none => exact ip rfl (hbest _ _ (fun l => R1 l _ _) (fun l => R2 l _ _))
            | some y =>
              have hy := hnb y rfl
              have h3 := j3 y rfl
              refine iq (e5_s (x := y) (by omega)) ?_
              show @ite Prop (nI y ≤ nI x) _ _ _
              by_cases l : y ≤ x
              · exact ip (nI_le l (by omega)) (R2 (by omega) _ _)
              · exact iq (nI_ge (by omega) (by omega)) (hbest _ _ (fun l => R1 l _ _) (fun l => R2 l _ _))
          | none =>
            cases now with
            | none => exact ip rfl (ip rfl (IH _ (by repeat (first | exact zle_nil | apply zle_same | apply zle_new _ rfl))))
            | some y =>
              have hy := hnb y rfl
              dsimp only at IH
              refine iq (e5_s (x := y) (by omega)) ?_
              show @ite Prop (nI y ≤ nI x) _ _ _
              by_cases l : x < y
              · rw [if_pos l] at IH
                exact iq (nI_ge l (by omega)) (ip rfl (IH _ (by repeat (first | exact zle_nil | apply zle_same | apply zle_new _ rfl))))
              · rw [if_neg l] at IH
                exact ip (nI_le (by omega) (by omega)) (IH _ (by repeat (first | exact zle_nil | apply zle_same | apply zle_new _ rfl)))
      · rw [if_pos z] at IH
        exact IH m' (by omega) (jI_mo hJ (by omega)) hs hX ht _ (by repeat (first | exact zle_nil | apply zle_same | apply zle_new _ rfl))
theorem jI_R {V : zV} (hw : vWf V) {one other a : Nat} (ha : a < vN V) {s : Option (Nat × Nat)} (h : jI (sW (s1 V one) other) (10 * a) s) : ∀ b, b ≤ vN V → jI (sW (s1 V one) other) (10 * a + b) (jR V one other a b s)
  | 0, _ => h
  | b + 1, hb => by
    have ih := jI_R hw ha h b (by omega)
    unfold jR
    split
    · exact jI_mo ih (by omega)
    · split
      · exact jI_mo ih (by omega)
      · exact jI_S (jW_b hw ha (by omega)) ih
theorem jI_F {V : zV} (hw : vWf V) {one other : Nat} : ∀ a, a ≤ vN V → jI (sW (s1 V one) other) (10 * a) (jF V one other a)
  | 0, _ => fun t f h => by cases h
  | a + 1, ha => by
    have h8 := hw.1
    exact jI_mo (jI_R hw (by omega) (jI_F hw a (by omega)) (vN V) (Nat.le_refl _)) (by omega)
theorem y_xjA (d : Nat) {Q : zQ} {m : zM} {V : zV} (hV : vX m 21 V) {one other : Nat} (h1 : one < vN V) (h2 : other < vN V) (h : ∀ m', zsm hP5 m m' → Q (some (.int (jb (jF V one other (vN V))))) m') :
    ∀ j a m', a + j = vN V → zsm hP5 m m' → vX m' 45 V → hTk m' (vN V) (vTakes V) → ∀ u, zle [.ref 90, .int (nI one), .int (nI other), .int (e5 (sW (s1 V one) other)), .int (jb (jF V one other a)), .int (nI a), .retAddr 0, .retAddr 0, .retAddr 0] u → zRun (zCall (d + 5)) 4 (some .int) zc_Qu_soonestTouch Q 34 u [] m'
  | 0, a, m', hk, hs, hX, ht, u, hu => by
    have hV' := vX_5 hV hs
    have h8 := hV.1.1
    refine zRun_le (zCall_m _) hu (sg_Qu_soonestTouch_34 (zCall_m _) _ _ _ _ _ m' ?_)
    rw [hV'.2.1]
    refine ip (nI_le (by omega) (by omega)) ?_
    rw [show a = vN V by omega]
    exact h m' hs
  | j + 1, a, m', hk, hs, hX, ht, u, hu => by
    have hV' := vX_5 hV hs
    have h8 := hV.1.1
    refine zRun_le (zCall_m _) hu (sg_Qu_soonestTouch_34 (zCall_m _) _ _ _ _ _ m' ?_)
    rw [hV'.2.1]
    refine iq (nI_ge (by omega) (by omega)) ?_
    have hI := jI_F hV.1 (one := one) (other := other) a (by omega)
    exact y_xjB d hV h1 h2 (by omega) hI (fun m2 hs2 hX2 ht2 u hu => y_xjA d hV h1 h2 h j (a + 1) m2 (by omega) hs2 hX2 ht2 u hu) (vN V) 0 m' (Nat.zero_add _) (jI_mo hI (by omega)) hs hX ht _ (by repeat (first | exact zle_nil | apply zle_same | apply zle_new _ rfl))
theorem yX_join (d : Nat) {Q : zQ} {m : zM} {V : zV} (hV : vX m 21 V) (hg : ∀ q, gG m 21 = some q → zsh q = 1) (a b c : Int32) (h : ∀ m', zsm hP5 m m' → Q (some (.int (aJoin V a b c))) m') : zCall (d + 8) m_Box_join [.ref 20, .int a, .int b, .int c] m Q := by
  have h8 := hV.1.1
  have h0 := h m (zsm_refl m)
  unfold aJoin at h h0
  refine en_Box_join (d + 7) _ _ _ m (sg_Box_join_0 (zCall_m _) _ _ _ m (y_Hedge_has _ a hV.2.1 (by omega) ⟨_, rfl, zb_c (fun ha => ?_) (fun ha => y_Hedge_has _ b hV.2.1 (by omega) ⟨_, rfl, zb_c (fun hb => ?_) (fun hb => zr_d (n := 2) (by decide) (fun hc => ?_) (fun hc => ?_) (fun hc => ?_))⟩)⟩))
  · rw [ha] at h0; exact h0
  · rw [ha, hb] at h0; exact h0
  · rw [ha, hb, hc] at h0; exact h0
  · rw [ha, hb, hc] at h0; exact h0
  · rw [ha, hb, hc] at h h0
    simp only [if_true] at h h0
    obtain ⟨a1, a2⟩ := zr_k ha
    obtain ⟨b1, b2⟩ := zr_k hb
    obtain ⟨c1, c2⟩ := zr_k hc
    generalize a.toNatClampNeg = one at a1 a2 h h0
    generalize b.toNatClampNeg = other at b1 b2 h h0
    generalize c.toNatClampNeg = part at c1 c2 h h0
    subst a2 b2 c2
    by_cases e : one = other
    · rw [if_pos e] at h0
      exact iq (fun z => z (by rw [e])) h0
    · simp only [if_neg e] at h
      clear h0
      refine ip (nI_ne (by omega) (by omega) e) ?_
      refine en_Qu_soonestTouch (d + 6) _ _ m (sg_Qu_soonestTouch_0 (zCall_m _) _ _ m (y_say d hV (one := one) (w0 := 0) (by omega) (by omega) fun m1 hs1 hsd hwd => ⟨rfl, vp_in_nI (by omega) (by omega), ?_⟩))
      have hs1' : zsm hP5 m m1 := zsm_mo (fun q z => by unfold hP3 at z; unfold hP5; omega) hs1
      have hV1 := vX_5 hV hs1'
      have hg1 : ∀ q, gG m1 21 = some q → zsh q = 1 := fun q z => hg q (((hs1 21 (by unfold hP3; omega)).2.2).symm.trans z)
      refine y_become_45 (d + 4) hg1 fun m2 hs2 hb2 => ⟨rfl, ?_⟩
      have e94 : gI m1 94 (nI other).toNatClampNeg = e5 (sW (s1 V one) other) := by rw [nI_clamp (by omega)]; exact (hsd.1.1 other b1).1
      rw [e94]
      refine y_xjA (d + 1) hV a1 b1 (fun m3 hs3 => ⟨_, rfl, ?_⟩) (vN V) 0 m2 (Nat.zero_add _) (zsm_tr hs1' (zsm_mo (fun q z => by unfold hP5; omega) hs2)) (bX_vX hV1 hb2 hs2 (fun q a b z => by omega)) (hTk_sm hs2 (by omega) hsd.2) _ (by repeat (first | exact zle_nil | apply zle_same | apply zle_new _ rfl))
      have h := h m3 hs3
      have hI := jI_F hV.1 (one := one) (other := other) (vN V) (Nat.le_refl _)
      cases hj : jF V one other (vN V) with
      | none =>
        rw [hj] at h
        have e5' : (if part = 0 then jf none else j2 none) = -5 := by split <;> rfl
        rw [e5'] at h
        exact iq (fun z => z rfl) h
      | some q =>
        obtain ⟨t, f⟩ := q
        obtain ⟨i1, i2, i3⟩ := hI t f hj
        rw [hj] at h
        refine ip (e5_s (x := 100 * t + f) (by omega)) ?_
        rw [show (100 : Int32) = nI 100 from rfl, show jb (some (t, f)) = nI (100 * t + f) from rfl, pk_div (by omega) (by omega) (by omega), pk_mul, pk_sub (by omega)]
        rcases (show part = 0 ∨ part = 1 by omega) with rfl | rfl
        · refine iq (fun z => z rfl) ⟨by decide, ?_⟩
          rw [show 100 * t + f - (100 * t + f) / 100 * 100 = f by omega]
          exact h
        · refine ip (by decide) ⟨by decide, ?_⟩
          rw [show (100 * t + f) / 100 = t by omega]
          exact h
