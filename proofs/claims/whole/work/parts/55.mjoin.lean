/-! join of the reference -/
theorem b_nz1 {x : Int32} {p : Nat} (hp : p < 32) (h : bt x p = false) : (x ||| z1 p) &&& (z1 p ^^^ (-1)) = x := by
  apply b_ext
  intro i hi
  rw [b_and, b_or, b_xor, b_m1 i hi, b_z1 p hp i hi]
  by_cases e : i = p
  · subst e
    rw [h]
    simp
  · rw [decide_eq_false e]
    simp
theorem y_mjB (d : Nat) {Q : zQ} {m : zM} {V : zV} (hV : vM m V) {one other a : Nat} (v3 : Int32) (h1 : one < vN V) (h2 : other < vN V) (ha : a < vN V) {s0 : Option (Nat × Nat)} (hI : jI (sW (s1 V one) other) (10 * a) s0)
    (K : ∀ m', zsm mP m m' → ∀ u, zle [.ref 113, .int (nI one), .int (nI other), .int v3, .int (jt (sW (s1 V one) other) (jR V one other a (vN V) s0)), .int (jf (jR V one other a (vN V) s0)), .int (nI (a + 1)), .retAddr 0, .retAddr 0] u → zRun (zCall (d + 8)) 9 (some .int) zc_Mod_join Q 51 u [] m') :
    ∀ j b m', b + j = vN V → jI (sW (s1 V one) other) (10 * a + b) (jR V one other a b s0) → zsm mP m m' → ∀ u, zle [.ref 113, .int (nI one), .int (nI other), .int v3, .int (jt (sW (s1 V one) other) (jR V one other a b s0)), .int (jf (jR V one other a b s0)), .int (nI a), .int (nI b), .retAddr 0] u → zRun (zCall (d + 8)) 9 (some .int) zc_Mod_join Q 63 u [] m'
  | 0, b, m', hk, hJ, hs, u, hu => by
    have hV' := vM_mP hV hs
    have h8 := hV.1.1
    refine zRun_le (zCall_m _) hu (sg_Mod_join_63 (zCall_m _) _ _ _ _ _ _ _ m' ?_)
    rw [hV'.2.1]
    refine ip (nI_le (by omega) (by omega)) ?_
    rw [nI_1, show b = vN V by omega]
    exact K m' hs _ (by repeat (first | exact zle_nil | apply zle_same | apply zle_new _ rfl))
  | j + 1, b, m', hk, hJ, hs, u, hu => by
    have hV' := vM_mP hV hs
    have h8 := hV.1.1
    have hin : vp_in (nI a) 8 := vp_in_nI (by omega) (by omega)
    have IH := y_mjB d hV v3 h1 h2 ha hI K j (b + 1)
    unfold jR at IH
    refine zRun_le (zCall_m _) hu (sg_Mod_join_63 (zCall_m _) _ _ _ _ _ _ _ m' ?_)
    rw [hV'.2.1]
    refine iq (nI_ge (by omega) (by omega)) ?_
    rw [nI_1 b]
    by_cases e : a = b
    · rw [if_pos e] at IH
      exact ip (by rw [e]) (IH m' (by omega) (jI_mo hJ (by omega)) hs _ (by repeat (first | exact zle_nil | apply zle_same | apply zle_new _ rfl)))
    · rw [if_neg e] at IH
      have ht3 : gI m' 116 a = vT V a := (hV'.2.2.1 a ha).2.2
      refine iq (nI_ne (by omega) (by omega) e) ⟨hin, ?_⟩
      rw [nI_clamp (by omega), ht3]
      refine y_Mod_has _ _ (by omega) ⟨_, rfl, zb_c (fun z => ?_) (fun z => ?_)⟩
      · rw [if_neg (by rw [z]; decide)] at IH
        refine ⟨hin, hin, ?_⟩
        rw [ht3]
        have hbl : ybl (vT V a ||| z1 b) (vN V) := ybl_or (hV.1.2.1 a ha).2.2 (ybl_z1 (by omega) (by omega))
        refine y_whenOf d (V := vTo V a b) (vM_touch hV' hbl) h1 h2 fun m2 hs2 => ⟨_, rfl, hin, hin, ?_⟩
        have e2 : gI m2 116 a = vT V a ||| z1 b := by
          rw [(hs2 116 (by unfold mP; omega)).1, gI_sI, if_pos ⟨rfl, rfl⟩]
        have e3 : gI m2 116 a &&& (((1 : Int32) <<< (nI b &&& 31)) ^^^ (-1)) = vT V a := by
          rw [e2]
          exact b_nz1 (by omega) z
        rw [e3]
        have hs' : zsm mP m (sI m2 116 a (vT V a)) := fun q hq => by
          obtain ⟨x1, x2, x3⟩ := hs q hq
          obtain ⟨y1, y2, y3⟩ := hs2 q hq
          refine ⟨fun k => ?_, fun k => (y2 k).trans (x2 k), y3.trans x3⟩
          rw [gI_sI]
          by_cases ee : q = 116 ∧ k = a
          · rw [if_pos ee, ee.1, ee.2]
            exact ((hV.2.2.1 a ha).2.2).symm
          · rw [if_neg ee, y1 k, gI_sI, if_neg ee]
            exact x1 k
        have hwb := jW_b hV.1 (one := one) (other := other) ha (b := b) (by omega)
        have hJ2 := jI_S hwb hJ
        have IH := IH (sI m2 116 a (vT V a)) (by omega) hJ2 hs'
        have hnb : ∀ y, sW (s1 V one) other = some y → y ≤ 16680 := fun y z => sT_wb hV.1 _ _ y z
        rw [show sW (sT (vTo V a b) fun p => decide (p = one)) other = jW V one other a b from rfl]
        generalize jW V one other a b = w at hwb IH hJ2
        generalize jR V one other a b s0 = s at IH hJ hJ2
        generalize sW (s1 V one) other = now at IH hJ hJ2 hnb
        unfold jS at IH
        cases w with
        | none => exact ip (by decide) (IH _ (by repeat (first | exact zle_nil | apply zle_same | apply zle_new _ rfl)))
        | some x =>
          have hxb := hwb x rfl
          refine iq (nI_pos (n := x) (by omega)) ?_
          have en : (10 : Int32) * nI a + nI b = nI (10 * a + b) := by
            rw [show (10 : Int32) = nI 10 from rfl, pk_mul, nI_add]
          rw [en]
          cases s with
          | some q =>
            obtain ⟨t, f⟩ := q
            obtain ⟨j1, j2, j3⟩ := hJ t f rfl
            dsimp only at IH
            refine iq (nI_pos (n := t) (by omega)) ?_
            show @ite Prop (nI x < nI t) _ _ _
            by_cases l : x < t
            · rw [if_pos l] at IH
              exact ip (nI_lt l (by omega)) (IH _ (by repeat (first | exact zle_nil | apply zle_same | apply zle_new _ rfl)))
            · rw [if_neg l] at IH
              exact iq (nI_nlt (by omega) (by omega)) (IH _ (by repeat (first | exact zle_nil | apply zle_same | apply zle_new _ rfl)))
          | none =>
            cases now with
            | none => exact ip (by decide) (IH _ (by repeat (first | exact zle_nil | apply zle_same | apply zle_new _ rfl)))
            | some y =>
              have hy := hnb y rfl
              dsimp only at IH
              refine iq (nI_pos (n := y) (by omega)) ?_
              show @ite Prop (nI x < nI y) _ _ _
              by_cases l : x < y
              · rw [if_pos l] at IH
                exact ip (nI_lt l (by omega)) (IH _ (by repeat (first | exact zle_nil | apply zle_same | apply zle_new _ rfl)))
              · rw [if_neg l] at IH
                exact iq (nI_nlt (by omega) (by omega)) (IH _ (by repeat (first | exact zle_nil | apply zle_same | apply zle_new _ rfl)))
      · rw [if_pos z] at IH
        exact IH m' (by omega) (jI_mo hJ (by omega)) hs _ (by repeat (first | exact zle_nil | apply zle_same | apply zle_new _ rfl))
theorem y_mjA (d : Nat) {Q : zQ} {m : zM} {V : zV} (hV : vM m V) {one other part : Nat} (h1 : one < vN V) (h2 : other < vN V) (hp : part < 2) (h : ∀ m', zsm mP m m' → Q (some (.int (if part = 0 then jf (jF V one other (vN V)) else j2 (jF V one other (vN V))))) m') :
    ∀ j a m', a + j = vN V → zsm mP m m' → ∀ u, zle [.ref 113, .int (nI one), .int (nI other), .int (nI part), .int (jt (sW (s1 V one) other) (jF V one other a)), .int (jf (jF V one other a)), .int (nI a), .retAddr 0, .retAddr 0] u → zRun (zCall (d + 8)) 9 (some .int) zc_Mod_join Q 51 u [] m'
  | 0, a, m', hk, hs, u, hu => by
    have hV' := vM_mP hV hs
    have h8 := hV.1.1
    refine zRun_le (zCall_m _) hu (sg_Mod_join_51 (zCall_m _) _ _ _ _ _ _ m' ?_)
    rw [hV'.2.1]
    refine ip (nI_le (by omega) (by omega)) ?_
    rw [show a = vN V by omega]
    have h := h m' hs
    have hI := jI_F hV.1 (one := one) (other := other) (vN V) (Nat.le_refl _)
    cases hj : jF V one other (vN V) with
    | none =>
      rw [hj] at h
      rcases (show part = 0 ∨ part = 1 by omega) with rfl | rfl
      · exact iq (fun z => z rfl) h
      · exact ip (by decide) (iq (by decide) h)
    | some q =>
      obtain ⟨t, f⟩ := q
      obtain ⟨i1, i2, i3⟩ := hI t f hj
      rw [hj] at h
      rcases (show part = 0 ∨ part = 1 by omega) with rfl | rfl
      · exact iq (fun z => z rfl) h
      · exact ip (by decide) (ip (nI_pos' (n := f) (by omega)) h)
  | j + 1, a, m', hk, hs, u, hu => by
    have hV' := vM_mP hV hs
    have h8 := hV.1.1
    refine zRun_le (zCall_m _) hu (sg_Mod_join_51 (zCall_m _) _ _ _ _ _ _ m' ?_)
    rw [hV'.2.1]
    refine iq (nI_ge (by omega) (by omega)) ?_
    have hI := jI_F hV.1 (one := one) (other := other) a (by omega)
    exact y_mjB d hV _ h1 h2 (by omega) hI (fun m2 hs2 u hu => y_mjA d hV h1 h2 hp h j (a + 1) m2 (by omega) hs2 u hu) (vN V) 0 m' (Nat.zero_add _) (jI_mo hI (by omega)) hs _ (by repeat (first | exact zle_nil | apply zle_same | apply zle_new _ rfl))
theorem yM_join (d : Nat) {Q : zQ} {m : zM} {V : zV} (hV : vM m V) (a b c : Int32) (h : ∀ m', zsm mP m m' → Q (some (.int (aJoin V a b c))) m') : zCall (d + 9) m_Mod_join [.ref 113, .int a, .int b, .int c] m Q := by
  have h8 := hV.1.1
  have h0 := h m (zsm_refl m)
  unfold aJoin at h h0
  refine en_Mod_join (d + 8) _ _ _ m (sg_Mod_join_0 (zCall_m _) _ _ _ m (y_Mod_isPlant _ a hV.2.1 (by omega) ⟨_, rfl, zb_c (fun ha => ?_) (fun ha => y_Mod_isPlant _ b hV.2.1 (by omega) ⟨_, rfl, zb_c (fun hb => ?_) (fun hb => y_Mod_in _ c _ (n := 2) (by decide) ⟨_, rfl, zb_d (fun hc => ?_) (fun hc => ?_)⟩)⟩)⟩))
  · rw [ha] at h0; exact h0
  · rw [ha, hb] at h0; exact h0
  · rw [ha, hb, hc] at h0; exact h0
  · rw [ha, hb, hc] at h h0
    simp only [if_true] at h h0
    obtain ⟨a1, a2⟩ := zr_k ha
    obtain ⟨b1, b2⟩ := zr_k hb
    obtain ⟨c1, c2⟩ := zr_k hc
    generalize a.toNatClampNeg = one at a1 a2 h h0
    generalize b.toNatClampNeg = other at b1 b2 h h0
    generalize c.toNatClampNeg = part at c1 c2 h h0
    subst a2 b2 c2
    by_cases e : one = other
    · rw [if_pos e] at h0
      exact iq (fun z => z (by rw [e])) h0
    · simp only [if_neg e] at h
      clear h0
      refine ip (nI_ne (by omega) (by omega) e) (y_whenOf d hV a1 b1 fun m1 hs1 => ⟨_, rfl, ?_⟩)
      exact y_mjA d hV a1 b1 c1 h (vN V) 0 m1 (Nat.zero_add _) hs1 _ (by repeat (first | exact zle_nil | apply zle_same | apply zle_new _ rfl))
