/-! the class's hearing: it spreads so (gen26.py) -/
def e5 : Option Nat → Int32
  | none => -5
  | some x => nI x
theorem e5_s {x : Nat} (h : x < 2 ^ 31) : ¬ nI x = -5 := nI_nn h (by decide)
theorem y_soonest (d : Nat) {Q : zQ} {m : zM} {w : Nat → Option Nat} {dn : Nat → Bool} {n : Nat} {D : Int32} (hn : n ≤ 8) (hw : ∀ p, p < n → gI m 94 p = e5 (w p)) (hb : ∀ p x, w p = some x → x < 2 ^ 30) (hD : ∀ p, p < n → bt D p = dn p) (h : Q (some (.int (e5 (nxF w dn n)))) m) :
    ∀ j k, k + j = n → zRun (zCall (d + 2)) 2 (some .int) zc_Hearing_soonest Q 6 [.ref 92, .int (nI n), .int D, .int (e5 (nxF w dn k)), .int (nI k)] [] m
  | 0, k, hk => by
    refine sg_Hearing_soonest_6 (zCall_m _) _ _ _ _ m (ip (nI_le (by omega) (by omega)) ?_)
    rw [show k = n by omega]
    exact h
  | j + 1, k, hk => by
    have IH := y_soonest d hn hw hb hD h j (k + 1) (by omega)
    refine sg_Hearing_soonest_6 (zCall_m _) _ _ _ _ m (iq (nI_ge (by omega) (by omega)) ⟨vp_in_nI (by omega) (by omega), ?_⟩)
    rw [nI_clamp (by omega), hw k (by omega), nI_1]
    unfold nxF at IH
    cases hwk : w k with
    | none =>
      rw [hwk] at IH
      exact ip rfl IH
    | some x =>
      rw [hwk] at IH
      have hx := hb k x hwk
      refine iq (e5_s (by omega)) (y_Box_holds d D (by omega) ⟨_, rfl, ?_⟩)
      rw [hD k (by omega)]
      cases hd : dn k with
      | true =>
        rw [hd] at IH
        exact ip (by decide) IH
      | false =>
        rw [hd] at IH
        refine iq (fun z => z rfl) ?_
        cases hq : nxF w dn k with
        | none =>
          rw [hq] at IH
          exact ip rfl IH
        | some q =>
          rw [hq] at IH
          obtain ⟨q1, _, y, q3, _⟩ := nxF_some hq
          have hy := hb q y q3
          refine iq (e5_s (by omega)) ⟨vp_in_nI (by omega) (by omega), vp_in_nI (by omega) (by omega), ?_⟩
          show @ite Prop (gI m 94 (nI q).toNatClampNeg ≤ gI m 94 k) _ _ _
          rw [nI_clamp (by omega), hw q (by omega), q3, hw k (by omega), hwk]
          show @ite Prop (nI y ≤ nI x) _ _ _
          dsimp only at IH
          rw [q3, Option.getD_some] at IH
          by_cases hlt : x < y
          · rw [if_pos hlt] at IH
            exact iq (nI_ge hlt (by omega)) IH
          · rw [if_neg hlt] at IH
            exact ip (nI_le (by omega) (by omega)) IH
theorem y_soonC (d : Nat) {Q : zQ} {m : zM} {w : Nat → Option Nat} {dn : Nat → Bool} {n : Nat} {D : Int32} (hn : n ≤ 8) (hw : ∀ p, p < n → gI m 94 p = e5 (w p)) (hb : ∀ p x, w p = some x → x < 2 ^ 30) (hD : ∀ p, p < n → bt D p = dn p) (h : Q (some (.int (e5 (nxF w dn n)))) m) : zCall (d + 3) m_Hearing_soonest [.ref 92, .int (nI n), .int D] m Q :=
  en_Hearing_soonest (d + 2) _ _ m (sg_Hearing_soonest_0 (zCall_m _) _ _ m (y_soonest d hn hw hb hD h n 0 (by omega)))
def oL (m : zM) : List Nat → Prop
  | [] => True
  | p :: r => gI m 96 r.length = nI p ∧ oL m r
theorem oL_sm {P : Nat → Prop} {m m' : zM} (hs : zsm P m m') (hp : ¬ P 96) : ∀ {L : List Nat}, oL m L → oL m' L
  | [], _ => trivial
  | _ :: _, h => ⟨((hs 96 hp).1 _).trans h.1, oL_sm hs hp h.2⟩
theorem oL_set {m : zM} {k : Nat} {x : Int32} : ∀ {r : List Nat}, oL m r → r.length ≤ k → oL (sI m 96 k x) r
  | [], _, _ => trivial
  | b :: r, h, hk => by
    rw [List.length_cons] at hk
    exact ⟨by rw [gI_sI, if_neg (fun z => by omega)]; exact h.1, oL_set h.2 (by omega)⟩
/-- what the hearing says of a state -/
def hX (m : zM) (n : Nat) (s : zS) : Prop := (∀ p, p < n → gI m 94 p = e5 (sW s p) ∧ gI m 95 p = e5 (sF s p)) ∧ gI m 92 4 = nI (sO s).length ∧ oL m (sO s)
def hTk (m : zM) (n : Nat) (t : Nat → Nat) : Prop := ∀ p, p < n → gI m 93 p = nI (t p)
def hP (q : Nat) : Prop := q = 94 ∨ q = 95
def hP2 (q : Nat) : Prop := q = 92 ∨ q = 94 ∨ q = 95 ∨ q = 96
theorem z1_or (D : Int32) {p : Nat} (hp : p < 32) {i : Nat} (hi : i < 32) : bt (D ||| z1 p) i = (decide (i = p) || bt D i) := by
  rw [b_or, b_z1 p hp i hi, Bool.or_comm]
theorem rch_bt (V : zV) (p : Nat) {o : Nat} (ho : o < 32) : bt (vT V p &&& (vD V ^^^ (-1))) o = rch V p o := by
  unfold rch
  rw [b_and, b_xor, b_m1 o ho, Bool.xor_true]
theorem y_measure_21 (d : Nat) {Q : zQ} {m : zM} {V : zV} (hV : vX m 21 V) (h : ∀ m', zsm (fun q => q = 26 ∨ q = 93) m m' → hTk m' (vN V) (vTakes V) → Q none m') :
    ∀ j k m', k + j = vN V → zsm (fun q => q = 26 ∨ q = 93) m m' → hTk m' k (vTakes V) → zRun (zCall (d + 4)) 2 none zc_Hearing_measure Q 2 [.ref 92, .ref 21, .int (nI k)] [] m'
  | 0, k, m', hk, hs, ht => by
    have hV' := vX_sm hV hs (fun q a b z => by omega) (fun q a b z => by omega)
    have h8 := hV.1.1
    refine sg_Hearing_measure_21_2 (zCall_m _) _ m' ?_
    rw [hV'.2.1]
    refine ip (nI_le (by omega) (by omega)) (h m' hs ?_)
    rw [show k = vN V by omega] at ht
    exact ht
  | j + 1, k, m', hk, hs, ht => by
    have hV' := vX_sm hV hs (fun q a b z => by omega) (fun q a b z => by omega)
    have h8 := hV.1.1
    refine sg_Hearing_measure_21_2 (zCall_m _) _ m' ?_
    rw [hV'.2.1]
    refine iq (nI_ge (by omega) (by omega)) (y_takes_21 d hV' (by omega) fun m2 hs2 => ⟨_, rfl, vp_in_nI (by omega) (by omega), ?_⟩)
    rw [nI_clamp (by omega), nI_1]
    refine y_measure_21 d hV h j (k + 1) _ (by omega) (zsm_sI (zsm_tr hs (zsm_mo (fun q z => Or.inl z) hs2)) (Or.inr rfl) _) (fun p hp => ?_)
    rw [gI_sI]
    by_cases e : p = k
    · subst e
      rw [if_pos ⟨rfl, rfl⟩]
    · rw [if_neg (fun z => e z.2), (hs2 93 (by decide)).1]
      exact ht p (by omega)
theorem y_measureC_21 (d : Nat) {Q : zQ} {m : zM} {V : zV} (hV : vX m 21 V) (h : ∀ m', zsm (fun q => q = 26 ∨ q = 93) m m' → hTk m' (vN V) (vTakes V) → Q none m') : zCall (d + 5) m_Hearing_measure [.ref 92, .ref 21] m Q :=
  en_Hearing_measure_21 (d + 4) m (sg_Hearing_measure_21_0 (zCall_m _) m (y_measure_21 d hV h (vN V) 0 m (by omega) (zsm_refl m) (fun p hp => absurd hp (Nat.not_lt_zero _))))
theorem y_passOn_21 (d : Nat) {Q : zQ} {m : zM} {V : zV} (hV : vX m 21 V) {t : Nat → Nat} {w f : Nat → Option Nat} {p : Nat} (hp : p < vN V) (ht : thn t w p < 2 ^ 30) (hb : ∀ p x, w p = some x → x < 2 ^ 30) (hf : ∀ p x, f p = some x → x < 2 ^ 30)
    (h : ∀ m', zsm hP m m' → (∀ q, q < vN V → gI m' 94 q = e5 (pw V t w f p q) ∧ gI m' 95 q = e5 (pf V t w f p q)) → Q none m') :
    ∀ j k m' , k + j = vN V → zsm hP m m' → (∀ q, q < vN V → gI m' 94 q = e5 (if q < k then pw V t w f p q else w q) ∧ gI m' 95 q = e5 (if q < k then pf V t w f p q else f q)) →
    ∀ u, zle [.ref 92, .ref 21, .int (nI p), .int (nI (thn t w p)), .int (vT V p &&& (vD V ^^^ (-1))), .int (nI k), .retAddr 0] u → zRun (zCall (d + 2)) 2 none zc_Hearing_passOn Q 32 u [] m'
  | 0, k, m', hk, hs, hm, u, hu => by
    have hV' := vX_sm hV hs (fun q a b z => by unfold hP at z; omega) (fun q a b z => by unfold hP at z; omega)
    have h8 := hV.1.1
    refine zRun_le (zCall_m _) hu (sg_Hearing_passOn_21_32 (zCall_m _) _ _ _ _ m' ?_)
    rw [hV'.2.1]
    refine ip (nI_le (by omega) (by omega)) (h m' hs fun q hq => ?_)
    have := hm q hq
    rw [if_pos (by omega), if_pos (by omega)] at this
    exact this
  | j + 1, k, m', hk, hs, hm, u, hu => by
    have hV' := vX_sm hV hs (fun q a b z => by unfold hP at z; omega) (fun q a b z => by unfold hP at z; omega)
    have h8 := hV.1.1
    have hkn : k < vN V := by omega
    have IH := y_passOn_21 d hV hp ht hb hf h j (k + 1)
    have hm1 : gI m' 94 k = e5 (w k) := by
      have := (hm k hkn).1
      rw [if_neg (by omega)] at this
      exact this
    have hm2 : gI m' 95 k = e5 (f k) := by
      have := (hm k hkn).2
      rw [if_neg (by omega)] at this
      exact this
    have hin : vp_in (nI k) 8 := vp_in_nI (by omega) (by omega)
    have hcl : (nI k).toNatClampNeg = k := nI_clamp (by omega)
    -- where nothing is done
    have no : upc V t w f p k = false → ∀ u, zle [.ref 92, .ref 21, .int (nI p), .int (nI (thn t w p)), .int (vT V p &&& (vD V ^^^ (-1))), .int (nI (k + 1)), .retAddr 0] u → zRun (zCall (d + 2)) 2 none zc_Hearing_passOn Q 32 u [] m' := fun hu => IH m' (by omega) hs fun q hq => by
      by_cases e : q = k
      · subst e
        rw [if_pos (by omega), if_pos (by omega), pw, pf, if_neg (by rw [hu]; decide), if_neg (by rw [hu]; decide)]
        exact ⟨hm1, hm2⟩
      · have := hm q hq
        by_cases l : q < k
        · rw [if_pos l, if_pos l] at this
          rw [if_pos (by omega), if_pos (by omega)]
          exact this
        · rw [if_neg l, if_neg l] at this
          rw [if_neg (by omega), if_neg (by omega)]
          exact this
    -- where it hears it
    have yes : upc V t w f p k = true → ∀ u, zle [.ref 92, .ref 21, .int (nI p), .int (nI (thn t w p)), .int (vT V p &&& (vD V ^^^ (-1))), .int (nI (k + 1)), .retAddr 0] u → zRun (zCall (d + 2)) 2 none zc_Hearing_passOn Q 32 u [] (sI (sI m' 94 k (nI (thn t w p))) 95 k (nI p)) := fun hu => IH _ (by omega) (zsm_sI (zsm_sI hs (Or.inl rfl) _) (Or.inr rfl) _) fun q hq => by
      simp only [gI_sI, show (94 : Nat) = 95 ↔ False by decide, show (95 : Nat) = 94 ↔ False by decide, false_and, if_false, true_and]
      by_cases e : q = k
      · subst e
        rw [if_pos rfl, if_pos rfl, if_pos (by omega), if_pos (by omega), pw, pf, if_pos hu, if_pos hu]
        exact ⟨rfl, rfl⟩
      · have := hm q hq
        rw [if_neg e, if_neg e]
        by_cases l : q < k
        · rw [if_pos l, if_pos l] at this
          rw [if_pos (by omega), if_pos (by omega)]
          exact this
        · rw [if_neg l, if_neg l] at this
          rw [if_neg (by omega), if_neg (by omega)]
          exact this
    refine zRun_le (zCall_m _) hu (sg_Hearing_passOn_21_32 (zCall_m _) _ _ _ _ m' ?_)
    rw [hV'.2.1]
    refine iq (nI_ge (by omega) (by omega)) (y_Box_holds d _ (by omega) ⟨_, rfl, ?_⟩)
    rw [rch_bt V p (by omega), nI_1, hcl, hm1, hm2]
    unfold upc at no yes
    rw [decide_eq_true hkn, Bool.true_and] at no yes
    cases hr : rch V p k with
    | false =>
      rw [hr] at no
      exact iq (fun z => z rfl) (no rfl _ (zle_refl _))
    | true =>
      rw [hr, Bool.true_and] at no yes
      refine ip (by decide) ⟨hin, ?_⟩
      cases hw : w k with
      | none =>
        rw [hw] at yes
        exact ip rfl ⟨hin, hin, yes rfl _ (by repeat (first | exact zle_nil | apply zle_same | apply zle_new _ rfl))⟩
      | some x =>
        have hx := hb k x hw
        rw [hw] at no yes
        dsimp only at no yes
        refine iq (e5_s (by omega)) ⟨hin, ?_⟩
        show @ite Prop (nI x ≤ nI (thn t w p)) _ _ _
        by_cases l1 : thn t w p < x
        · rw [decide_eq_true l1, Bool.true_or] at yes
          exact iq (nI_ge l1 (by omega)) ⟨hin, hin, yes rfl _ (by repeat (first | exact zle_nil | apply zle_same | apply zle_new _ rfl))⟩
        · rw [decide_eq_false l1, Bool.false_or] at no yes
          refine ip (nI_le (by omega) (by omega)) ⟨hin, ?_⟩
          show @ite Prop (¬ nI (thn t w p) = nI x) _ _ _
          by_cases l2 : thn t w p = x
          · rw [decide_eq_true l2, Bool.true_and] at no yes
            refine iq (fun z => z (by rw [l2])) ⟨hin, ?_⟩
            cases hfk : f k with
            | none =>
              rw [hfk] at no
              refine ip ?_ (no rfl _ (by repeat (first | exact zle_nil | apply zle_same | apply zle_new _ rfl)))
              show (-5 : Int32) ≤ nI p
              rw [Int32.le_iff_toInt_le, nI_toInt (by omega)]
              have : (-5 : Int32).toInt = -5 := by decide
              omega
            | some q =>
              have hq := hf k q hfk
              rw [hfk] at no yes
              dsimp only at no yes
              show @ite Prop (nI q ≤ nI p) _ _ _
              by_cases l3 : p < q
              · rw [decide_eq_true l3] at yes
                exact iq (nI_ge l3 (by omega)) ⟨hin, hin, yes rfl _ (by repeat (first | exact zle_nil | apply zle_same | apply zle_new _ rfl))⟩
              · rw [decide_eq_false l3] at no
                exact ip (nI_le (by omega) (by omega)) (no rfl _ (by repeat (first | exact zle_nil | apply zle_same | apply zle_new _ rfl)))
          · rw [decide_eq_false l2, Bool.false_and] at no
            exact ip (nI_ne (by omega) (by omega) l2) (no rfl _ (by repeat (first | exact zle_nil | apply zle_same | apply zle_new _ rfl)))
theorem y_passOnC_21 (d : Nat) {Q : zQ} {m : zM} {V : zV} (hV : vX m 21 V) {t : Nat → Nat} (htk : hTk m (vN V) t) {w f : Nat → Option Nat} {p : Nat} (hp : p < vN V) (ht : thn t w p < 2 ^ 30) (hb : ∀ p x, w p = some x → x < 2 ^ 30) (hf : ∀ p x, f p = some x → x < 2 ^ 30) {x : Nat} (hx : w p = some x)
    (hm : ∀ q, q < vN V → gI m 94 q = e5 (w q) ∧ gI m 95 q = e5 (f q))
    (h : ∀ m', zsm hP m m' → (∀ q, q < vN V → gI m' 94 q = e5 (pw V t w f p q) ∧ gI m' 95 q = e5 (pf V t w f p q)) → Q none m') : zCall (d + 3) m_Hearing_passOn [.ref 92, .ref 21, .int (nI p)] m Q := by
  have h8 := hV.1.1
  have hin : vp_in (nI p) 8 := vp_in_nI (by omega) (by omega)
  have a3 : gI m 24 p = vT V p := (hV.2.2.1 p hp).2.2
  refine en_Hearing_passOn_21 (d + 2) _ m (sg_Hearing_passOn_21_0 (zCall_m _) _ m ⟨hin, hin, hin, ?_⟩)
  rw [nI_clamp (by omega), (hm p hp).1, htk p hp, a3, hV.2.2.2.2.1]
  have e : e5 (w p) + nI (t p) = nI (thn t w p) := by
    unfold thn
    rw [hx]
    exact nI_add x (t p)
  rw [e]
  exact y_passOn_21 d hV hp ht hb hf h (vN V) 0 m (by omega) (zsm_refl m) (fun q hq => by rw [if_neg (Nat.not_lt_zero _), if_neg (Nat.not_lt_zero _)]; exact hm q hq) _ (zle_refl _)
theorem y_measure_45 (d : Nat) {Q : zQ} {m : zM} {V : zV} (hV : vX m 45 V) (h : ∀ m', zsm (fun q => q = 50 ∨ q = 93) m m' → hTk m' (vN V) (vTakes V) → Q none m') :
    ∀ j k m', k + j = vN V → zsm (fun q => q = 50 ∨ q = 93) m m' → hTk m' k (vTakes V) → zRun (zCall (d + 4)) 2 none zc_Hearing_measure Q 2 [.ref 92, .ref 45, .int (nI k)] [] m'
  | 0, k, m', hk, hs, ht => by
    have hV' := vX_sm hV hs (fun q a b z => by omega) (fun q a b z => by omega)
    have h8 := hV.1.1
    refine sg_Hearing_measure_45_2 (zCall_m _) _ m' ?_
    rw [hV'.2.1]
    refine ip (nI_le (by omega) (by omega)) (h m' hs ?_)
    rw [show k = vN V by omega] at ht
    exact ht
  | j + 1, k, m', hk, hs, ht => by
    have hV' := vX_sm hV hs (fun q a b z => by omega) (fun q a b z => by omega)
    have h8 := hV.1.1
    refine sg_Hearing_measure_45_2 (zCall_m _) _ m' ?_
    rw [hV'.2.1]
    refine iq (nI_ge (by omega) (by omega)) (y_takes_45 d hV' (by omega) fun m2 hs2 => ⟨_, rfl, vp_in_nI (by omega) (by omega), ?_⟩)
    rw [nI_clamp (by omega), nI_1]
    refine y_measure_45 d hV h j (k + 1) _ (by omega) (zsm_sI (zsm_tr hs (zsm_mo (fun q z => Or.inl z) hs2)) (Or.inr rfl) _) (fun p hp => ?_)
    rw [gI_sI]
    by_cases e : p = k
    · subst e
      rw [if_pos ⟨rfl, rfl⟩]
    · rw [if_neg (fun z => e z.2), (hs2 93 (by decide)).1]
      exact ht p (by omega)
theorem y_measureC_45 (d : Nat) {Q : zQ} {m : zM} {V : zV} (hV : vX m 45 V) (h : ∀ m', zsm (fun q => q = 50 ∨ q = 93) m m' → hTk m' (vN V) (vTakes V) → Q none m') : zCall (d + 5) m_Hearing_measure [.ref 92, .ref 45] m Q :=
  en_Hearing_measure_45 (d + 4) m (sg_Hearing_measure_45_0 (zCall_m _) m (y_measure_45 d hV h (vN V) 0 m (by omega) (zsm_refl m) (fun p hp => absurd hp (Nat.not_lt_zero _))))
theorem y_passOn_45 (d : Nat) {Q : zQ} {m : zM} {V : zV} (hV : vX m 45 V) {t : Nat → Nat} {w f : Nat → Option Nat} {p : Nat} (hp : p < vN V) (ht : thn t w p < 2 ^ 30) (hb : ∀ p x, w p = some x → x < 2 ^ 30) (hf : ∀ p x, f p = some x → x < 2 ^ 30)
    (h : ∀ m', zsm hP m m' → (∀ q, q < vN V → gI m' 94 q = e5 (pw V t w f p q) ∧ gI m' 95 q = e5 (pf V t w f p q)) → Q none m') :
    ∀ j k m' , k + j = vN V → zsm hP m m' → (∀ q, q < vN V → gI m' 94 q = e5 (if q < k then pw V t w f p q else w q) ∧ gI m' 95 q = e5 (if q < k then pf V t w f p q else f q)) →
    ∀ u, zle [.ref 92, .ref 45, .int (nI p), .int (nI (thn t w p)), .int (vT V p &&& (vD V ^^^ (-1))), .int (nI k), .retAddr 0] u → zRun (zCall (d + 2)) 2 none zc_Hearing_passOn Q 32 u [] m'
  | 0, k, m', hk, hs, hm, u, hu => by
    have hV' := vX_sm hV hs (fun q a b z => by unfold hP at z; omega) (fun q a b z => by unfold hP at z; omega)
    have h8 := hV.1.1
    refine zRun_le (zCall_m _) hu (sg_Hearing_passOn_45_32 (zCall_m _) _ _ _ _ m' ?_)
    rw [hV'.2.1]
    refine ip (nI_le (by omega) (by omega)) (h m' hs fun q hq => ?_)
    have := hm q hq
    rw [if_pos (by omega), if_pos (by omega)] at this
    exact this
  | j + 1, k, m', hk, hs, hm, u, hu => by
    have hV' := vX_sm hV hs (fun q a b z => by unfold hP at z; omega) (fun q a b z => by unfold hP at z; omega)
    have h8 := hV.1.1
    have hkn : k < vN V := by omega
    have IH := y_passOn_45 d hV hp ht hb hf h j (k + 1)
    have hm1 : gI m' 94 k = e5 (w k) := by
      have := (hm k hkn).1
      rw [if_neg (by omega)] at this
      exact this
    have hm2 : gI m' 95 k = e5 (f k) := by
      have := (hm k hkn).2
      rw [if_neg (by omega)] at this
      exact this
    have hin : vp_in (nI k) 8 := vp_in_nI (by omega) (by omega)
    have hcl : (nI k).toNatClampNeg = k := nI_clamp (by omega)
    -- where nothing is done
    have no : upc V t w f p k = false → ∀ u, zle [.ref 92, .ref 45, .int (nI p), .int (nI (thn t w p)), .int (vT V p &&& (vD V ^^^ (-1))), .int (nI (k + 1)), .retAddr 0] u → zRun (zCall (d + 2)) 2 none zc_Hearing_passOn Q 32 u [] m' := fun hu => IH m' (by omega) hs fun q hq => by
      by_cases e : q = k
      · subst e
        rw [if_pos (by omega), if_pos (by omega), pw, pf, if_neg (by rw [hu]; decide), if_neg (by rw [hu]; decide)]
        exact ⟨hm1, hm2⟩
      · have := hm q hq
        by_cases l : q < k
        · rw [if_pos l, if_pos l] at this
          rw [if_pos (by omega), if_pos (by omega)]
          exact this
        · rw [if_neg l, if_neg l] at this
          rw [if_neg (by omega), if_neg (by omega)]
          exact this
    -- where it hears it
    have yes : upc V t w f p k = true → ∀ u, zle [.ref 92, .ref 45, .int (nI p), .int (nI (thn t w p)), .int (vT V p &&& (vD V ^^^ (-1))), .int (nI (k + 1)), .retAddr 0] u → zRun (zCall (d + 2)) 2 none zc_Hearing_passOn Q 32 u [] (sI (sI m' 94 k (nI (thn t w p))) 95 k (nI p)) := fun hu => IH _ (by omega) (zsm_sI (zsm_sI hs (Or.inl rfl) _) (Or.inr rfl) _) fun q hq => by
      simp only [gI_sI, show (94 : Nat) = 95 ↔ False by decide, show (95 : Nat) = 94 ↔ False by decide, false_and, if_false, true_and]
      by_cases e : q = k
      · subst e
        rw [if_pos rfl, if_pos rfl, if_pos (by omega), if_pos (by omega), pw, pf, if_pos hu, if_pos hu]
        exact ⟨rfl, rfl⟩
      · have := hm q hq
        rw [if_neg e, if_neg e]
        by_cases l : q < k
        · rw [if_pos l, if_pos l] at this
          rw [if_pos (by omega), if_pos (by omega)]
          exact this
        · rw [if_neg l, if_neg l] at this
          rw [if_neg (by omega), if_neg (by omega)]
          exact this
    refine zRun_le (zCall_m _) hu (sg_Hearing_passOn_45_32 (zCall_m _) _ _ _ _ m' ?_)
    rw [hV'.2.1]
    refine iq (nI_ge (by omega) (by omega)) (y_Box_holds d _ (by omega) ⟨_, rfl, ?_⟩)
    rw [rch_bt V p (by omega), nI_1, hcl, hm1, hm2]
    unfold upc at no yes
    rw [decide_eq_true hkn, Bool.true_and] at no yes
    cases hr : rch V p k with
    | false =>
      rw [hr] at no
      exact iq (fun z => z rfl) (no rfl _ (zle_refl _))
    | true =>
      rw [hr, Bool.true_and] at no yes
      refine ip (by decide) ⟨hin, ?_⟩
      cases hw : w k with
      | none =>
        rw [hw] at yes
        exact ip rfl ⟨hin, hin, yes rfl _ (by repeat (first | exact zle_nil | apply zle_same | apply zle_new _ rfl))⟩
      | some x =>
        have hx := hb k x hw
        rw [hw] at no yes
        dsimp only at no yes
        refine iq (e5_s (by omega)) ⟨hin, ?_⟩
        show @ite Prop (nI x ≤ nI (thn t w p)) _ _ _
        by_cases l1 : thn t w p < x
        · rw [decide_eq_true l1, Bool.true_or] at yes
          exact iq (nI_ge l1 (by omega)) ⟨hin, hin, yes rfl _ (by repeat (first | exact zle_nil | apply zle_same | apply zle_new _ rfl))⟩
        · rw [decide_eq_false l1, Bool.false_or] at no yes
          refine ip (nI_le (by omega) (by omega)) ⟨hin, ?_⟩
          show @ite Prop (¬ nI (thn t w p) = nI x) _ _ _
          by_cases l2 : thn t w p = x
          · rw [decide_eq_true l2, Bool.true_and] at no yes
            refine iq (fun z => z (by rw [l2])) ⟨hin, ?_⟩
            cases hfk : f k with
            | none =>
              rw [hfk] at no
              refine ip ?_ (no rfl _ (by repeat (first | exact zle_nil | apply zle_same | apply zle_new _ rfl)))
              show (-5 : Int32) ≤ nI p
              rw [Int32.le_iff_toInt_le, nI_toInt (by omega)]
              have : (-5 : Int32).toInt = -5 := by decide
              omega
            | some q =>
              have hq := hf k q hfk
              rw [hfk] at no yes
              dsimp only at no yes
              show @ite Prop (nI q ≤ nI p) _ _ _
              by_cases l3 : p < q
              · rw [decide_eq_true l3] at yes
                exact iq (nI_ge l3 (by omega)) ⟨hin, hin, yes rfl _ (by repeat (first | exact zle_nil | apply zle_same | apply zle_new _ rfl))⟩
              · rw [decide_eq_false l3] at no
                exact ip (nI_le (by omega) (by omega)) (no rfl _ (by repeat (first | exact zle_nil | apply zle_same | apply zle_new _ rfl)))
          · rw [decide_eq_false l2, Bool.false_and] at no
            exact ip (nI_ne (by omega) (by omega) l2) (no rfl _ (by repeat (first | exact zle_nil | apply zle_same | apply zle_new _ rfl)))
theorem y_passOnC_45 (d : Nat) {Q : zQ} {m : zM} {V : zV} (hV : vX m 45 V) {t : Nat → Nat} (htk : hTk m (vN V) t) {w f : Nat → Option Nat} {p : Nat} (hp : p < vN V) (ht : thn t w p < 2 ^ 30) (hb : ∀ p x, w p = some x → x < 2 ^ 30) (hf : ∀ p x, f p = some x → x < 2 ^ 30) {x : Nat} (hx : w p = some x)
    (hm : ∀ q, q < vN V → gI m 94 q = e5 (w q) ∧ gI m 95 q = e5 (f q))
    (h : ∀ m', zsm hP m m' → (∀ q, q < vN V → gI m' 94 q = e5 (pw V t w f p q) ∧ gI m' 95 q = e5 (pf V t w f p q)) → Q none m') : zCall (d + 3) m_Hearing_passOn [.ref 92, .ref 45, .int (nI p)] m Q := by
  have h8 := hV.1.1
  have hin : vp_in (nI p) 8 := vp_in_nI (by omega) (by omega)
  have a3 : gI m 48 p = vT V p := (hV.2.2.1 p hp).2.2
  refine en_Hearing_passOn_45 (d + 2) _ m (sg_Hearing_passOn_45_0 (zCall_m _) _ m ⟨hin, hin, hin, ?_⟩)
  rw [nI_clamp (by omega), (hm p hp).1, htk p hp, a3, hV.2.2.2.2.1]
  have e : e5 (w p) + nI (t p) = nI (thn t w p) := by
    unfold thn
    rw [hx]
    exact nI_add x (t p)
  rw [e]
  exact y_passOn_45 d hV hp ht hb hf h (vN V) 0 m (by omega) (zsm_refl m) (fun q hq => by rw [if_neg (Nat.not_lt_zero _), if_neg (Nat.not_lt_zero _)]; exact hm q hq) _ (zle_refl _)
