/-! who is reached at all -/
def sK (V : zV) (b : Nat → Bool) (s : zS) : Prop := (∀ p o, sD s p = true → o < vN V → rch V p o = true → sW s o ≠ none) ∧ (∀ p, sW s p ≠ none → sF s p = none → b p = true) ∧ (∀ p, p < vN V → b p = true → bt (vD V) p = false → sW s p ≠ none)
theorem sK_0 (V : zV) (b : Nat → Bool) : sK V b (st0 V b) := by
  refine ⟨fun p o h => (by cases h), fun p h _ => ?_, fun p hp hb hd => ?_⟩
  · have h : (if (decide (p < vN V) && (b p && !bt (vD V) p)) = true then some 0 else none) ≠ none := h
    split at h
    · rename_i hc
      simp only [Bool.and_eq_true] at hc
      exact hc.2.1
    · exact absurd rfl h
  · show (if (decide (p < vN V) && (b p && !bt (vD V) p)) = true then some 0 else none) ≠ none
    rw [decide_eq_true hp, hb, hd]
    simp
theorem pw_some {V : zV} {t : Nat → Nat} {w f : Nat → Option Nat} {p o : Nat} (h : w o ≠ none) : pw V t w f p o ≠ none := by
  unfold pw
  split
  · simp
  · exact h
theorem sK_ps {V : zV} {t : Nat → Nat} {b : Nat → Bool} {s : zS} (h : sK V b s) (p : Nat) : sK V b (psS V t s p) := by
  obtain ⟨k1, k2, k3⟩ := h
  refine ⟨fun q o hd ho hr => ?_, fun q hq hf => ?_, fun q hq hb hd => pw_some (k3 q hq hb hd)⟩
  · show pw V t (sW s) (sF s) p o ≠ none
    have hd : (decide (q = p) || sD s q) = true := hd
    rw [Bool.or_eq_true, decide_eq_true_eq] at hd
    rcases hd with rfl | hd
    · cases hw : sW s o with
      | some x => exact pw_some (by rw [hw]; simp)
      | none =>
        unfold pw upc
        rw [decide_eq_true ho, hr, hw]
        simp
    · exact pw_some (k1 q o hd ho hr)
  · have hq : pw V t (sW s) (sF s) p q ≠ none := hq
    have hf : pf V t (sW s) (sF s) p q = none := hf
    unfold pw at hq
    unfold pf at hf
    split at hf
    · cases hf
    · rename_i hc
      rw [if_neg hc] at hq
      exact k2 q hq hf
theorem sK_rn {V : zV} {t : Nat → Nat} {b : Nat → Bool} : ∀ k s, sK V b s → sK V b (rnS V t k s)
  | 0, _, h => h
  | k + 1, s, h => by
    unfold rnS
    cases nxF (sW s) (sD s) (vN V) with
    | none => exact h
    | some p => exact sK_rn k _ (sK_ps h p)
theorem sT_K (V : zV) (b : Nat → Bool) : sK V b (sT V b) := sK_rn _ _ (sK_0 V b)
/-- a hedge with other dead -/
def vDo (V : zV) (x : Int32) : zV := (vN V, vK V, vV V, vT V, vR V, x, vHr V, vG V)
theorem vDo_w {V : zV} (hw : vWf V) {x : Int32} (hx : ybl x (vN V)) : vWf (vDo V x) := ⟨hw.1, hw.2.1, hw.2.2.1, hx, hw.2.2.2.2.1, hw.2.2.2.2.2⟩
theorem ybl_or {x y : Int32} {n : Nat} (hx : ybl x n) (hy : ybl y n) : ybl (x ||| y) n := fun i hi h => by
  rw [b_or, Bool.or_eq_true] at h
  exact h.elim (hx i hi) (hy i hi)
theorem ybl_z1 {p n : Nat} (hp : p < n) (hn : n ≤ 32) : ybl (z1 p) n := fun i hi h => by
  rw [b_z1 p (by omega) i hi] at h
  have := of_decide_eq_true h
  omega
/-- whether the other hears what is said to one -/
def hrd (V : zV) (one other : Nat) : Bool := (sW (s1 V one) other).isSome
theorem hrd_t {V : zV} {one p : Nat} : hrd V one p = true ↔ sW (s1 V one) p ≠ none := by
  unfold hrd
  cases sW (s1 V one) p <;> simp
theorem hrd_0 {V : zV} {one : Nat} (h1 : one < vN V) (hd : bt (vD V) one = false) : hrd V one one = true :=
  hrd_t.mpr ((sT_K V _).2.2 one h1 (decide_eq_true rfl) hd)
theorem hrd_s {V : zV} (hw : vWf V) {one p o : Nat} (h : hrd V one p = true) (ho : o < vN V) (hr : rch V p o = true) : hrd V one o = true :=
  hrd_t.mpr ((sT_K V _).1 p o (((sT_J hw _).2.1 p).mpr (sT_in hw _ (hrd_t.mp h))) ho hr)
theorem tl_big : ∀ (L : List Nat) (n : Nat), L.length ≤ n → tl L n = L
  | [], _, _ => rfl
  | p :: r, n, h => by
    rw [List.length_cons] at h
    unfold tl
    rw [if_neg (by omega)]
/-- one more of the order: it is the start, or its teller is ahead -/
theorem tl_step {f : Nat → Option Nat} : ∀ {L : List Nat} {k : Nat}, oT f L → ∀ p, p ∈ tl L (k + 1) → p ∈ tl L k ∨ ∀ q, f p = some q → q ∈ tl L k
  | [], _, _, p, h => by cases h
  | a :: r, k, ht, p, h => by
    unfold tl at h ⊢
    by_cases l : k + 1 ≤ r.length
    · rw [if_pos l] at h
      rw [if_pos (by omega)]
      exact tl_step ht.2.2 p h
    · rw [if_neg l] at h
      by_cases l2 : k ≤ r.length
      · rw [if_pos l2, tl_big r k (by omega)]
        rcases List.mem_cons.mp h with z | z
        · subst z
          exact Or.inr ht.1
        · exact Or.inl z
      · rw [if_neg l2]
        exact Or.inl h
theorem al_bt (V : zV) (c : Int32) {o : Nat} (ho : o < 32) : bt ((vD V ||| c) ^^^ (-1)) o = !bt (vD (vDo V (vD V ||| c))) o := by
  show bt ((vD V ||| c) ^^^ (-1)) o = !bt (vD V ||| c) o
  rw [b_xor, b_m1 o ho, Bool.xor_true]
theorem y_reach {Q : zQ} {m : zM} {V : zV} (d : Nat) (hV : vX m 21 V) {c : Int32} (hc : ybl c (vN V)) {one other : Nat} (h1 : one < vN V) (h2 : other < vN V) : ∀ (n1 : Nat), (∀ (k : Nat) (R : Int32), k + n1 = vN V → 1 ≤ k → (∀ i, i < 32 → bt R i = true → i < vN V ∧ hrd (vDo V (vD V ||| c)) one i = true) →
      (∀ p, p ∈ tl (sO (s1 (vDo V (vD V ||| c)) one)) k → bt R p = true) → (bt (vD V ||| c) one = false → bt R one = true) →
      Q (some (.int (zb (hrd (vDo V (vD V ||| c)) one other)))) m → ∀ u, zle [.ref 90, .int (nI one), .int (nI other), .int c, .int ((vD V ||| c) ^^^ (-1)), .int R, .int (nI k), .retAddr 0] u → zRun (zCall (d + 2)) 4 (some .boolean) zc_Qu_reaches Q 25 u [] m)
  | 0 => by
    intro k R hk hk1 hR hL h0 h u hu
    have h8 := hV.1.1
    have hw' := vDo_w hV.1 (ybl_or hV.1.2.2.2.1 hc)
    refine zRun_le (zCall_m _) hu (sg_Qu_reaches_25 (zCall_m _) _ _ _ _ _ _ m ?_)
    rw [hV.2.1]
    refine ip (nI_le (by omega) (by omega)) (y_Box_holds d _ (by omega) ⟨_, rfl, zb_1 _, ?_⟩)
    have hl := (sT_J hw' (fun p => decide (p = one))).2.2.2.2.2.2.1
    have hcn := cnt_le (sD (sT (vDo V (vD V ||| c)) fun p => decide (p = one))) (vN V)
    have hl' : (sO (s1 (vDo V (vD V ||| c)) one)).length ≤ k := by
      have : (sO (s1 (vDo V (vD V ||| c)) one)).length = cnt (sD (sT (vDo V (vD V ||| c)) fun p => decide (p = one))) (vN V) := hl
      omega
    rw [tl_big _ _ hl'] at hL
    have e : bt R other = hrd (vDo V (vD V ||| c)) one other := by
      cases hb : bt R other with
      | true => exact (hR other (by omega) hb).2.symm
      | false =>
        cases hh : hrd (vDo V (vD V ||| c)) one other with
        | false => rfl
        | true =>
          rw [hL other (sT_in hw' _ (hrd_t.mp hh))] at hb
          cases hb
    rw [e]
    exact h
  | n1 + 1 => by
    intro k R hk hk1 hR hL h0 h u hu
    have h8 := hV.1.1
    have hw' := vDo_w hV.1 (ybl_or hV.1.2.2.2.1 hc)
    refine zRun_le (zCall_m _) hu (sg_Qu_reaches_25 (zCall_m _) _ _ _ _ _ _ m ?_)
    rw [hV.2.1]
    refine iq (nI_ge (by omega) (by omega)) ?_
    -- the round
    have inner : ∀ j v R', v + j = vN V → (∀ i, i < 32 → bt R' i = true → i < vN V ∧ hrd (vDo V (vD V ||| c)) one i = true) → (∀ i, i < 32 → bt R i = true → bt R' i = true) →
        (∀ q, q < v → bt R q = true → ∀ o, o < 32 → bt (vT V q) o = true → bt (vD V ||| c) o = false → bt R' o = true) →
        zRun (zCall (d + 2)) 4 (some .boolean) zc_Qu_reaches Q 40 [.ref 90, .int (nI one), .int (nI other), .int c, .int ((vD V ||| c) ^^^ (-1)), .int R', .int (nI k), .int (nI v)] [] m := by
      intro j
      induction j with
      | zero =>
        intro v R' hv hR' hsub hdone
        refine sg_Qu_reaches_40 (zCall_m _) _ _ _ _ _ _ _ m ?_
        rw [hV.2.1, nI_1]
        refine ip (nI_le (by omega) (by omega)) ?_
        refine y_reach d hV hc h1 h2 n1 (k + 1) R' (by omega) (by omega) hR' (fun p hp => ?_) (fun hz => hsub one (by omega) (h0 hz)) h _ (by repeat (first | exact zle_nil | apply zle_same | apply zle_new _ rfl))
        have hmem : ∀ (L : List Nat) (n p : Nat), p ∈ tl L n → p ∈ L := by
          intro L
          induction L with
          | nil => intro n p h; exact h
          | cons a r ih =>
            intro n p h
            unfold tl at h
            split at h
            · exact List.mem_cons_of_mem _ (ih n p h)
            · exact h
        have hpO := hmem _ _ _ hp
        have hpn : p < vN V := (sT_out hw' _ hpO).1
        obtain ⟨y, hy⟩ := (sT_out hw' _ hpO).2
        rcases tl_step (sT_T hw' (fun p => decide (p = one))) p hp with z | z
        · exact hsub p (by omega) (hL p z)
        · cases hf : sF (s1 (vDo V (vD V ||| c)) one) p with
          | none =>
            have hb := (sT_K (vDo V (vD V ||| c)) (fun p => decide (p = one))).2.1 p (by rw [hy]; simp) hf
            have e : p = one := of_decide_eq_true hb
            subst e
            have hdd := ((sT_J hw' (fun q => decide (q = p))).1 p (by rw [hy]; simp)).2
            exact hsub p (by omega) (h0 hdd)
          | some q =>
            have hq := z q hf
            have hqn : q < vN V := (sT_out hw' _ (hmem _ _ _ hq)).1
            have hdd := ((sT_J hw' (fun q => decide (q = one))).1 p (by rw [hy]; simp)).2
            have htt := (sT_J hw' (fun q => decide (q = one))).2.2.2.2.2.2.2 p q hf
            exact hdone q (by omega) (hL q hq) p (by omega) htt hdd
      | succ j ih =>
        intro v R' hv hR' hsub hdone
        refine sg_Qu_reaches_40 (zCall_m _) _ _ _ _ _ _ _ m ?_
        rw [hV.2.1, nI_1 v]
        refine iq (nI_ge (by omega) (by omega)) (y_Box_holds d _ (by omega) ⟨_, rfl, ?_⟩)
        rw [nI_clamp (by omega), (hV.2.2.1 v (by omega)).2.2]
        refine zb_c (fun hb => ?_) (fun hb => ⟨vp_in_nI (by omega) (by omega), ?_⟩)
        · refine ih (v + 1) R' (by omega) hR' hsub (fun q hq hqR o ho ht hd => ?_)
          rcases Nat.lt_succ_iff_lt_or_eq.mp hq with z | rfl
          · exact hdone q z hqR o ho ht hd
          · rw [hsub q (by omega) hqR] at hb
            cases hb
        · have hnew : ∀ i, i < 32 → bt (R' ||| (vT V v &&& ((vD V ||| c) ^^^ (-1)))) i = (bt R' i || (bt (vT V v) i && !bt (vD V ||| c) i)) := fun i hi => by
            rw [b_or, b_and, b_xor, b_m1 i hi, Bool.xor_true]
          refine ih (v + 1) _ (by omega) (fun i hi hbi => ?_) (fun i hi hbi => ?_) (fun q hq hqR o ho ht hd => ?_)
          · rw [hnew i hi, Bool.or_eq_true] at hbi
            rcases hbi with z | z
            · exact hR' i hi z
            · rw [Bool.and_eq_true] at z
              have hin := (hV.1.2.1 v (by omega)).2.2 i hi z.1
              refine ⟨hin, hrd_s hw' (hR' v (by omega) hb).2 hin ?_⟩
              show (bt (vT V v) i && !bt (vD V ||| c) i) = true
              rw [z.1, z.2]; rfl
          · rw [hnew i hi, hsub i hi hbi]; rfl
          · rw [hnew o ho]
            rcases Nat.lt_succ_iff_lt_or_eq.mp hq with z | rfl
            · rw [hdone q z hqR o ho ht hd]; rfl
            · rw [ht, hd]
              simp
    exact inner (vN V) 0 R (Nat.zero_add _) hR (fun i _ hi => hi) (fun q hq => absurd hq (Nat.not_lt_zero _))
theorem y_reachC {Q : zQ} {m : zM} {V : zV} (d : Nat) (hV : vX m 21 V) {c : Int32} (hc : ybl c (vN V)) {one other : Nat} (h1 : one < vN V) (h2 : other < vN V) (h : Q (some (.int (zb (hrd (vDo V (vD V ||| c)) one other)))) m) : zCall (d + 3) m_Qu_reaches [.ref 90, .int (nI one), .int (nI other), .int c] m Q := by
  have h8 := hV.1.1
  have hw' := vDo_w hV.1 (ybl_or hV.1.2.2.2.1 hc)
  refine en_Qu_reaches (d + 2) _ _ _ m (sg_Qu_reaches_0 (zCall_m _) _ _ _ m (y_Box_bit _ _ ⟨_, rfl, ?_⟩))
  rw [hV.2.2.2.2.1]
  have hb : ∀ i, i < 32 → bt (z1 one &&& ((vD V ||| c) ^^^ (-1))) i = (decide (i = one) && !bt (vD V ||| c) i) := fun i hi => by
    rw [b_and, b_z1 one (by omega) i hi, b_xor, b_m1 i hi, Bool.xor_true]
  refine y_reach d hV hc h1 h2 (vN V - 1) 1 (z1 one &&& ((vD V ||| c) ^^^ (-1))) (by omega) (by omega) (fun i hi hbi => ?_) (fun p hp => ?_) (fun hz => ?_) h _ (zle_refl _)
  · rw [hb i hi, Bool.and_eq_true] at hbi
    have e : i = one := of_decide_eq_true hbi.1
    subst e
    have hd : bt (vD V ||| c) i = false := by
      cases hq : bt (vD V ||| c) i with
      | false => rfl
      | true => rw [hq] at hbi; exact absurd hbi.2 (by decide)
    exact ⟨h1, hrd_0 (V := vDo V (vD V ||| c)) h1 hd⟩
  · have hmem : ∀ (L : List Nat) (n p : Nat), p ∈ tl L n → p ∈ L := by
      intro L
      induction L with
      | nil => intro n p h; exact h
      | cons a r ih =>
        intro n p h
        unfold tl at h
        split at h
        · exact List.mem_cons_of_mem _ (ih n p h)
        · exact h
    have hpO := hmem _ _ _ hp
    obtain ⟨pn, y, hy⟩ := sT_out hw' _ hpO
    rcases tl_step (k := 0) (sT_T hw' (fun p => decide (p = one))) p hp with z | z
    · rw [tl_0] at z; cases z
    · cases hf : sF (s1 (vDo V (vD V ||| c)) one) p with
      | some q =>
        have := z q hf
        rw [tl_0] at this; cases this
      | none =>
        have hbb := (sT_K (vDo V (vD V ||| c)) (fun p => decide (p = one))).2.1 p (by rw [hy]; simp) hf
        have e : p = one := of_decide_eq_true hbb
        have hdd : bt (vD V ||| c) p = false := ((sT_J hw' (fun q => decide (q = one))).1 p (by rw [hy]; simp)).2
        have pn : p < vN V := pn
        rw [hb p (by omega), decide_eq_true e, hdd]; rfl
  · rw [hb one (by omega), decide_eq_true rfl, hz]; rfl
