/-! act: the class -/
def bodN : List Nat := [10, 11, 12, 0, 20, 0, 30, 0, 0, 0, 0, 40, 50, 51, 0, 0, 0, 60, 71, 70, 0]
def abvN : List Nat := [0, 0, 0, 0, 1, 2, 3]
theorem bodN_e : ∀ k, k < 21 → bodiesL.getD k 0 = nI (bodN.getD k 0) := by decide +kernel
theorem abvN_e : ∀ k, k < 7 → 0 < k → aboveL.getD k 0 = nI (abvN.getD k 0) ∧ abvN.getD k 0 < 7 := by decide +kernel
theorem bodN_b : ∀ k, k < 21 → bodN.getD k 0 < 100 := by decide +kernel
def bG : Nat → Nat → Nat → Nat
  | 0, _, _ => 0
  | j + 1, x, a => if bodN.getD (3 * x + a) 0 = 0 then (if x = 0 then 0 else bG j (abvN.getD x 0) a) else bodN.getD (3 * x + a) 0
def bF (a x : Nat) : Nat := bG 7 x a
def aLw (m : zM) : Prop := (∀ k, k < 7 → gI m 2 k = aboveL.getD k 0) ∧ (∀ k, k < 21 → gI m 3 k = bodiesL.getD k 0)
theorem y_bodyB (d : Nat) {Q : zQ} {m : zM} (hl : aLw m) (v1 : Int32) {a : Nat} (ha : a < 3) :
    ∀ j s x, s + j = 7 → x < 7 → Q (some (.int (nI (bG j x a)))) m → zRun (zCall d) 0 (some .int) zc_Acts_bodyOf Q 4 [.int (nI a), .int v1, .int (nI x), .int (nI s)] [] m
  | 0, s, x, hs, hx, h => sg_Acts_bodyOf_4 (zCall_m _) _ _ _ _ m (ip (nI_le (a := 7) (by omega) (by omega)) h)
  | j + 1, s, x, hs, hx, h => by
    refine sg_Acts_bodyOf_4 (zCall_m _) _ _ _ _ m (iq (nI_ge (b := 7) (by omega) (by decide)) (iq (nI_pos (by omega)) ?_))
    rw [show (3 : Int32) = nI 3 from rfl, pk_mul, nI_add, nI_clamp (by omega), nI_clamp (by omega), hl.2 _ (by omega), bodN_e _ (by omega), hl.1 x hx, nI_1, Nat.mul_comm x 3]
    have hb := bodN_b (3 * x + a) (by omega)
    have hin : vp_in (nI (3 * x + a)) 21 := vp_in_nI (by omega) (by decide)
    unfold bG at h
    refine ⟨hin, ?_⟩
    by_cases e : bodN.getD (3 * x + a) 0 = 0
    · rw [if_pos e] at h
      refine ip (by rw [e]; rfl) ⟨vp_in_nI hx (by decide), ?_⟩
      by_cases e0 : x = 0
      · rw [if_pos e0] at h
        subst e0
        refine sg_Acts_bodyOf_4 (zCall_m _) _ _ _ _ m ?_
        by_cases e7 : 7 ≤ s + 1
        · exact ip (nI_le (a := 7) e7 (by omega)) h
        · exact iq (nI_ge (b := 7) (by omega) (by decide)) (ip (by decide) h)
      · rw [if_neg e0] at h
        obtain ⟨p1, p2⟩ := abvN_e x hx (by omega)
        rw [p1]
        exact y_bodyB d hl v1 ha j (s + 1) _ (by omega) p2 h
    · rw [if_neg e] at h
      exact iq (nI_ne0 (by omega) (by omega)) ⟨hin, h⟩
theorem y_bodyOf (d : Nat) {Q : zQ} {m : zM} (hl : aLw m) {a x : Nat} (ha : a < 3) (hx : x < 7) (h : Q (some (.int (nI (bF a x)))) m) : zCall (d + 1) m_Acts_bodyOf [.int (nI a), .int (nI x)] m Q :=
  en_Acts_bodyOf d _ _ m (sg_Acts_bodyOf_0 (zCall_m _) _ _ m (y_bodyB d hl _ ha 7 0 x rfl hx h))
theorem bG_b : ∀ j x a, x < 7 → a < 3 → bG j x a < 100
  | 0, _, _, _, _ => by unfold bG; omega
  | j + 1, x, a, hx, ha => by
    have hb := bodN_b (3 * x + a) (by omega)
    unfold bG
    split
    · split
      · omega
      · exact bG_b j _ a (abvN_e x hx (by omega)).2 ha
    · exact hb
/-- the bodies run so far, as the class has them -/
def aX (m : zM) (L : List Nat) : Prop := gI m 98 1 = nI L.length ∧ ∀ j x, L[j]? = some x → j < 20 → gI m 99 j = nI x
def fA (m m' : zM) : Prop := zsm (fun q => q = 98 ∨ q = 99) m m' ∧ ∀ k, k ≠ 1 → gI m' 98 k = gI m 98 k
theorem fA_refl (m : zM) : fA m m := ⟨zsm_refl m, fun _ _ => rfl⟩
theorem fA_tr {m m1 m2 : zM} (h : fA m m1) (h2 : fA m1 m2) : fA m m2 := ⟨zsm_tr h.1 h2.1, fun k hk => (h2.2 k hk).trans (h.2 k hk)⟩
theorem aLw_f {m m' : zM} (h : aLw m) (hf : fA m m') : aLw m' := ⟨fun k hk => ((hf.1 2 (by omega)).1 k).trans (h.1 k hk), fun k hk => ((hf.1 3 (by omega)).1 k).trans (h.2 k hk)⟩
theorem get_snoc {L : List Nat} {b j x : Nat} (h : (L ++ [b])[j]? = some x) : (j < L.length ∧ L[j]? = some x) ∨ (j = L.length ∧ x = b) := by
  rcases Nat.lt_or_ge j L.length with l | l
  · rw [List.getElem?_append_left l] at h
    exact Or.inl ⟨l, h⟩
  · rw [List.getElem?_append_right l] at h
    rcases Nat.eq_or_lt_of_le l with e | e
    · rw [← e, Nat.sub_self] at h
      cases h
      exact Or.inr ⟨e.symm, rfl⟩
    · rw [List.getElem?_eq_none (by simp; omega)] at h
      cases h
theorem len_snoc (L : List Nat) (b : Nat) : (L ++ [b]).length = L.length + 1 := by simp
theorem y_abegin (d : Nat) {Q : zQ} {m : zM} {L : List Nat} (h : aX m L) (hl : L.length < 2 ^ 30) (b : Nat) (K : ∀ m', fA m m' → aX m' (L ++ [b]) → Q none m') : zCall (d + 1) m_Acts_begin [.ref 98, .int (nI b)] m Q := by
  refine en_Acts_begin d _ m (sg_Acts_begin_0 (zCall_m _) _ m ?_)
  simp only [gIs, Nat.reduceEqDiff, false_and, if_false, h.1]
  rw [nI_1]
  by_cases l : 20 ≤ L.length
  · refine ip (nI_le (a := 20) l (by omega)) (K _ ⟨zsm_sI (zsm_refl m) (Or.inl rfl) _, fun k hk => by rw [gIs, if_neg (fun z => hk z.2)]⟩ ⟨?_, fun j x hj hj2 => ?_⟩)
    · rw [gIs, if_pos ⟨rfl, rfl⟩, len_snoc]
    · rw [gIs, if_neg (fun z => by omega)]
      rcases get_snoc hj with ⟨_, z⟩ | ⟨z, _⟩
      · exact h.2 j x z hj2
      · omega
  · refine iq (nI_ge (b := 20) (by omega) (by decide)) ⟨vp_in_nI (by omega) (by decide), ?_⟩
    rw [nI_clamp (by omega)]
    refine K _ ⟨zsm_sI (zsm_sI (zsm_refl m) (Or.inr rfl) _) (Or.inl rfl) _, fun k hk => by rw [gIs, if_neg (fun z => hk z.2), gIs, if_neg (fun z => by omega)]⟩ ⟨?_, fun j x hj hj2 => ?_⟩
    · rw [gIs, if_pos ⟨rfl, rfl⟩, len_snoc]
    · rw [gIs, if_neg (fun z => by omega), gIs]
      rcases get_snoc hj with ⟨y, z⟩ | ⟨y, z⟩
      · rw [if_neg (fun w => by omega)]
        exact h.2 j x z hj2
      · rw [if_pos ⟨rfl, y⟩, z]
/-- the run of a body: what runs, and its answer -/
def rF (K : Nat) (I W : Int32) : Nat → Nat → Nat → Int32 → Option (List Nat × Int32)
  | 0, _, _, _ => none
  | f + 1, a, fr, x =>
    if bF a fr = 10 then some ([10], x + I)
    else if bF a fr = 11 then (rF K I W f 0 K x).map fun r => (11 :: r.1, r.2 - W)
    else if bF a fr = 12 then (rF K I W f 1 K x).map fun r => (12 :: r.1, r.2 * 2)
    else if bF a fr = 20 then (rF K I W f 1 0 x).map fun r => (20 :: r.1, r.2 ^^^ 6)
    else if bF a fr = 30 then (rF K I W f 0 0 (x * 3)).map fun r => (30 :: r.1, r.2)
    else if bF a fr = 40 then (rF K I W f 2 0 x).bind fun r => (rF K I W f 1 K 1).map fun s => (40 :: (r.1 ++ s.1), r.2 + s.2)
    else if bF a fr = 50 then (rF K I W f 0 1 x).map fun r => (50 :: r.1, -r.2)
    else if bF a fr = 51 then (rF K I W f 1 1 (x + 1)).map fun r => (51 :: r.1, r.2)
    else if bF a fr = 60 then (rF K I W f 2 2 (x - I)).map fun r => (60 :: r.1, r.2)
    else if bF a fr = 70 then (rF K I W f 1 3 x).bind fun r => (rF K I W f 0 3 2).map fun s => (70 :: (r.1 ++ s.1), r.2 + s.2)
    else if bF a fr = 71 then (rF K I W f 0 3 x).map fun r => (71 :: r.1, r.2 ^^^ W)
    else none
theorem map_s {α β : Type} {o : Option α} {f : α → β} {y : β} (h : o.map f = some y) : ∃ x, o = some x ∧ y = f x := by
  cases o with
  | none => cases h
  | some x => cases h; exact ⟨x, rfl, rfl⟩
theorem bind_s {α β γ : Type} {o : Option α} {o2 : Option β} {f : α → β → γ} {y : γ} (h : (o.bind fun r => o2.map fun s => f r s) = some y) : ∃ r s, o = some r ∧ o2 = some s ∧ y = f r s := by
  cases o with
  | none => cases h
  | some r =>
    obtain ⟨s, a, b⟩ := map_s (show o2.map (fun s => f r s) = some y from h)
    exact ⟨r, s, rfl, a, b⟩
theorem rF_len {K : Nat} {I W : Int32} : ∀ f a fr x T v, rF K I W f a fr x = some (T, v) → T.length + 1 ≤ 2 ^ f
  | 0, _, _, _, _, _, h => by cases h
  | f + 1, a, fr, x, T, v, h => by
    have ih := rF_len (K := K) (I := I) (W := W) f
    have hp : 2 ^ (f + 1) = 2 * 2 ^ f := by rw [Nat.pow_succ, Nat.mul_comm]
    have h1 : 1 ≤ 2 ^ f := Nat.one_le_two_pow
    have one : ∀ {o : Option (List Nat × Int32)} {b : Nat} {g : Int32 → Int32}, (∀ T v, o = some (T, v) → T.length + 1 ≤ 2 ^ f) → (o.map fun r => (b :: r.1, g r.2)) = some (T, v) → T.length + 1 ≤ 2 ^ (f + 1) := fun {o b g} hi e => by
      obtain ⟨r, e1, e2⟩ := map_s e
      have := hi r.1 r.2 e1
      rw [show T = b :: r.1 from congrArg Prod.fst e2, List.length_cons]
      omega
    have two : ∀ {o o2 : Option (List Nat × Int32)} {b : Nat}, (∀ T v, o = some (T, v) → T.length + 1 ≤ 2 ^ f) → (∀ T v, o2 = some (T, v) → T.length + 1 ≤ 2 ^ f) → (o.bind fun r => o2.map fun s => (b :: (r.1 ++ s.1), r.2 + s.2)) = some (T, v) → T.length + 1 ≤ 2 ^ (f + 1) := fun {o o2 b} hi hi2 e => by
      obtain ⟨r, s, e1, e2, e3⟩ := bind_s e
      have := hi r.1 r.2 e1
      have := hi2 s.1 s.2 e2
      rw [show T = b :: (r.1 ++ s.1) from congrArg Prod.fst e3, List.length_cons, List.length_append]
      omega
    unfold rF at h
    by_cases c0 : bF a fr = 10
    · rw [if_pos c0] at h
      cases h
      simp
      omega
    rw [if_neg c0] at h
    by_cases c1 : bF a fr = 11
    · rw [if_pos c1] at h
      exact one (g := fun z => z - W) (ih _ _ _) h
    rw [if_neg c1] at h
    by_cases c2 : bF a fr = 12
    · rw [if_pos c2] at h
      exact one (g := fun z => z * 2) (ih _ _ _) h
    rw [if_neg c2] at h
    by_cases c3 : bF a fr = 20
    · rw [if_pos c3] at h
      exact one (g := fun z => z ^^^ 6) (ih _ _ _) h
    rw [if_neg c3] at h
    by_cases c4 : bF a fr = 30
    · rw [if_pos c4] at h
      exact one (g := id) (ih _ _ _) h
    rw [if_neg c4] at h
    by_cases c5 : bF a fr = 40
    · rw [if_pos c5] at h
      exact two (ih _ _ _) (ih _ _ _) h
    rw [if_neg c5] at h
    by_cases c6 : bF a fr = 50
    · rw [if_pos c6] at h
      exact one (g := fun z => -z) (ih _ _ _) h
    rw [if_neg c6] at h
    by_cases c7 : bF a fr = 51
    · rw [if_pos c7] at h
      exact one (g := id) (ih _ _ _) h
    rw [if_neg c7] at h
    by_cases c8 : bF a fr = 60
    · rw [if_pos c8] at h
      exact one (g := id) (ih _ _ _) h
    rw [if_neg c8] at h
    by_cases c9 : bF a fr = 70
    · rw [if_pos c9] at h
      exact two (ih _ _ _) (ih _ _ _) h
    rw [if_neg c9] at h
    by_cases c10 : bF a fr = 71
    · rw [if_pos c10] at h
      exact one (g := fun z => z ^^^ W) (ih _ _ _) h
    rw [if_neg c10] at h
    cases h
theorem y_run {K : Nat} {I W : Int32} (hK : K < 7) (d : Nat) : ∀ (f : Nat) {Q : zQ} {m : zM} {L : List Nat} {a fr dep : Nat} {x : Int32} {T : List Nat} {v : Int32}, rF K I W f a fr x = some (T, v) → a < 3 → fr < 7 → dep + f ≤ 40 → L.length + 2 ^ f ≤ 2 ^ 20 → aLw m → aX m L → gI m 98 2 = nI K → gI m 98 3 = I → gI m 98 4 = W → (∀ m', fA m m' → aX m' (L ++ T) → Q (some (.int v)) m') → zCall (d + f + 1) m_Acts_run [.ref 98, .int (nI a), .int (nI fr), .int x, .int (nI dep)] m Q
  | 0, _, _, _, _, _, _, _, _, _, h, _, _, _, _, _, _, _, _, _, _ => by cases h
  | f + 1, Q, m, L, a, fr, dep, x, T, v, h, ha, hf, hd, hl, hw, hX, k2, k3, k4, hQ => by
    have hp : 2 ^ (f + 1) = 2 * 2 ^ f := by rw [Nat.pow_succ, Nat.mul_comm]
    have h1 : 1 ≤ 2 ^ f := Nat.one_le_two_pow
    have hb := bG_b 7 fr a hf ha
    refine en_Acts_run (d + f + 1) _ _ _ _ m (sg_Acts_run_0 (zCall_m _) _ _ _ _ m (y_bodyOf (d + f) hw ha hf ⟨_, rfl, ?_⟩))
    have hn0 : bF a fr ≠ 0 := fun z => by
      unfold rF at h
      rw [z] at h
      simp at h
    have hb : bF a fr < 100 := hb
    refine iq (nI_ne0 (by omega) (by omega)) (ip (nI_lt (b := 40) (by omega) (by decide)) (y_abegin (d + f) hX (by omega) _ fun m1 f1 X1 => ⟨rfl, ?_⟩))
    have hw1 := aLw_f hw f1
    have e2 := (f1.2 2 (by decide)).trans k2
    have e3 := (f1.2 3 (by decide)).trans k3
    have e4 := (f1.2 4 (by decide)).trans k4
    have A : ∀ k, k < 7 → 0 < k → gI m1 2 k = nI (abvN.getD k 0) := fun k h1 h2 => (hw1.1 k h1).trans (abvN_e k h1 h2).1
    have a1 : gI m1 2 (1 : Int32).toNatClampNeg = nI 0 := A 1 (by decide) (by decide)
    have a2 : gI m1 2 (2 : Int32).toNatClampNeg = nI 0 := A 2 (by decide) (by decide)
    have a3 : gI m1 2 (3 : Int32).toNatClampNeg = nI 0 := A 3 (by decide) (by decide)
    have a4 : gI m1 2 (4 : Int32).toNatClampNeg = nI 1 := A 4 (by decide) (by decide)
    have a5 : gI m1 2 (5 : Int32).toNatClampNeg = nI 2 := A 5 (by decide) (by decide)
    have a6 : gI m1 2 (6 : Int32).toNatClampNeg = nI 3 := A 6 (by decide) (by decide)
    have ll : (L ++ [bF a fr]).length + 2 ^ f ≤ 2 ^ 20 := by rw [len_snoc]; omega
    -- one run more
    have one : ∀ {a' fr' : Nat} {x' : Int32} {r : List Nat × Int32} {Q' : zQ}, a' < 3 → fr' < 7 → rF K I W f a' fr' x' = some r → (∀ m', fA m1 m' → aX m' (L ++ (bF a fr :: r.1)) → Q' (some (.int r.2)) m') → zCall (d + f + 1) m_Acts_run [.ref 98, .int (nI a'), .int (nI fr'), .int x', .int (nI dep + 1)] m1 Q' := fun {a' fr' x' r Q'} h1 h2 h3 h4 => by
      rw [nI_1]
      refine y_run hK d f (T := r.1) (v := r.2) h3 h1 h2 (by omega) ll hw1 X1 e2 e3 e4 fun m2 f2 X2 => h4 m2 f2 ?_
      rw [List.append_assoc] at X2
      exact X2
    have two : ∀ {m2 : zM} {a' fr' : Nat} {x' : Int32} {r s : List Nat × Int32} {Q' : zQ}, fA m1 m2 → aX m2 (L ++ (bF a fr :: r.1)) → r.1.length + 1 ≤ 2 ^ f → a' < 3 → fr' < 7 → rF K I W f a' fr' x' = some s → (∀ m', fA m1 m' → aX m' (L ++ (bF a fr :: (r.1 ++ s.1))) → Q' (some (.int s.2)) m') → zCall (d + f + 1) m_Acts_run [.ref 98, .int (nI a'), .int (nI fr'), .int x', .int (nI dep + 1)] m2 Q' := fun {m2 a' fr' x' r s Q'} f2 X2 hr h1 h2 h3 h4 => by
      rw [nI_1]
      refine y_run hK d f (T := s.1) (v := s.2) h3 h1 h2 (by omega) ?_ (aLw_f hw1 f2) X2 ((f2.2 2 (by decide)).trans e2) ((f2.2 3 (by decide)).trans e3) ((f2.2 4 (by decide)).trans e4) fun m3 f3 X3 => h4 m3 (fA_tr f2 f3) ?_
      · rw [List.length_append, List.length_cons]; omega
      · rw [List.append_assoc] at X3
        exact X3
    unfold rF at h
    rw [e2, e3, a1, a2, a3, a4, a5, a6]
    by_cases c1 : bF a fr = 10
    · rw [if_pos c1] at h
      cases h
      rw [c1] at X1 ⊢
      exact ip rfl (hQ m1 f1 X1)
    · rw [if_neg c1] at h
      refine iq (nI_ne (b := 10) (by omega) (by decide) c1) ?_
      by_cases c2 : bF a fr = 11
      · rw [if_pos c2] at h
        obtain ⟨r, g1, g2⟩ := map_s h
        cases g2
        rw [c2] at one ⊢
        refine ip rfl (one (by decide) hK g1 fun m2 f2 X2 => ⟨_, rfl, ?_⟩)
        rw [(f2.2 4 (by decide)).trans e4]
        exact hQ m2 (fA_tr f1 f2) X2
      · rw [if_neg c2] at h
        refine iq (nI_ne (b := 11) (by omega) (by decide) c2) ?_
        by_cases c3 : bF a fr = 12
        · rw [if_pos c3] at h
          obtain ⟨r, g1, g2⟩ := map_s h
          cases g2
          rw [c3] at one ⊢
          exact ip rfl (one (by decide) hK g1 fun m2 f2 X2 => ⟨_, rfl, hQ m2 (fA_tr f1 f2) X2⟩)
        · rw [if_neg c3] at h
          refine iq (nI_ne (b := 12) (by omega) (by decide) c3) ?_
          by_cases c4 : bF a fr = 20
          · rw [if_pos c4] at h
            obtain ⟨r, g1, g2⟩ := map_s h
            cases g2
            rw [c4] at one ⊢
            exact ip rfl ⟨vp_in_nI (n := 1) (by decide) (by decide), one (by decide) (by decide) g1 fun m2 f2 X2 => ⟨_, rfl, hQ m2 (fA_tr f1 f2) X2⟩⟩
          · rw [if_neg c4] at h
            refine iq (nI_ne (b := 20) (by omega) (by decide) c4) ?_
            by_cases c5 : bF a fr = 30
            · rw [if_pos c5] at h
              obtain ⟨r, g1, g2⟩ := map_s h
              cases g2
              rw [c5] at one ⊢
              exact ip rfl ⟨vp_in_nI (n := 2) (by decide) (by decide), one (by decide) (by decide) g1 fun m2 f2 X2 => ⟨_, rfl, hQ m2 (fA_tr f1 f2) X2⟩⟩
            · rw [if_neg c5] at h
              refine iq (nI_ne (b := 30) (by omega) (by decide) c5) ?_
              by_cases c6 : bF a fr = 40
              · rw [if_pos c6] at h
                obtain ⟨r, s, g1, g2, g3⟩ := bind_s h
                cases g3
                rw [c6] at one two ⊢
                refine ip rfl ⟨vp_in_nI (n := 3) (by decide) (by decide), one (by decide) (by decide) g1 fun m2 f2 X2 => ⟨_, rfl, ?_⟩⟩
                rw [(f2.2 2 (by decide)).trans e2]
                exact two f2 X2 (rF_len _ _ _ _ _ _ g1) (by decide) hK g2 fun m3 f3 X3 => ⟨_, rfl, hQ m3 (fA_tr f1 f3) X3⟩
              · rw [if_neg c6] at h
                refine iq (nI_ne (b := 40) (by omega) (by decide) c6) ?_
                by_cases c7 : bF a fr = 50
                · rw [if_pos c7] at h
                  obtain ⟨r, g1, g2⟩ := map_s h
                  cases g2
                  rw [c7] at one ⊢
                  exact ip rfl ⟨vp_in_nI (n := 4) (by decide) (by decide), one (by decide) (by decide) g1 fun m2 f2 X2 => ⟨_, rfl, hQ m2 (fA_tr f1 f2) X2⟩⟩
                · rw [if_neg c7] at h
                  refine iq (nI_ne (b := 50) (by omega) (by decide) c7) ?_
                  by_cases c8 : bF a fr = 51
                  · rw [if_pos c8] at h
                    obtain ⟨r, g1, g2⟩ := map_s h
                    cases g2
                    rw [c8] at one ⊢
                    exact ip rfl ⟨vp_in_nI (n := 4) (by decide) (by decide), one (by decide) (by decide) g1 fun m2 f2 X2 => ⟨_, rfl, hQ m2 (fA_tr f1 f2) X2⟩⟩
                  · rw [if_neg c8] at h
                    refine iq (nI_ne (b := 51) (by omega) (by decide) c8) ?_
                    by_cases c9 : bF a fr = 60
                    · rw [if_pos c9] at h
                      obtain ⟨r, g1, g2⟩ := map_s h
                      cases g2
                      rw [c9] at one ⊢
                      exact ip rfl ⟨vp_in_nI (n := 5) (by decide) (by decide), one (by decide) (by decide) g1 fun m2 f2 X2 => ⟨_, rfl, hQ m2 (fA_tr f1 f2) X2⟩⟩
                    · rw [if_neg c9] at h
                      refine iq (nI_ne (b := 60) (by omega) (by decide) c9) ?_
                      by_cases c10 : bF a fr = 70
                      · rw [if_pos c10] at h
                        obtain ⟨r, s, g1, g2, g3⟩ := bind_s h
                        cases g3
                        rw [c10] at one two ⊢
                        refine ip rfl ⟨vp_in_nI (n := 6) (by decide) (by decide), one (by decide) (by decide) g1 fun m2 f2 X2 => ⟨_, rfl, vp_in_nI (n := 6) (by decide) (by decide), ?_⟩⟩
                        rw [((f2.1 2 (by omega)).1 _).trans a6]
                        exact two f2 X2 (rF_len _ _ _ _ _ _ g1) (by decide) (by decide) g2 fun m3 f3 X3 => ⟨_, rfl, hQ m3 (fA_tr f1 f3) X3⟩
                      · rw [if_neg c10] at h
                        refine iq (nI_ne (b := 70) (by omega) (by decide) c10) ?_
                        by_cases c11 : bF a fr = 71
                        · rw [if_pos c11] at h
                          obtain ⟨r, g1, g2⟩ := map_s h
                          cases g2
                          rw [c11] at one ⊢
                          refine ip rfl ⟨vp_in_nI (n := 6) (by decide) (by decide), one (by decide) (by decide) g1 fun m2 f2 X2 => ⟨_, rfl, ?_⟩⟩
                          rw [(f2.2 4 (by decide)).trans e4]
                          exact hQ m2 (fA_tr f1 f2) X2
                        · rw [if_neg c11] at h
                          cases h
