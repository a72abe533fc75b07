/-! meet -/
def sZ (V : zV) (b : Nat → Bool) (s : zS) : Prop := ∀ p, p < vN V → b p = true → bt (vD V) p = false → sW s p = some 0 ∧ sF s p = none
theorem sZ_ps {V : zV} {t : Nat → Nat} {b : Nat → Bool} {s : zS} (ht : ∀ p, p < vN V → 1 ≤ t p ∧ t p ≤ 2085) (h : sZ V b s) {p : Nat} (hp : nxF (sW s) (sD s) (vN V) = some p) : sZ V b (psS V t s p) := fun q hq hb hd => by
  obtain ⟨h1, h2⟩ := h q hq hb hd
  obtain ⟨a, _, x, c, _⟩ := nxF_some hp
  have h3 : thn t (sW s) p = x + t p := by unfold thn; rw [c]; rfl
  have h4 := (ht p a).1
  have hu : upc V t (sW s) (sF s) p q = false := by
    cases hu : upc V t (sW s) (sF s) p q with
    | false => rfl
    | true =>
      have := (upc_t hu).2.2.2 0 h1
      omega
  constructor
  · show pw V t (sW s) (sF s) p q = _
    unfold pw
    rw [if_neg (by rw [hu]; decide)]
    exact h1
  · show pf V t (sW s) (sF s) p q = _
    unfold pf
    rw [if_neg (by rw [hu]; decide)]
    exact h2
theorem sZ_rn {V : zV} {t : Nat → Nat} {b : Nat → Bool} (ht : ∀ p, p < vN V → 1 ≤ t p ∧ t p ≤ 2085) : ∀ k s, sZ V b s → sZ V b (rnS V t k s)
  | 0, _, h => h
  | k + 1, s, h => by
    unfold rnS
    cases hp : nxF (sW s) (sD s) (vN V) with
    | none => exact h
    | some p => exact sZ_rn ht k _ (sZ_ps ht h hp)
theorem sT_Z {V : zV} (hw : vWf V) (b : Nat → Bool) : sZ V b (sT V b) := sZ_rn (fun _ hp => vTakes_b hw hp) _ _ fun p hp hb hd => by
  refine ⟨?_, rfl⟩
  show (if (decide (p < vN V) && (b p && !bt (vD V) p)) = true then some 0 else none) = some 0
  rw [decide_eq_true hp, hb, hd]
  rfl
def bM (one other p : Nat) : Bool := decide (p = other) || decide (p = one)
def wM (one p : Nat) : Nat := if p = one then 0 else 1
def s2 (V : zV) (one other : Nat) : zS := sT V (bM one other)
def lM (V : zV) (one other p : Nat) : Nat := pnd (fun _ x => x) (sF (s2 V one other)) (wM one) (sO (s2 V one other)) p
def pMt (V : zV) (one other p : Nat) : Bool := (sW (s2 V one other) p).isSome && decide (lM V one other p = 0)
def aMeet (V : zV) (a b : Int32) : Int32 := if zr a (vN V) = true then (if zr b (vN V) = true then (if a.toNatClampNeg = b.toNatClampNeg then -2 else yst (pMt V a.toNatClampNeg b.toNatClampNeg) (vN V)) else -1) else -1
theorem y_mmeet (d : Nat) {Q : zQ} {m : zM} {V : zV} (hV : vM m V) {one other : Nat} (v1 v2 : Int32) (hm : mX m V (vTakes V) 0 (wM one) (s2 V one other)) (hl : ∀ p, lM V one other p < 2 ^ 31) (h : Q (some (.int (yst (pMt V one other) (vN V)))) m) :
    ∀ j k, k + j = vN V → zRun (zCall d) 9 (some .int) zc_Mod_meet Q 53 [.ref 113, .int v1, .int v2, .int (yst (pMt V one other) k), .int (nI k)] [] m
  | 0, k, hk => by
    have h8 := hV.1.1
    refine sg_Mod_meet_53 (zCall_m _) _ _ _ _ m ?_
    rw [hV.2.1]
    refine ip (nI_le (by omega) (by omega)) ?_
    rw [show k = vN V by omega]
    exact h
  | j + 1, k, hk => by
    have h8 := hV.1.1
    have IH := y_mmeet d hV v1 v2 hm hl h j (k + 1) (by omega)
    have hin : vp_in (nI k) 8 := vp_in_nI (by omega) (by omega)
    refine sg_Mod_meet_53 (zCall_m _) _ _ _ _ m ?_
    rw [hV.2.1, nI_1]
    refine iq (nI_ge (by omega) (by omega)) ⟨hin, ?_⟩
    rw [nI_clamp (by omega), (hm.1 k (by omega)).1]
    have no : pMt V one other k = false → zRun (zCall d) 9 (some .int) zc_Mod_meet Q 53 [.ref 113, .int v1, .int v2, .int (yst (pMt V one other) k ||| 0), .int (nI (k + 1))] [] m := fun hp => by
      rw [yst_or hp]; exact IH
    cases hx : sW (s2 V one other) k with
    | none =>
      exact ip (by decide) (no (by unfold pMt; rw [hx]; rfl))
    | some x =>
      have hxb := sT_wb hV.1 _ k x hx
      refine iq (e1_n (x := x) (by omega)) ⟨hin, ?_⟩
      rw [(hm.2 k (by omega) (by rw [hx]; simp)).2]
      show @ite Prop (¬ nI (lM V one other k) = 0) _ _ _
      by_cases l : lM V one other k = 0
      · have hp : pMt V one other k = true := by unfold pMt; rw [hx, decide_eq_true l]; rfl
        rw [yst_yes hp] at IH
        exact iq (fun z => z (by rw [l]; rfl)) IH
      · exact ip (nI_ne (b := 0) (hl k) (by decide) l) (no (by unfold pMt; rw [decide_eq_false l, Bool.and_false]))
theorem gsp_1 {one : Nat} {f : Nat → Option Nat} : ∀ (L : List Nat) (p : Nat), gsp (fun _ x => x) f (wM one) L p ≤ 1
  | [], _ => by unfold gsp; omega
  | a :: r, p => by
    unfold gsp
    split
    · split
      · unfold wM; split <;> omega
      · exact gsp_1 r _
    · exact gsp_1 r p
theorem lM_1 (V : zV) (one other p : Nat) : lM V one other p ≤ 1 := by
  unfold lM pnd
  split
  · unfold wM; split <;> omega
  · exact gsp_1 _ _
theorem yM_meet (d : Nat) {Q : zQ} {m : zM} {V : zV} (hV : vM m V) (a b : Int32) (h : ∀ m', zsm mP m m' → Q (some (.int (aMeet V a b))) m') : zCall (d + 8) m_Mod_meet [.ref 113, .int a, .int b] m Q := by
  have h8 := hV.1.1
  have h0 := h m (zsm_refl m)
  unfold aMeet at h h0
  refine en_Mod_meet (d + 7) _ _ m (sg_Mod_meet_0 (zCall_m _) _ _ m (y_Mod_isPlant _ a hV.2.1 (by omega) ⟨_, rfl, zb_c (fun ha => ?_) (fun ha => y_Mod_isPlant _ b hV.2.1 (by omega) ⟨_, rfl, zb_d (fun hb => ?_) (fun hb => ?_)⟩)⟩))
  · rw [ha] at h0; exact h0
  · rw [ha, hb] at h0; exact h0
  · rw [ha, hb] at h h0
    simp only [if_true] at h h0
    obtain ⟨a1, a2⟩ := zr_k ha
    obtain ⟨b1, b2⟩ := zr_k hb
    generalize a.toNatClampNeg = one at a1 a2 h h0
    generalize b.toNatClampNeg = other at b1 b2 h h0
    subst a2 b2
    by_cases e : one = other
    · rw [if_pos e] at h0
      exact iq (fun z => z (by rw [e])) h0
    · simp only [if_neg e] at h
      refine ip (nI_ne (by omega) (by omega) e) (y_clearsC (d + 1) hV fun m1 hs1 hm1 => ⟨rfl, ?_⟩)
      have hV1 := vM_mP hV hs1
      refine y_saidTo (w0 := 0) (d + 5) hV1 (mCl_X hm1 0 (wM one)) a1 (by unfold wM; rw [if_pos rfl]; rfl) fun m2 hs2 hm2 => ⟨rfl, ?_⟩
      have hV2 := vM_mP hV1 hs2
      refine y_saidTo (w0 := 0) (d + 5) hV2 hm2 b1 (by unfold wM; rw [if_neg (fun z => e z.symm)]; rfl) fun m3 hs3 hm3 => ⟨rfl, ?_⟩
      have hV3 := vM_mP hV2 hs3
      rw [show (fun p => decide (p = other) || (decide (p = one) || false)) = bM one other from funext fun p => by unfold bM; rw [Bool.or_false]] at hm3
      refine y_spreadsC (d + 1) hV3 (fun p hp => vTakes_b hV.1 hp) (by omega) hm3 fun m4 hs4 hm4 => ⟨rfl, ?_⟩
      exact y_mmeet _ (vM_mP hV3 hs4) _ _ hm4 (fun p => by have := lM_1 V one other p; omega) (h m4 (zsm_tr hs1 (zsm_tr hs2 (zsm_tr hs3 hs4)))) (vN V) 0 (Nat.zero_add _)
