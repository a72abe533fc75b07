/-! the reference's spreading: the same (gen29.py) -/
def e1 : Option Nat → Int32
  | none => -1
  | some x => nI x
theorem e1_n {x : Nat} (h : x < 2 ^ 31) : ¬ nI x < 0 := nI_pos h
def gsp (g : Nat → Nat → Nat) (f : Nat → Option Nat) (w1 : Nat → Nat) : List Nat → Nat → Nat
  | [], _ => 0
  | p :: r, x => if x = p then (match f p with
    | none => w1 p
    | some q => g q (gsp g f w1 r q)) else gsp g f w1 r x
def pnd (g : Nat → Nat → Nat) (f : Nat → Option Nat) (w1 : Nat → Nat) (L : List Nat) (p : Nat) : Nat := match f p with
  | none => w1 p
  | some q => g q (gsp g f w1 L q)
theorem gsp_in {g : Nat → Nat → Nat} {f : Nat → Option Nat} {w1 : Nat → Nat} {p : Nat} (r : List Nat) : gsp g f w1 (p :: r) p = pnd g f w1 r p := by
  unfold pnd
  rw [gsp, if_pos rfl]
theorem gsp_out {g : Nat → Nat → Nat} {f : Nat → Option Nat} {w1 : Nat → Nat} {p x : Nat} (r : List Nat) (h : x ≠ p) : gsp g f w1 (p :: r) x = gsp g f w1 r x := by
  rw [gsp, if_neg h]
theorem gsp_cg {g : Nat → Nat → Nat} {f f' : Nat → Option Nat} {w1 : Nat → Nat} : ∀ {L : List Nat}, (∀ p, p ∈ L → f p = f' p) → ∀ x, gsp g f w1 L x = gsp g f' w1 L x
  | [], _, _ => rfl
  | p :: r, h, x => by
    have ih := fun y => gsp_cg (g := g) (w1 := w1) (fun q hq => h q (List.mem_cons_of_mem p hq)) y
    by_cases e : x = p
    · subst e
      rw [gsp_in, gsp_in]
      unfold pnd
      rw [h x List.mem_cons_self]
      cases hg : f' x with
      | none => rfl
      | some q =>
        show g q (gsp g f w1 r q) = g q (gsp g f' w1 r q)
        rw [ih q]
    · rw [gsp_out _ e, gsp_out _ e, ih x]
theorem spk_g {V : zV} {f : Nat → Option Nat} {w0 : Nat} : ∀ (L : List Nat) (x : Nat), spk V f w0 L x = gsp (vSays V) f (fun _ => w0) L x
  | [], _ => rfl
  | p :: r, x => by
    by_cases e : x = p
    · subst e
      rw [spk_in, gsp_in]
      unfold pnd
      cases f x with
      | none => rfl
      | some q =>
        show vSays V q (spk V f w0 r q) = vSays V q (gsp (vSays V) f (fun _ => w0) r q)
        rw [spk_g r q]
    · rw [spk_out _ e, gsp_out _ e, spk_g r x]
theorem gsp_pnd {g : Nat → Nat → Nat} {f : Nat → Option Nat} {w1 : Nat → Nat} : ∀ {L : List Nat}, oT f L → ∀ p, p ∈ L → gsp g f w1 L p = pnd g f w1 L p
  | [], _, p, h => by cases h
  | a :: r, ht, p, h => by
    by_cases e : p = a
    · subst e
      rw [gsp_in]
      unfold pnd
      cases hf : f p with
      | none => rfl
      | some q =>
        show g q (gsp g f w1 r q) = g q (gsp g f w1 (p :: r) q)
        rw [gsp_out r (fun (z : q = p) => ht.2.1 (z ▸ ht.1 q hf))]
    · rw [gsp_out r e]
      have hp : p ∈ r := by
        rcases List.mem_cons.mp h with z | z
        · exact absurd z e
        · exact z
      rw [gsp_pnd ht.2.2 p hp]
      have mem : ∀ {L : List Nat}, oT f L → ∀ p, p ∈ L → ∀ q, f p = some q → q ∈ L := by
        intro L
        induction L with
        | nil => intro _ p h; cases h
        | cons b l ih =>
          intro hh p hp q hq
          rcases List.mem_cons.mp hp with z | z
          · subst z
            exact List.mem_cons_of_mem _ (hh.1 q hq)
          · exact List.mem_cons_of_mem _ (ih hh.2.2 p z q hq)
      unfold pnd
      cases hf : f p with
      | none => rfl
      | some q =>
        show g q (gsp g f w1 r q) = g q (gsp g f w1 (a :: r) q)
        rw [gsp_out r (fun (z : q = a) => ht.2.1 (z ▸ mem ht.2.2 p hp q hf))]
/-- what is pending when p passes it on -/
theorem pnd_up {g : Nat → Nat → Nat} {w1 : Nat → Nat} {V : zV} {t : Nat → Nat} {s : zS} (hJ : sJ V t s) (ht : ∀ p, p < vN V → 1 ≤ t p ∧ t p ≤ 2085) {p : Nat} (hp : nxF (sW s) (sD s) (vN V) = some p) {o : Nat} (hu : upc V t (sW s) (sF s) p o = true) :
    pnd g (sF (psS V t s p)) w1 (sO (psS V t s p)) o = g p (pnd g (sF s) w1 (sO s) p) := by
  have h1 : sF (psS V t s p) o = some p := by
    show pf V t (sW s) (sF s) p o = _
    unfold pf
    rw [if_pos hu]
  unfold pnd
  rw [h1]
  show g p (gsp g (sF (psS V t s p)) w1 (p :: sO s) p) = _
  rw [gsp_in]
  unfold pnd
  rw [(ps_f hJ ht hp (Or.inr rfl)).1]
  cases hf : sF s p with
  | none => rfl
  | some q =>
    show g p (g q (gsp g (sF (psS V t s p)) w1 (sO s) q)) = g p (g q (gsp g (sF s) w1 (sO s) q))
    rw [gsp_cg (fun a ha => (ps_f hJ ht hp (Or.inl ((hJ.2.1 a).mpr ha))).1)]
theorem pnd_no {g : Nat → Nat → Nat} {w1 : Nat → Nat} {V : zV} {t : Nat → Nat} {s : zS} (hJ : sJ V t s) (ht : ∀ p, p < vN V → 1 ≤ t p ∧ t p ≤ 2085) {p : Nat} (hp : nxF (sW s) (sD s) (vN V) = some p) {o : Nat} (hu : upc V t (sW s) (sF s) p o = false) :
    pnd g (sF (psS V t s p)) w1 (sO (psS V t s p)) o = pnd g (sF s) w1 (sO s) o := by
  have h1 : sF (psS V t s p) o = sF s o := by
    show pf V t (sW s) (sF s) p o = _
    unfold pf
    rw [if_neg (by rw [hu]; decide)]
  obtain ⟨a, b, _⟩ := nxF_some hp
  unfold pnd
  rw [h1]
  cases hf : sF s o with
  | none => rfl
  | some q =>
    show g q (gsp g (sF (psS V t s p)) w1 (p :: sO s) q) = g q (gsp g (sF s) w1 (sO s) q)
    have hq := (hJ.2.2.2.1 o q hf).1
    rw [gsp_out _ (fun z => by rw [z, b] at hq; cases hq), gsp_cg (fun a ha => (ps_f hJ ht hp (Or.inl ((hJ.2.1 a).mpr ha))).1)]
theorem gsp_b {V : zV} (hw : vWf V) {f : Nat → Option Nat} {w0 : Nat} (h0 : w0 < 10000) (L : List Nat) (x : Nat) : gsp (vSays V) f (fun _ => w0) L x < 10000 := by
  rw [← spk_g]
  exact spk_b hw h0 L x
theorem pnd_b {V : zV} (hw : vWf V) {f : Nat → Option Nat} {w0 : Nat} (h0 : w0 < 10000) (L : List Nat) (x : Nat) : pnd (vSays V) f (fun _ => w0) L x < 10000 := by
  unfold pnd
  split
  · exact h0
  · exact vSays_c hw (gsp_b hw h0 L _)
/-- what the reference says of a state -/
def mX (m : zM) (V : zV) (t : Nat → Nat) (w0 : Nat) (w1 : Nat → Nat) (s : zS) : Prop := (∀ p, p < vN V → gI m 128 p = e1 (sW s p) ∧ gI m 129 p = e1 (sF s p) ∧ gI m 133 p = zb (sD s p) ∧ gI m 132 p = nI (t p)) ∧
  ∀ p, p < vN V → sW s p ≠ none → gI m 130 p = nI (pnd (vSays V) (sF s) (fun _ => w0) (sO s) p) ∧ gI m 131 p = nI (pnd (fun _ x => x) (sF s) w1 (sO s) p)
def mP (q : Nat) : Prop := 127 ≤ q ∧ q ≤ 133
theorem vM_mP {m m' : zM} {V : zV} (hV : vM m V) (hs : zsm mP m m') : vM m' V := vM_sm hV hs (fun q a b z => by unfold mP at z; omega)
theorem y_next (d : Nat) {Q : zQ} {m : zM} {V : zV} (hV : vM m V) {w : Nat → Option Nat} {dn : Nat → Bool} (hw : ∀ p, p < vN V → gI m 128 p = e1 (w p) ∧ gI m 133 p = zb (dn p)) (hb : ∀ p x, w p = some x → x < 2 ^ 30) (h : Q (some (.int (e1 (nxF w dn (vN V))))) m) :
    ∀ j k, k + j = vN V → zRun (zCall d) 9 (some .int) zc_Mod_nextOne Q 4 [.ref 113, .int (e1 (nxF w dn k)), .int (nI k)] [] m
  | 0, k, hk => by
    have h8 := hV.1.1
    refine sg_Mod_nextOne_4 (zCall_m _) _ _ m ?_
    rw [hV.2.1]
    refine ip (nI_le (by omega) (by omega)) ?_
    rw [show k = vN V by omega]
    exact h
  | j + 1, k, hk => by
    have h8 := hV.1.1
    have IH := y_next d hV hw hb h j (k + 1) (by omega)
    obtain ⟨a1, a2⟩ := hw k (by omega)
    have hin : vp_in (nI k) 8 := vp_in_nI (by omega) (by omega)
    refine sg_Mod_nextOne_4 (zCall_m _) _ _ m ?_
    rw [hV.2.1]
    refine iq (nI_ge (by omega) (by omega)) ⟨hin, ?_⟩
    rw [nI_clamp (by omega), a1, a2, nI_1]
    unfold nxF at IH
    cases hwk : w k with
    | none =>
      rw [hwk] at IH
      exact ip (by decide) IH
    | some x =>
      rw [hwk] at IH
      have hx := hb k x hwk
      refine iq (e1_n (x := x) (by omega)) ⟨hin, ?_⟩
      cases hd : dn k with
      | true =>
        rw [hd] at IH
        exact ip (by decide) IH
      | false =>
        rw [hd] at IH
        refine iq (fun z => z rfl) ?_
        cases hq : nxF w dn k with
        | none =>
          rw [hq] at IH
          exact ip (by decide) IH
        | some q =>
          rw [hq] at IH
          obtain ⟨q1, _, y, q3, _⟩ := nxF_some hq
          have hy := hb q y q3
          refine iq (e1_n (x := q) (by omega)) ⟨hin, vp_in_nI (by omega) (by omega), ?_⟩
          show @ite Prop (gI m 128 (nI q).toNatClampNeg ≤ nI x) _ _ _
          rw [nI_clamp (by omega), (hw q (by omega)).1, q3]
          show @ite Prop (nI y ≤ nI x) _ _ _
          dsimp only at IH
          rw [q3, Option.getD_some] at IH
          by_cases hlt : x < y
          · rw [if_pos hlt] at IH
            exact iq (nI_ge hlt (by omega)) IH
          · rw [if_neg hlt] at IH
            exact ip (nI_le (by omega) (by omega)) IH
theorem y_nextC (d : Nat) {Q : zQ} {m : zM} {V : zV} (hV : vM m V) {w : Nat → Option Nat} {dn : Nat → Bool} (hw : ∀ p, p < vN V → gI m 128 p = e1 (w p) ∧ gI m 133 p = zb (dn p)) (hb : ∀ p x, w p = some x → x < 2 ^ 30) (h : Q (some (.int (e1 (nxF w dn (vN V))))) m) : zCall (d + 1) m_Mod_nextOne [.ref 113] m Q :=
  en_Mod_nextOne d m (sg_Mod_nextOne_0 (zCall_m _) m (y_next d hV hw hb h (vN V) 0 (by omega)))
theorem y_passes (d : Nat) {Q : zQ} {m : zM} {V : zV} (hV : vM m V) {t : Nat → Nat} (htb : ∀ p, p < vN V → 1 ≤ t p ∧ t p ≤ 2085) {w0 : Nat} (h0 : w0 < 10000) {w1 : Nat → Nat} {s : zS} (hJ : sJ V t s) {p : Nat} (hp : nxF (sW s) (sD s) (vN V) = some p)
    (h : ∀ m', zsm mP m m' → mX m' V t w0 w1 (psS V t s p) → Q none m') :
    ∀ j k m', k + j = vN V → zsm mP m m' →
    (∀ q, q < vN V → gI m' 128 q = e1 (if q < k then sW (psS V t s p) q else sW s q) ∧ gI m' 129 q = e1 (if q < k then sF (psS V t s p) q else sF s q) ∧ gI m' 133 q = zb (sD (psS V t s p) q) ∧ gI m' 132 q = nI (t q)) →
    (∀ q, q < vN V → (if q < k then sW (psS V t s p) q else sW s q) ≠ none → gI m' 130 q = nI (if q < k then pnd (vSays V) (sF (psS V t s p)) (fun _ => w0) (sO (psS V t s p)) q else pnd (vSays V) (sF s) (fun _ => w0) (sO s) q) ∧
      gI m' 131 q = nI (if q < k then pnd (fun _ x => x) (sF (psS V t s p)) w1 (sO (psS V t s p)) q else pnd (fun _ x => x) (sF s) w1 (sO s) q)) →
    zRun (zCall (d + 4)) 9 none zc_Mod_passes Q 23 [.ref 113, .int (nI p), .int (nI (thn t (sW s) p)), .int (nI k)] [] m'
  | 0, k, m', hk, hs, hm, hn => by
    have hV' := vM_mP hV hs
    have h8 := hV.1.1
    refine sg_Mod_passes_23 (zCall_m _) _ _ _ m' ?_
    rw [hV'.2.1]
    refine ip (nI_le (by omega) (by omega)) (h m' hs ⟨fun q hq => ?_, fun q hq hz => ?_⟩)
    · have := hm q hq
      rw [if_pos (by omega), if_pos (by omega)] at this
      exact this
    · have := hn q hq (by rw [if_pos (by omega)]; exact hz)
      rw [if_pos (by omega), if_pos (by omega)] at this
      exact this
  | j + 1, k, m', hk, hs, hm, hn => by
    have hV' := vM_mP hV hs
    have h8 := hV.1.1
    have hkn : k < vN V := by omega
    obtain ⟨pa, pb, x, pc, pe⟩ := nxF_some hp
    have hwb := sJ_wb hJ h8
    have hx := hwb p x pc
    have hth : thn t (sW s) p = x + t p := by unfold thn; rw [pc]; rfl
    have htp := htb p pa
    have IH := y_passes d hV htb h0 hJ hp h j (k + 1)
    have hin : vp_in (nI k) 8 := vp_in_nI (by omega) (by omega)
    have hpi : vp_in (nI p) 8 := vp_in_nI (by omega) (by omega)
    have hcl : (nI k).toNatClampNeg = k := nI_clamp (by omega)
    have hcp : (nI p).toNatClampNeg = p := nI_clamp (by omega)
    have hm1 : gI m' 128 k = e1 (sW s k) := by
      have := (hm k hkn).1
      rw [if_neg (by omega)] at this
      exact this
    have hm2 : gI m' 129 k = e1 (sF s k) := by
      have := (hm k hkn).2.1
      rw [if_neg (by omega)] at this
      exact this
    have hpp : sF (psS V t s p) p = sF s p ∧ sW (psS V t s p) p = sW s p := ps_f hJ htb hp (Or.inr rfl)
    -- what p itself has heard
    have hp0 : gI m' 130 p = nI (pnd (vSays V) (sF s) (fun _ => w0) (sO s) p) ∧ gI m' 131 p = nI (pnd (fun _ x => x) (sF s) w1 (sO s) p) := by
      have := hn p pa (by split <;> simp [hpp.2, pc])
      rw [pnd_no hJ htb hp (upc_dn hJ htb hp (Or.inr rfl)), pnd_no hJ htb hp (upc_dn hJ htb hp (Or.inr rfl))] at this
      simp only [ite_self] at this
      exact this
    have hpb := pnd_b hV.1 (f := sF s) h0 (sO s) p
    have no : upc V t (sW s) (sF s) p k = false → zRun (zCall (d + 4)) 9 none zc_Mod_passes Q 23 [.ref 113, .int (nI p), .int (nI (thn t (sW s) p)), .int (nI (k + 1))] [] m' := fun hu => by
      have e1' : sW (psS V t s p) k = sW s k := by show pw V t (sW s) (sF s) p k = _; unfold pw; rw [if_neg (by rw [hu]; decide)]
      have e2' : sF (psS V t s p) k = sF s k := by show pf V t (sW s) (sF s) p k = _; unfold pf; rw [if_neg (by rw [hu]; decide)]
      refine IH m' (by omega) hs (fun q hq => ?_) (fun q hq hz => ?_)
      · have := hm q hq
        by_cases e : q = k
        · subst e
          rw [if_neg (by omega), if_neg (by omega)] at this
          rw [if_pos (by omega), if_pos (by omega), e1', e2']
          exact this
        · by_cases l : q < k
          · rw [if_pos l, if_pos l] at this
            rw [if_pos (by omega), if_pos (by omega)]
            exact this
          · rw [if_neg l, if_neg l] at this
            rw [if_neg (by omega), if_neg (by omega)]
            exact this
      · by_cases e : q = k
        · subst e
          rw [if_pos (by omega), e1'] at hz
          have := hn q hq (by rw [if_neg (by omega)]; exact hz)
          rw [if_neg (by omega), if_neg (by omega)] at this
          rw [if_pos (by omega), if_pos (by omega), pnd_no hJ htb hp hu, pnd_no hJ htb hp hu]
          exact this
        · by_cases l : q < k
          · rw [if_pos (by omega)] at hz
            have := hn q hq (by rw [if_pos l]; exact hz)
            rw [if_pos l, if_pos l] at this
            rw [if_pos (by omega), if_pos (by omega)]
            exact this
          · rw [if_neg (by omega)] at hz
            have := hn q hq (by rw [if_neg l]; exact hz)
            rw [if_neg l, if_neg l] at this
            rw [if_neg (by omega), if_neg (by omega)]
            exact this
    have yes : upc V t (sW s) (sF s) p k = true → vp_in (nI k) 8 ∧ (vp_in (nI k) 8 ∧ (vp_in (nI p) 8 ∧ (zCall (d + 4) m_Mod_saysOf [.ref 113, .int (nI p), .int (gI (sI (sI m' 128 k (nI (thn t (sW s) p))) 129 k (nI p)) 130 p)] (sI (sI m' 128 k (nI (thn t (sW s) p))) 129 k (nI p)) (fun o7 m8 => ∃ x9, o7 = some (.int x9) ∧ (vp_in (nI k) 8 ∧ (vp_in (nI p) 8 ∧ (vp_in (nI k) 8 ∧ (zRun (zCall (d + 4)) 9 none zc_Mod_passes Q 23 [.ref 113, .int (nI p), .int (nI (thn t (sW s) p)), .int (nI (k + 1))] [] (sI (sI m8 130 k x9) 131 k (gI (sI m8 130 k x9) 131 p)))))))))) := fun hu => by
      have hkp : p ≠ k := fun z => by rw [← z, upc_dn hJ htb hp (Or.inr rfl)] at hu; cases hu
      have e1' : sW (psS V t s p) k = some (thn t (sW s) p) := by show pw V t (sW s) (sF s) p k = _; unfold pw; rw [if_pos hu]
      have e2' : sF (psS V t s p) k = some p := by show pf V t (sW s) (sF s) p k = _; unfold pf; rw [if_pos hu]
      have hs1 : zsm mP m (sI (sI m' 128 k (nI (thn t (sW s) p))) 129 k (nI p)) := zsm_sI (zsm_sI hs (by unfold mP; omega) _) (by unfold mP; omega) _
      refine ⟨hin, hin, hpi, ?_⟩
      rw [show gI (sI (sI m' 128 k (nI (thn t (sW s) p))) 129 k (nI p)) 130 p = nI (pnd (vSays V) (sF s) (fun _ => w0) (sO s) p) from hp0.1]
      refine y_msays d (vM_mP hV hs1) pa hpb ⟨_, rfl, hin, hpi, hin, ?_⟩
      have h131 : gI (sI (sI (sI m' 128 k (nI (thn t (sW s) p))) 129 k (nI p)) 130 k (nI (vSays V p (pnd (vSays V) (sF s) (fun _ => w0) (sO s) p)))) 131 p = nI (pnd (fun _ x => x) (sF s) w1 (sO s) p) := hp0.2
      rw [h131]
      refine IH _ (by omega) (zsm_sI (zsm_sI hs1 (by unfold mP; omega) _) (by unfold mP; omega) _) (fun q hq => ?_) (fun q hq hz => ?_)
      · have := hm q hq
        simp only [gI_sI, show (128 : Nat) = 131 ↔ False by decide, show (128 : Nat) = 130 ↔ False by decide, show (128 : Nat) = 129 ↔ False by decide, show (129 : Nat) = 131 ↔ False by decide, show (129 : Nat) = 130 ↔ False by decide, show (129 : Nat) = 128 ↔ False by decide, show (133 : Nat) = 131 ↔ False by decide, show (133 : Nat) = 130 ↔ False by decide, show (133 : Nat) = 129 ↔ False by decide, show (133 : Nat) = 128 ↔ False by decide, show (132 : Nat) = 131 ↔ False by decide, show (132 : Nat) = 130 ↔ False by decide, show (132 : Nat) = 129 ↔ False by decide, show (132 : Nat) = 128 ↔ False by decide, false_and, if_false, true_and]
        by_cases e : q = k
        · subst e
          rw [if_pos rfl, if_pos rfl, if_pos (by omega), if_pos (by omega), e1', e2']
          exact ⟨rfl, rfl, this.2.2⟩
        · rw [if_neg e, if_neg e]
          by_cases l : q < k
          · rw [if_pos l, if_pos l] at this
            rw [if_pos (by omega), if_pos (by omega)]
            exact this
          · rw [if_neg l, if_neg l] at this
            rw [if_neg (by omega), if_neg (by omega)]
            exact this
      · simp only [gI_sI, show (130 : Nat) = 131 ↔ False by decide, show (130 : Nat) = 129 ↔ False by decide, show (130 : Nat) = 128 ↔ False by decide, show (131 : Nat) = 130 ↔ False by decide, show (131 : Nat) = 129 ↔ False by decide, show (131 : Nat) = 128 ↔ False by decide, false_and, if_false, true_and]
        by_cases e : q = k
        · subst e
          rw [if_pos rfl, if_pos rfl, if_pos (by omega), if_pos (by omega), pnd_up hJ htb hp hu, pnd_up hJ htb hp hu]
          exact ⟨rfl, rfl⟩
        · rw [if_neg e, if_neg e]
          by_cases l : q < k
          · rw [if_pos (by omega)] at hz
            have := hn q hq (by rw [if_pos l]; exact hz)
            rw [if_pos l, if_pos l] at this
            rw [if_pos (by omega), if_pos (by omega)]
            exact this
          · rw [if_neg (by omega)] at hz
            have := hn q hq (by rw [if_neg l]; exact hz)
            rw [if_neg l, if_neg l] at this
            rw [if_neg (by omega), if_neg (by omega)]
            exact this
    refine sg_Mod_passes_23 (zCall_m _) _ _ _ m' ?_
    rw [hV'.2.1]
    refine iq (nI_ge (by omega) (by omega)) ⟨hpi, ?_⟩
    rw [hcp, hcl, (hV'.2.2.1 p pa).2.2, nI_1]
    refine y_Mod_has _ _ (by omega) ⟨_, rfl, ?_⟩
    unfold upc rch at no
    rw [decide_eq_true hkn, Bool.true_and] at no
    cases hr : bt (vT V p) k with
    | false =>
      rw [hr] at no
      exact ip rfl (no rfl)
    | true =>
      rw [hr, Bool.true_and] at no
      refine iq (by decide) (y_Mod_has _ _ (by omega) ⟨_, rfl, ?_⟩)
      rw [hV'.2.2.2.2.1]
      cases hdd : bt (vD V) k with
      | true =>
        rw [hdd] at no
        exact iq (by decide) (no rfl)
      | false =>
        rw [hdd] at no
        have hup : upc V t (sW s) (sF s) p k = (match sW s k with
          | none => true
          | some x => decide (thn t (sW s) p < x) || (decide (thn t (sW s) p = x) && (match sF s k with
            | none => false
            | some q => decide (p < q)))) := by
          unfold upc rch
          rw [decide_eq_true hkn, hr, hdd]
          rfl
        refine ip rfl ⟨hin, ?_⟩
        rw [hm1, hm2]
        cases hw : sW s k with
        | none =>
          rw [hw] at hup
          exact ip (by decide) (yes hup)
        | some y =>
          have hy := hwb k y hw
          rw [hw] at hup no
          dsimp only at hup no
          refine iq (e1_n (x := y) (by omega)) ⟨hin, ?_⟩
          show @ite Prop (nI y < nI (thn t (sW s) p)) _ _ _
          by_cases l1 : y < thn t (sW s) p
          · rw [decide_eq_false (by omega), decide_eq_false (by omega)] at no
            exact ip (nI_lt l1 (by omega)) (no rfl)
          · refine iq (nI_nlt (by omega) (by omega)) ⟨hin, ?_⟩
            show @ite Prop (¬ nI (thn t (sW s) p) = nI y) _ _ _
            by_cases l2 : thn t (sW s) p = y
            · refine iq (fun z => z (by rw [l2])) ⟨hin, ?_⟩
              rw [decide_eq_false (by omega), decide_eq_true l2] at hup no
              cases hfk : sF s k with
              | none =>
                rw [hfk] at no
                refine iq ?_ (no rfl)
                show ¬ nI p ≤ (-1 : Int32)
                rw [Int32.le_iff_toInt_le, nI_toInt (by omega)]
                have : (-1 : Int32).toInt = -1 := by decide
                omega
              | some q =>
                have hq := sJ_fb hJ k q hfk
                have hqd := (hJ.2.2.2.1 k q hfk).1
                have hne : p ≠ q := fun z => by rw [z, hqd] at pb; cases pb
                rw [hfk] at hup no
                dsimp only at hup no
                show @ite Prop (nI p ≤ nI q) _ _ _
                by_cases l3 : p < q
                · rw [decide_eq_true l3] at hup
                  exact ip (nI_le (by omega) (by omega)) (yes hup)
                · rw [decide_eq_false l3] at no
                  exact iq (nI_ge (by omega) (by omega)) (no rfl)
            · rw [decide_eq_true (by omega)] at hup
              exact ip (nI_ne (by omega) (by omega) l2) (yes hup)
theorem y_passesC (d : Nat) {Q : zQ} {m : zM} {V : zV} (hV : vM m V) {t : Nat → Nat} (htb : ∀ p, p < vN V → 1 ≤ t p ∧ t p ≤ 2085) {w0 : Nat} (h0 : w0 < 10000) {w1 : Nat → Nat} {s : zS} (hJ : sJ V t s) {p : Nat} (hp : nxF (sW s) (sD s) (vN V) = some p) (hm : mX m V t w0 w1 s)
    (h : ∀ m', zsm mP m m' → mX m' V t w0 w1 (psS V t s p) → Q none m') : zCall (d + 5) m_Mod_passes [.ref 113, .int (nI p)] m Q := by
  obtain ⟨pa, pb, x, pc, pe⟩ := nxF_some hp
  have h8 := hV.1.1
  have hpi : vp_in (nI p) 8 := vp_in_nI (by omega) (by omega)
  have hcp : (nI p).toNatClampNeg = p := nI_clamp (by omega)
  have hs1 : zsm mP m (sI m 133 p 1) := zsm_sI (zsm_refl m) (by unfold mP; omega) _
  have hm0 := hm.1 p pa
  refine en_Mod_passes (d + 4) _ m (sg_Mod_passes_0 (zCall_m _) _ m ⟨hpi, hpi, hpi, ?_⟩)
  rw [hcp, show ((1 : Int32) &&& 1) = 1 from rfl]
  simp only [gI_sI, show (128 : Nat) = 133 ↔ False by decide, show (132 : Nat) = 133 ↔ False by decide, false_and, if_false]
  rw [hm0.1, hm0.2.2.2]
  have e : e1 (sW s p) + nI (t p) = nI (thn t (sW s) p) := by
    unfold thn
    rw [pc]
    exact nI_add x (t p)
  rw [e]
  refine y_passes d (vM_mP hV hs1) htb h0 hJ hp (fun m' a b => h m' (zsm_tr hs1 a) b) (vN V) 0 _ (by omega) (zsm_refl _) (fun q hq => ?_) (fun q hq hz => ?_)
  · have := hm.1 q hq
    rw [if_neg (Nat.not_lt_zero _), if_neg (Nat.not_lt_zero _)]
    simp only [gI_sI, show (128 : Nat) = 133 ↔ False by decide, show (129 : Nat) = 133 ↔ False by decide, show (132 : Nat) = 133 ↔ False by decide, false_and, if_false, true_and]
    refine ⟨this.1, this.2.1, ?_, this.2.2.2⟩
    show (if q = p then (1 : Int32) else gI m 133 q) = zb (decide (q = p) || sD s q)
    by_cases e : q = p
    · rw [if_pos e, decide_eq_true e]; rfl
    · rw [if_neg e, decide_eq_false e, Bool.false_or]; exact this.2.2.1
  · rw [if_neg (Nat.not_lt_zero _)] at hz
    rw [if_neg (Nat.not_lt_zero _), if_neg (Nat.not_lt_zero _)]
    exact hm.2 q hq hz
