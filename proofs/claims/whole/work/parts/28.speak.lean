/-! the class's hearing: speak, say (gen28.py) -/
/-- who told it is among those ahead -/
def oT (f : Nat → Option Nat) : List Nat → Prop
  | [] => True
  | p :: r => (∀ q, f p = some q → q ∈ r) ∧ p ∉ r ∧ oT f r
theorem spk_cg {V : zV} {f g : Nat → Option Nat} {w0 : Nat} : ∀ {L : List Nat}, (∀ p, p ∈ L → f p = g p) → ∀ x, spk V f w0 L x = spk V g w0 L x
  | [], _, _ => rfl
  | p :: r, h, x => by
    have ih := fun y => spk_cg (V := V) (w0 := w0) (fun q hq => h q (List.mem_cons_of_mem p hq)) y
    unfold spk
    rw [h p List.mem_cons_self, ih x]
    cases hg : g p with
    | none => rfl
    | some q =>
      show (if x = p then vSays V q (spk V f w0 r q) else _) = (if x = p then vSays V q (spk V g w0 r q) else _)
      rw [ih q]
theorem oT_cg {f g : Nat → Option Nat} : ∀ {L : List Nat}, (∀ p, p ∈ L → f p = g p) → oT f L → oT g L
  | [], _, _ => trivial
  | p :: r, h, t => ⟨fun q hq => t.1 q (by rw [h p List.mem_cons_self]; exact hq), t.2.1, oT_cg (fun q hq => h q (List.mem_cons_of_mem p hq)) t.2.2⟩
theorem ps_f {V : zV} {t : Nat → Nat} {s : zS} (hJ : sJ V t s) (ht : ∀ p, p < vN V → 1 ≤ t p ∧ t p ≤ 2085) {p : Nat} (hp : nxF (sW s) (sD s) (vN V) = some p) {d : Nat} (hd : sD s d = true ∨ d = p) : sF (psS V t s p) d = sF s d ∧ sW (psS V t s p) d = sW s d := by
  have u := upc_dn hJ ht hp hd
  constructor
  · show pf V t (sW s) (sF s) p d = _
    unfold pf
    rw [if_neg (by rw [u]; decide)]
  · show pw V t (sW s) (sF s) p d = _
    unfold pw
    rw [if_neg (by rw [u]; decide)]
theorem oT_ps {V : zV} {t : Nat → Nat} {s : zS} (hJ : sJ V t s) (ht : ∀ p, p < vN V → 1 ≤ t p ∧ t p ≤ 2085) {p : Nat} (hp : nxF (sW s) (sD s) (vN V) = some p) (h : oT (sF s) (sO s)) : oT (sF (psS V t s p)) (sO (psS V t s p)) := by
  obtain ⟨a, b, _⟩ := nxF_some hp
  refine ⟨fun q hq => ?_, fun z => ?_, oT_cg (fun q hq => ((ps_f hJ ht hp (Or.inl ((hJ.2.1 q).mpr hq))).1).symm) h⟩
  · rw [(ps_f hJ ht hp (Or.inr rfl)).1] at hq
    exact (hJ.2.1 q).mp (hJ.2.2.2.1 p q hq).1
  · rw [(hJ.2.1 p).mpr z] at b
    cases b
theorem oT_rn {V : zV} {t : Nat → Nat} (ht : ∀ p, p < vN V → 1 ≤ t p ∧ t p ≤ 2085) : ∀ k s, sJ V t s → oT (sF s) (sO s) → oT (sF (rnS V t k s)) (sO (rnS V t k s))
  | 0, _, _, h => h
  | k + 1, s, hJ, h => by
    unfold rnS
    cases hp : nxF (sW s) (sD s) (vN V) with
    | none => exact h
    | some p => exact oT_rn ht k _ (sJ_ps hJ ht hp) (oT_ps hJ ht hp h)
/-- the last n of a list: from its end -/
def tl : List Nat → Nat → List Nat
  | [], _ => []
  | p :: r, n => if n ≤ r.length then tl r n else p :: r
theorem tl_all : ∀ L : List Nat, tl L L.length = L
  | [] => rfl
  | p :: r => by
    unfold tl
    rw [List.length_cons, if_neg (by omega)]
theorem tl_0 : ∀ L : List Nat, tl L 0 = []
  | [] => rfl
  | p :: r => by unfold tl; rw [if_pos (Nat.zero_le _)]; exact tl_0 r
theorem tl_s {m : zM} {f : Nat → Option Nat} : ∀ {L : List Nat} {k : Nat}, oL m L → oT f L → k < L.length → ∃ p, gI m 96 k = nI p ∧ p ∈ L ∧ tl L (k + 1) = p :: tl L k ∧ (tl L k).length = k ∧ (∀ q, f p = some q → q ∈ tl L k) ∧ p ∉ tl L k
  | [], _, _, _, h => absurd h (Nat.not_lt_zero _)
  | p :: r, k, h, ht, hk => by
    rw [List.length_cons] at hk
    by_cases e : k < r.length
    · obtain ⟨q, a, b, c, d, x, y⟩ := tl_s (k := k) h.2 ht.2.2 e
      refine ⟨q, a, List.mem_cons_of_mem p b, ?_, ?_, ?_, ?_⟩
      · unfold tl
        rw [if_pos (by omega), if_pos (by omega)]
        exact c
      · unfold tl
        rw [if_pos (by omega)]
        exact d
      · unfold tl
        rw [if_pos (by omega)]
        exact x
      · unfold tl
        rw [if_pos (by omega)]
        exact y
    · have e : k = r.length := by omega
      subst e
      have h1 : tl (p :: r) r.length = r := by
        unfold tl
        rw [if_pos (Nat.le_refl _)]
        exact tl_all r
      have h2 : tl (p :: r) (r.length + 1) = p :: r := tl_all (p :: r)
      rw [h1, h2]
      exact ⟨p, h.1, List.mem_cons_self, rfl, rfl, ht.1, ht.2.1⟩
theorem spk_in {V : zV} {f : Nat → Option Nat} {w0 p : Nat} (r : List Nat) : spk V f w0 (p :: r) p = match f p with
    | none => w0
    | some q => vSays V q (spk V f w0 r q) := by
  unfold spk
  rw [if_pos rfl]
  cases f p <;> (first | rfl | (cases r <;> rfl))
theorem spk_out {V : zV} {f : Nat → Option Nat} {w0 p x : Nat} (r : List Nat) (h : x ≠ p) : spk V f w0 (p :: r) x = spk V f w0 r x := by
  rw [spk, if_neg h]
theorem y_speak (d : Nat) {Q : zQ} {m : zM} {V : zV} (hV : vX m 21 V) {t : Nat → Nat} {s : zS} (hJ : sJ V t s) (hT : oT (sF s) (sO s)) {w0 : Nat} (h0 : w0 < 10000) (hm : hX m (vN V) s)
    (h : ∀ m', zsm (fun q => q = 97) m m' → (∀ p, p ∈ sO s → gI m' 97 p = nI (spk V (sF s) w0 (sO s) p)) → Q none m') :
    ∀ j k m', k + j = (sO s).length → zsm (fun q => q = 97) m m' → (∀ p, p ∈ tl (sO s) k → gI m' 97 p = nI (spk V (sF s) w0 (tl (sO s) k) p)) →
    ∀ u, zle [.ref 92, .ref 21, .int (nI w0), .int (nI k), .retAddr 0, .retAddr 0] u → zRun (zCall (d + 3)) 2 none zc_Hearing_speak Q 2 u [] m'
  | 0, k, m', hk, hs, hw, u, hu => by
    have hl := hJ.2.2.2.2.2.2.1
    have hc := cnt_le (sD s) (vN V)
    have h8 := hV.1.1
    refine zRun_le (zCall_m _) hu (sg_Hearing_speak_2 (zCall_m _) _ _ m' ?_)
    rw [(hs 92 (by decide)).1, hm.2.1]
    refine ip (nI_le (by omega) (by omega)) (h m' hs ?_)
    rw [show k = (sO s).length by omega, tl_all] at hw
    exact hw
  | j + 1, k, m', hk, hs, hw, u, hu => by
    have hV' := vX_sm hV hs (fun q a b z => by omega) (fun q a b z => by omega)
    have hl := hJ.2.2.2.2.2.2.1
    have hc := cnt_le (sD s) (vN V)
    have h8 := hV.1.1
    have hm9 : ∀ p, p < vN V → gI m' 95 p = e5 (sF s p) := fun p hp => ((hs 95 (by decide)).1 p).trans (hm.1 p hp).2
    obtain ⟨p, p1, p2, p3, p4, p5, p6⟩ := tl_s (k := k) (oL_sm hs (by decide) hm.2.2) hT (by omega)
    have hpn : p < vN V := sJ_dn hJ ((hJ.2.1 p).mpr p2)
    have hin : vp_in (nI p) 8 := vp_in_nI (by omega) (by omega)
    refine zRun_le (zCall_m _) hu (sg_Hearing_speak_2 (zCall_m _) _ _ m' ?_)
    rw [(hs 92 (by decide)).1, hm.2.1]
    refine iq (nI_ge (by omega) (by omega)) ⟨vp_in_nI (by omega) (by omega), ?_⟩
    rw [nI_clamp (by omega), p1, nI_clamp (by omega), hm9 p hpn, nI_1]
    refine ⟨hin, ?_⟩
    have IH : ∀ y a b, y = nI (spk V (sF s) w0 (p :: tl (sO s) k) p) → zRun (zCall (d + 3)) 2 none zc_Hearing_speak Q 2 [.ref 92, .ref 21, .int (nI w0), .int (nI (k + 1)), .int a, .int b] [] (sI m' 97 p y) := by
      rintro y a b rfl
      refine y_speak d hV hJ hT h0 hm h j (k + 1) _ (by omega) (zsm_sI (P := fun q => q = 97) hs (show (97 : Nat) = 97 from rfl) _) (fun q hq => ?_) _ (by repeat (first | exact zle_nil | apply zle_same | apply zle_new _ rfl))
      rw [p3] at hq ⊢
      rw [gI_sI]
      by_cases e : q = p
      · subst e
        rw [if_pos ⟨rfl, rfl⟩]
      · rw [if_neg (fun z => e z.2), spk_out _ e]
        rcases List.mem_cons.mp hq with z | z
        · exact absurd z e
        · exact hw q z
    rw [spk_in] at IH
    cases hf : sF s p with
    | none =>
      rw [hf] at IH
      exact iq (by decide) ⟨hin, IH _ _ _ rfl⟩
    | some q =>
      rw [hf] at IH
      have hq := p5 q hf
      have hqn := sJ_fb hJ p q hf
      have hqi : vp_in (nI q) 8 := vp_in_nI (by omega) (by omega)
      have hsb := spk_b hV.1 (f := sF s) h0 (tl (sO s) k) q
      show @ite Prop ((0 : Int32) ≤ nI q) _ _ _
      refine ip (nI_pos' (by omega)) ⟨hqi, ?_⟩
      show zCall (d + 3) m_Hedge_passedOn [.ref 21, .int (nI q), .int (gI m' 97 (nI q).toNatClampNeg)] m' _
      rw [nI_clamp (by omega), hw q hq]
      refine y_says_21 d hV' hqn hsb ⟨_, rfl, ?_⟩
      exact ⟨hin, IH _ _ _ rfl⟩
theorem y_speakC (d : Nat) {Q : zQ} {m : zM} {V : zV} (hV : vX m 21 V) {t : Nat → Nat} {s : zS} (hJ : sJ V t s) (hT : oT (sF s) (sO s)) {w0 : Nat} (h0 : w0 < 10000) (hm : hX m (vN V) s)
    (h : ∀ m', zsm (fun q => q = 97) m m' → (∀ p, p ∈ sO s → gI m' 97 p = nI (spk V (sF s) w0 (sO s) p)) → Q none m') : zCall (d + 4) m_Hearing_speak [.ref 92, .ref 21, .int (nI w0)] m Q :=
  en_Hearing_speak (d + 3) _ m (sg_Hearing_speak_0 (zCall_m _) _ m (y_speak d hV hJ hT h0 hm h (sO s).length 0 m (by omega) (zsm_refl m) (fun p hp => by rw [tl_0] at hp; cases hp) _ (zle_refl _)))
theorem hX_sm {P : Nat → Prop} {m m' : zM} (hs : zsm P m m') (h92 : ¬ P 92) (h94 : ¬ P 94) (h95 : ¬ P 95) (h96 : ¬ P 96) {n : Nat} {s : zS} (h : hX m n s) : hX m' n s :=
  ⟨fun p hp => ⟨((hs 94 h94).1 p).trans (h.1 p hp).1, ((hs 95 h95).1 p).trans (h.1 p hp).2⟩, ((hs 92 h92).1 4).trans h.2.1, oL_sm hs h96 h.2.2⟩
theorem hTk_sm {P : Nat → Prop} {m m' : zM} (hs : zsm P m m') (h93 : ¬ P 93) {n : Nat} {t : Nat → Nat} (h : hTk m n t) : hTk m' n t := fun p hp => ((hs 93 h93).1 p).trans (h p hp)
def hP3 (q : Nat) : Prop := q = 26 ∨ q = 50 ∨ (92 ≤ q ∧ q ≤ 97)
def sT (V : zV) (b : Nat → Bool) : zS := spr V (vTakes V) b
theorem sT_J {V : zV} (hw : vWf V) (b : Nat → Bool) : sJ V (vTakes V) (sT V b) := sJ_rn (fun _ hp => vTakes_b hw hp) _ _ (sJ_0 V _ b)
theorem sT_T {V : zV} (hw : vWf V) (b : Nat → Bool) : oT (sF (sT V b)) (sO (sT V b)) := oT_rn (fun _ hp => vTakes_b hw hp) _ _ (sJ_0 V _ b) trivial
/-- all that a question of the class's finds when it has been said -/
def hSaid (m : zM) (V : zV) (b : Nat → Bool) : Prop := hX m (vN V) (sT V b) ∧ hTk m (vN V) (vTakes V)
def hWds (m : zM) (V : zV) (b : Nat → Bool) (w0 : Nat) : Prop := ∀ p, p ∈ sO (sT V b) → gI m 97 p = nI (spk V (sF (sT V b)) w0 (sO (sT V b)) p)
theorem y_say (d : Nat) {Q : zQ} {m : zM} {V : zV} (hV : vX m 21 V) {one w0 : Nat} (h1 : one < 32) (h0 : w0 < 10000) (h : ∀ m', zsm hP3 m m' → hSaid m' V (fun p => decide (p = one)) → hWds m' V (fun p => decide (p = one)) w0 → Q none m') : zCall (d + 6) m_Qu_say [.ref 90, .int (nI one), .int (nI w0)] m Q := by
  refine en_Qu_say (d + 5) _ _ m (sg_Qu_say_0 (zCall_m _) _ _ m (y_measureC_21 d hV fun m1 hs1 ht1 => ⟨rfl, y_Box_bit _ _ ⟨_, rfl, ?_⟩⟩))
  have hV1 := vX_sm hV hs1 (fun q a b z => by omega) (fun q a b z => by omega)
  have hb : ∀ p, p < vN V → bt (z1 one) p = decide (p = one) := fun p hp => b_z1 one h1 p (by have := hV.1.1; omega)
  refine y_spreadC_21 (d + 1) hV1 ht1 (fun p hp => vTakes_b hV.1 hp) (z1 one) fun m2 hs2 hm2 => ⟨rfl, ?_⟩
  have he : st0 V (bt (z1 one)) = st0 V (fun p => decide (p = one)) := by
    unfold st0
    congr 1
    funext p
    by_cases hp : p < vN V
    · rw [hb p hp]
    · rw [decide_eq_false hp]; rfl
  have hm2 : hX m2 (vN V) (sT V (fun p => decide (p = one))) := by
    unfold sT
    unfold spr at hm2 ⊢
    rw [← he]
    exact hm2
  have hV2 := vX_sm hV1 hs2 (fun q a b z => by unfold hP2 at z; omega) (fun q a b z => by unfold hP2 at z; omega)
  have ht2 := hTk_sm hs2 (by unfold hP2; omega) ht1
  refine y_speakC (d + 1) hV2 (sT_J hV.1 _) (sT_T hV.1 _) h0 hm2 fun m3 hs3 hw3 => ⟨rfl, h m3 ?_ ⟨hX_sm hs3 (by decide) (by decide) (by decide) (by decide) hm2, hTk_sm hs3 (by decide) ht2⟩ hw3⟩
  exact zsm_tr (zsm_mo (fun q z => by unfold hP3; omega) hs1) (zsm_tr (zsm_mo (fun q z => by unfold hP2 at z; unfold hP3; omega) hs2) (zsm_mo (fun q z => by unfold hP3; omega) hs3))
