/-! the reference's small steps: takes, number, emits, whole, settle, test -/
/-- all but the place and the digits -/
def nFr (m m' : zM) : Prop := (∀ q k, ¬ (q = 113 ∧ (k = 10 ∨ k = 11)) → gI m' q k = gI m q k) ∧ (∀ q k, gL m' q k = gL m q k) ∧ ∀ q, gG m' q = gG m q
theorem nFr_refl (m : zM) : nFr m m := ⟨fun _ _ _ => rfl, fun _ _ => rfl, fun _ => rfl⟩
theorem nFr_k {m m' : zM} (h : nFr m m') {k : Nat} (hk : k = 10 ∨ k = 11) (x : Int32) : nFr m (sI m' 113 k x) :=
  ⟨fun q j hj => by rw [gIs, if_neg (by omega)]; exact h.1 q j hj, h.2.1, h.2.2⟩
section
variable {m0 m : zM} {g c n a : Nat} {tx : Nat → Nat}
theorem y_takesM (d : Nat) {Q : zQ} (hv : mGv m0 n tx) (h9 : gI m 113 9 = gI m0 113 9) (h8 : ∀ j, gI m 118 j = gI m0 118 j) (ha : gI m 113 10 = nI a) (hb : a ≤ n) {k : Nat} (hk : k < 128) (hQ1 : pI tx n k a = true → Q (some (.int 1)) (sI m 113 10 (nI (a + 1)))) (hQ2 : ¬ pI tx n k a = true → Q (some (.int 0)) m) : zCall (d + 2) m_Mod_takes [.ref 113, .int (nI k)] m Q := by
  refine en_Mod_takes (d + 1) _ m (sg_Mod_takes_0 (zCall_m _) _ m (y_nextM d hv h9 h8 ha hb ⟨_, rfl, ?_⟩))
  rw [ha, nI_1]
  by_cases q : pI tx n k a = true
  · exact ip ((nx_c hv (by omega) a).mpr q) ⟨by decide, hQ1 q⟩
  · exact iq (fun z => q ((nx_c hv (by omega) a).mp z)) ⟨by decide, hQ2 q⟩
theorem y_isDigitM (d : Nat) {Q : zQ} (hv : mGv m0 n tx) (h9 : gI m 113 9 = gI m0 113 9) (h8 : ∀ j, gI m 118 j = gI m0 118 j) (ha : gI m 113 10 = nI a) (hb : a ≤ n) (h : Q (some (.int (zb (pD tx n a)))) m) : zCall (d + 2) m_Mod_isDigit [.ref 113] m Q :=
  en_Mod_isDigit (d + 1) m (sg_Mod_isDigit_0 (zCall_m _) m (y_nextM d hv h9 h8 ha hb ⟨_, rfl, y_inM d hv 48 57 (by omega) (by omega) ⟨_, rfl, zb_1 _, h⟩⟩))
theorem y_numM (d : Nat) {Q : zQ} (hv : mGv m0 n tx) (h9 : gI m 113 9 = gI m0 113 9) (h8 : ∀ j, gI m 118 j = gI m0 118 j) (ha : gI m 113 10 = nI a) (hb : a ≤ n) (hQ1 : ∀ m' v e, pNum tx n a = (some v, e) → nFr m m' → gI m' 113 10 = nI e → gI m' 113 11 = nI v → Q (some (.int 1)) m') (hQ2 : pNum tx n a = (none, a) → Q (some (.int 0)) m) : zCall (d + 3) m_Mod_takesNumber [.ref 113] m Q := by
  have hn := hv.1
  unfold pNum at hQ1 hQ2
  have e0 : zb true = 1 := rfl
  have e1 : zb false = 0 := rfl
  refine en_Mod_takesNumber (d + 2) m (sg_Mod_takesNumber_0 (zCall_m _) m (y_isDigitM d hv h9 h8 ha hb ⟨_, rfl, ?_⟩))
  cases q : pD tx n a with
  | false =>
    rw [if_neg (by rw [q]; decide)] at hQ2
    exact iq (by decide) ⟨by decide, hQ2 rfl⟩
  | true =>
    rw [if_pos q] at hQ1
    have qa := of_decide_eq_true q
    refine ip (by decide) ?_
    have a9 : gI (sI m 113 11 0) 113 9 = gI m0 113 9 := by rw [gIs, if_neg (by omega)]; exact h9
    have a8 : ∀ j, gI (sI m 113 11 0) 118 j = gI m0 118 j := fun j => by rw [gIs, if_neg (by omega)]; exact h8 j
    have a10 : gI (sI m 113 11 0) 113 10 = nI a := by rw [gIs, if_neg (by omega)]; exact ha
    refine sg_Mod_takesNumber_16 (zCall_m _) _ _ (iq (by decide) (y_isDigitM d hv a9 a8 a10 hb ⟨_, rfl, ?_⟩))
    rw [q]
    refine iq (by decide) (y_nextM (d + 1) hv a9 a8 a10 hb ⟨_, rfl, ?_⟩)
    have n1 : nx tx n a = nI (tx a) := if_pos qa.1
    have v1 : (10 : Int32) * gI (sI m 113 11 0) 113 11 + nx tx n a - 48 = nI (tx a - 48) := by
      rw [gIs, if_pos ⟨rfl, rfl⟩, n1, show (10 : Int32) * 0 = nI 0 from rfl, nI_add, show (48 : Int32) = nI 48 from rfl, pk_sub (by omega)]
      congr 1
      omega
    rw [v1]
    generalize hm : sI (sI m 113 11 0) 113 11 (nI (tx a - 48)) = m1
    have c10 : gI m1 113 10 = nI a := by rw [← hm, gIs, if_neg (by omega)]; exact a10
    have c9 : gI m1 113 9 = gI m0 113 9 := by rw [← hm, gIs, if_neg (by omega)]; exact a9
    have c8 : ∀ j, gI m1 118 j = gI m0 118 j := fun j => by rw [← hm, gIs, if_neg (by omega)]; exact a8 j
    have c11 : gI m1 113 11 = nI (tx a - 48) := by rw [← hm, gIs, if_pos ⟨rfl, rfl⟩]
    have cf : nFr m m1 := by rw [← hm]; exact nFr_k (nFr_k (nFr_refl m) (Or.inr rfl) _) (Or.inr rfl) _
    rw [c10, nI_1]
    have b10 : gI (sI m1 113 10 (nI (a + 1))) 113 10 = nI (a + 1) := by rw [gIs, if_pos ⟨rfl, rfl⟩]
    have b9 : gI (sI m1 113 10 (nI (a + 1))) 113 9 = gI m0 113 9 := by rw [gIs, if_neg (by omega)]; exact c9
    have b8 : ∀ j, gI (sI m1 113 10 (nI (a + 1))) 118 j = gI m0 118 j := fun j => by rw [gIs, if_neg (by omega)]; exact c8 j
    have b11 : gI (sI m1 113 10 (nI (a + 1))) 113 11 = nI (tx a - 48) := by rw [gIs, if_neg (by omega)]; exact c11
    have bf : nFr m (sI m1 113 10 (nI (a + 1))) := nFr_k cf (Or.inl rfl) _
    generalize sI m1 113 10 (nI (a + 1)) = m2 at b10 b9 b8 b11 bf
    refine sg_Mod_takesNumber_16 (zCall_m _) _ _ (iq (by decide) (y_isDigitM d hv b9 b8 b10 (by omega) ⟨_, rfl, ?_⟩))
    cases q2 : pD tx n (a + 1) with
    | false =>
      rw [if_neg (by rw [q2]; decide)] at hQ1
      exact ip (by decide) ⟨by decide, hQ1 m2 _ _ rfl bf b10 b11⟩
    | true =>
      rw [if_pos q2] at hQ1
      have qb := of_decide_eq_true q2
      refine iq (by decide) (y_nextM (d + 1) hv b9 b8 b10 (by omega) ⟨_, rfl, ?_⟩)
      have n2 : nx tx n (a + 1) = nI (tx (a + 1)) := if_pos qb.1
      have v2 : (10 : Int32) * gI m2 113 11 + nx tx n (a + 1) - 48 = nI (10 * (tx a - 48) + (tx (a + 1) - 48)) := by
        rw [b11, n2, show (10 : Int32) = nI 10 from rfl, pk_mul, nI_add, show (48 : Int32) = nI 48 from rfl, pk_sub (by omega)]
        congr 1
        omega
      rw [v2, gIs, if_neg (by omega), b10, nI_1]
      refine sg_Mod_takesNumber_16 (zCall_m _) _ _ (ip (by decide) ⟨by decide, hQ1 _ _ _ rfl (nFr_k (nFr_k bf (Or.inr rfl) _) (Or.inl rfl) _) ?_ ?_⟩)
      · rw [gIs, if_pos ⟨rfl, rfl⟩]
      · rw [gIs, if_neg (by omega), gIs, if_pos ⟨rfl, rfl⟩]
theorem mSt_9 (h : mFe g c m0 m) : gI m 113 9 = gI m0 113 9 ∧ ∀ j, gI m 118 j = gI m0 118 j :=
  ⟨h.2.1 9 (by unfold rK; omega), (h.1 118 (by omega)).1⟩
theorem pil_n {m' : zM} (h : ∀ k, gI m' 125 k = gI m 125 k) : ∀ {W : List Nat}, pil m W → pil m' W
  | [], _ => trivial
  | _ :: _, hp => ⟨(h _).trans hp.1, pil_n h hp.2⟩
variable {H : zG} {W : List Nat}
theorem mSt_n {m' : zM} (h : mSt m0 g c H W a m) (hf : nFr m m') {e : Nat} (he : gI m' 113 10 = nI e) : mSt m0 g c H W e m' := by
  obtain ⟨f, h10, h21, hp, h22, h20, hc⟩ := h
  have u : ∀ q k, q ≠ 113 → gI m' q k = gI m q k := fun q k hq => hf.1 q k (fun z => hq z.1)
  refine ⟨⟨fun q hq => ⟨fun k => (u q k (fun z => hq (Or.inl z))).trans ((f.1 q hq).1 k), fun k => (hf.2.1 q k).trans ((f.1 q hq).2.1 k), (hf.2.2 q).trans (f.1 q hq).2.2⟩, fun k hk => (hf.1 113 k (fun z => hk (by unfold rK; omega))).trans (f.2.1 k hk), fun j => ⟨(u _ _ (by omega)).trans (f.2.2.1 j).1, fun hj => (u _ _ (by omega)).trans ((f.2.2.1 j).2 hj)⟩, fun j hj => (u _ _ (by omega)).trans (f.2.2.2 j hj)⟩, he, (hf.1 _ _ (by omega)).trans h21, pil_n (fun k => u _ k (by omega)) hp, (hf.1 _ _ (by omega)).trans h22, (hf.1 _ _ (by omega)).trans h20, fun j hj => (u _ _ (by omega)).trans (hc j hj)⟩
theorem mSt_at (h : mSt m0 g c H W a m) (e : Nat) : mSt m0 g c H W e (sI m 113 10 (nI e)) :=
  mSt_n h (nFr_k (nFr_refl m) (Or.inl rfl) _) (by rw [gIs, if_pos ⟨rfl, rfl⟩])
/-- another pile, of which the places are right -/
theorem mSt_w (h : mSt m0 g c H W a m) {W' : List Nat} (hp : pil m W') : mSt m0 g c H W' a (sI (sI m 113 21 (nI W'.length)) 113 22 (nI (mOp W'))) := by
  obtain ⟨f, h10, h21, _, h22, h20, hc⟩ := h
  refine ⟨mFe_k (mFe_k f (by unfold rK; omega) _) (by unfold rK; omega) _, ?_, ?_, pil_sI (by omega) (pil_sI (by omega) hp), ?_, ?_, fun j hj => ?_⟩
  · rw [gIs, if_neg (by omega), gIs, if_neg (by omega)]; exact h10
  · rw [gIs, if_neg (by omega), gIs, if_pos ⟨rfl, rfl⟩]
  · rw [gIs, if_pos ⟨rfl, rfl⟩]
  · rw [gIs, if_neg (by omega), gIs, if_neg (by omega)]; exact h20
  · rw [gIs, if_neg (by omega), gIs, if_neg (by omega)]; exact hc j hj
theorem mSt_w1 (h : mSt m0 g c H W a m) {W' : List Nat} (hp : pil m W') (ho : mOp W' = mOp W) : mSt m0 g c H W' a (sI m 113 21 (nI W'.length)) := by
  obtain ⟨f, h10, h21, _, h22, h20, hc⟩ := h
  refine ⟨mFe_k f (by unfold rK; omega) _, ?_, ?_, pil_sI (by omega) hp, ?_, ?_, fun j hj => ?_⟩
  · rw [gIs, if_neg (by omega)]; exact h10
  · rw [gIs, if_pos ⟨rfl, rfl⟩]
  · rw [gIs, if_neg (by omega), ho]; exact h22
  · rw [gIs, if_neg (by omega)]; exact h20
  · rw [gIs, if_neg (by omega)]; exact hc j hj
/-- one more on the pile -/
theorem mSt_psh (h : mSt m0 g c H W a m) {k : Nat} (hk : k ≠ 33 ∧ k ≠ 40) : mSt m0 g c H (k :: W) a (sI (sI m 125 W.length (nI k)) 113 21 (nI (W.length + 1))) := by
  obtain ⟨f, h10, h21, hp, h22, h20, hc⟩ := h
  refine ⟨mFe_k (mFe_p f _ _) (by unfold rK; omega) _, ?_, ?_, pil_sI (by omega) ⟨by rw [gIs, if_pos ⟨rfl, rfl⟩], pil_sP (Nat.le_refl _) hp⟩, ?_, ?_, fun j hj => ?_⟩
  · rw [gIs, if_neg (by omega), gIs, if_neg (by omega)]; exact h10
  · rw [gIs, if_pos ⟨rfl, rfl⟩]; rfl
  · rw [gIs, if_neg (by omega), gIs, if_neg (by omega), h22]
    show _ = nI ((if k = 33 ∨ k = 40 then 1 else 0) + mOp W)
    rw [if_neg (fun z => z.elim hk.1 hk.2), Nat.zero_add]
  · rw [gIs, if_neg (by omega), gIs, if_neg (by omega)]; exact h20
  · rw [gIs, if_neg (by omega), gIs, if_neg (by omega)]; exact hc j hj
theorem mSt_psO (h : mSt m0 g c H W a m) {k : Nat} (hk : k = 33 ∨ k = 40) : mSt m0 g c H (k :: W) a (sI (sI (sI m 113 22 (nI (mOp W + 1))) 125 W.length (nI k)) 113 21 (nI (W.length + 1))) := by
  obtain ⟨f, h10, h21, hp, h22, h20, hc⟩ := h
  refine ⟨mFe_k (mFe_p (mFe_k f (by unfold rK; omega) _) _ _) (by unfold rK; omega) _, ?_, ?_, pil_sI (by omega) ⟨by rw [gIs, if_pos ⟨rfl, rfl⟩], pil_sP (Nat.le_refl _) (pil_sI (by omega) hp)⟩, ?_, ?_, fun j hj => ?_⟩
  · rw [gIs, if_neg (by omega), gIs, if_neg (by omega), gIs, if_neg (by omega)]; exact h10
  · rw [gIs, if_pos ⟨rfl, rfl⟩]; rfl
  · rw [gIs, if_neg (by omega), gIs, if_neg (by omega), gIs, if_pos ⟨rfl, rfl⟩]
    show _ = nI ((if k = 33 ∨ k = 40 then 1 else 0) + mOp W)
    rw [if_pos hk, Nat.add_comm]
  · rw [gIs, if_neg (by omega), gIs, if_neg (by omega), gIs, if_neg (by omega)]; exact h20
  · rw [gIs, if_neg (by omega), gIs, if_neg (by omega), gIs, if_neg (by omega)]; exact hc j hj
theorem y_emitsM (d : Nat) {Q : zQ} (hg : g < 6) (h : mSt m0 g c H W a m) (h1 : 1 ≤ gN H) (hu : gU H < 100) (s : Nat) (hQ : ∀ m', mSt m0 g c (gPt H s) W a m' → Q none m') : zCall (d + 1) m_Mod_emits [.ref 113, .int (cM s)] m Q := by
  refine en_Mod_emits d _ m (sg_Mod_emits_0 (zCall_m d) _ m ?_)
  obtain ⟨f, h10, h21, hp, h22, h20, hc⟩ := h
  rw [h20]
  refine ⟨vp_in_nI (by omega) (by omega), ?_⟩
  rw [nI_clamp (by omega), gIs, if_neg (by omega), h20, nI_1]
  refine hQ _ ⟨mFe_k (mFe_s f hu _) (by unfold rK; omega) _, ?_, ?_, pil_sI (by omega) (pil_sI (by omega) hp), ?_, ?_, fun j hj => ?_⟩
  · rw [gIs, if_neg (by omega), gIs, if_neg (by omega)]; exact h10
  · rw [gIs, if_neg (by omega), gIs, if_neg (by omega)]; exact h21
  · rw [gIs, if_neg (by omega), gIs, if_neg (by omega)]; exact h22
  · rw [gIs, if_pos ⟨rfl, rfl⟩, gU_Pt h1]; rfl
  · rw [gU_Pt h1] at hj
    rw [gIs, if_neg (by omega), gIs]
    show _ = cM (up (gCo H) (gU H) s j)
    by_cases q : j = gU H
    · rw [if_pos ⟨rfl, by omega⟩, q, up_s]
    · rw [if_neg (by omega), up_n _ q]; exact hc j (by omega)
/-- what may wait -/
def pWl (W : List Nat) : Prop := ∀ k, k ∈ W → k = 33 ∨ k = 38 ∨ k = 40 ∨ k = 124
theorem pWl_t {k : Nat} {W : List Nat} (h : pWl (k :: W)) : pWl W := fun j hj => h j (List.mem_cons_of_mem k hj)
theorem pWl_h {k : Nat} {W : List Nat} (h : pWl (k :: W)) : k = 33 ∨ k = 38 ∨ k = 40 ∨ k = 124 := h k (List.mem_cons_self ..)
theorem nI_n1 (k : Nat) : nI (k + 1) - 1 = nI k := by rw [show (1 : Int32) = nI 1 from rfl, pk_sub (by omega), Nat.add_sub_cancel]
theorem y_wholeL (d : Nat) {Q : zQ} (hg : g < 6) {H0 : zG} (h1 : 1 ≤ gN H0) : ∀ (W o : List Nat) (m : zM), mSt m0 g c (gPs H0 o) W a m → pWl W → gU H0 + o.length + W.length ≤ 100 → (∀ m', mSt m0 g c (gPs H0 (mWh W o).2) (mWh W o).1 a m' → Q none m') → zRun (zCall (d + 1)) 9 none zc_Mod_whole Q 0 [.ref 113] [] m
  | [], o, m, h, hw, hb, hQ => by
    refine sg_Mod_whole_0 (zCall_m _) m ?_
    rw [h.2.2.1]
    exact ip (by decide) (hQ m h)
  | k :: W, o, m, h, hw, hb, hQ => by
    rw [List.length_cons] at hb
    have hk := pWl_h hw
    have h21 : gI m 113 21 = nI (W.length + 1) := h.2.2.1
    refine sg_Mod_whole_0 (zCall_m _) m ?_
    rw [h21, nI_n1]
    refine iq (nI_ge (a := 0) (by omega) (by omega)) ⟨vp_in_nI (by omega) (by omega), ?_⟩
    rw [nI_clamp (by omega), h.2.2.2.1.1]
    unfold mWh at hQ
    by_cases q : k = 33
    · rw [if_pos q] at hQ
      subst q
      refine iq (fun z => z rfl) (y_emitsM (s := 1800) d hg h (by rw [(gPs_N o H0).1]; exact h1) (by rw [gPs_U o H0 h1]; omega) (fun m2 hm2 => ⟨rfl, ?_⟩))
      have e21 : gI m2 113 21 = nI (W.length + 1) := hm2.2.2.1
      have e22 : gI m2 113 22 = nI (1 + mOp W) := hm2.2.2.2.2.1
      rw [gIs, if_neg (by omega), e21, e22, nI_n1, Nat.add_comm 1, nI_n1]
      refine y_wholeL d hg h1 W (o ++ [1800]) _ ?_ (pWl_t hw) (by rw [List.length_append, List.length_singleton]; omega) hQ
      rw [gPs_app]
      exact mSt_w hm2 hm2.2.2.2.1.2
    · rw [if_neg q] at hQ
      exact ip (nI_ne (b := 33) (by omega) (by omega) q) (hQ m h)
theorem y_wholeM (d : Nat) {Q : zQ} (hg : g < 6) {H0 : zG} (h1 : 1 ≤ gN H0) {W o : List Nat} (h : mSt m0 g c (gPs H0 o) W a m) (hw : pWl W) (hb : gU H0 + o.length + W.length ≤ 100) (hQ : ∀ m', mSt m0 g c (gPs H0 (mWh W o).2) (mWh W o).1 a m' → Q none m') : zCall (d + 2) m_Mod_whole [.ref 113] m Q :=
  en_Mod_whole (d + 1) m (y_wholeL d hg h1 W o m h hw hb hQ)
theorem y_settleL (d : Nat) {Q : zQ} (hg : g < 6) {H0 : zG} (h1 : 1 ≤ gN H0) {s : Nat} (hs : s = 38 ∨ s = 124) : ∀ (W o : List Nat) (m : zM), mSt m0 g c (gPs H0 o) W a m → pWl W → gU H0 + o.length + W.length ≤ 100 → (∀ m', mSt m0 g c (gPs H0 (mSet s W o).2) (mSet s W o).1 a m' → Q none m') → zRun (zCall (d + 1)) 9 none zc_Mod_settle Q 0 [.ref 113, .int (nI s)] [] m
  | [], o, m, h, hw, hb, hQ => by
    refine sg_Mod_settle_0 (zCall_m _) _ m ?_
    rw [h.2.2.1]
    exact ip (by decide) (hQ m h)
  | k :: W, o, m, h, hw, hb, hQ => by
    rw [List.length_cons] at hb
    have hk := pWl_h hw
    have h21 : gI m 113 21 = nI (W.length + 1) := h.2.2.1
    refine sg_Mod_settle_0 (zCall_m _) _ m ?_
    have h125 : gI (sI m 113 21 (nI W.length)) 125 W.length = nI k := by rw [gIs, if_neg (by omega)]; exact h.2.2.2.1.1
    have g21 : gI (sI m 113 21 (nI W.length)) 113 21 = nI W.length := by rw [gIs, if_pos ⟨rfl, rfl⟩]
    rw [h21, nI_n1, g21]
    refine iq (nI_ge (a := 0) (by omega) (by omega)) ⟨vp_in_nI (by omega) (by omega), ?_⟩
    rw [nI_clamp (by omega), h.2.2.2.1.1, h125]
    unfold mSet at hQ
    have goon : ∀ t, (t = 1801 ∨ t = 1802) → -(nI k) = cM t → mOp W = mOp (k :: W) → (∀ m', mSt m0 g c (gPs H0 (mSet s W (o ++ [t])).2) (mSet s W (o ++ [t])).1 a m' → Q none m') → zCall (d + 1) m_Mod_emits [.ref 113, .int (-(nI k))] (sI m 113 21 (nI W.length)) (fun o1 m2 => o1 = none ∧ zRun (zCall (d + 1)) 9 none zc_Mod_settle Q 0 [.ref 113, .int (nI s)] [] m2) := by
      intro t ht et eo hq
      rw [et]
      have hp := mSt_w1 h h.2.2.2.1.2 eo
      refine y_emitsM (s := t) d hg hp (by rw [(gPs_N o H0).1]; exact h1) (by rw [gPs_U o H0 h1]; omega) (fun m2 hm2 => ⟨rfl, ?_⟩)
      refine y_settleL d hg h1 hs W (o ++ [t]) m2 ?_ (pWl_t hw) (by rw [List.length_append, List.length_singleton]; omega) hq
      rw [gPs_app]
      exact hm2
    by_cases q : k = 38
    · rw [if_pos q] at hQ
      refine ip (by rw [q]; rfl) ⟨vp_in_nI (by omega) (by omega), goon 1801 (Or.inl rfl) (by rw [q]; rfl) (by rw [q]; exact (Nat.zero_add _).symm) hQ⟩
    · rw [if_neg q] at hQ
      refine iq (nI_ne (b := 38) (by omega) (by omega) q) ⟨vp_in_nI (by omega) (by omega), ?_⟩
      by_cases q2 : k = 124
      · rw [if_pos q2] at hQ
        refine iq (fun z => z (by rw [q2]; rfl)) ?_
        by_cases q3 : s = 38
        · rw [if_pos q3] at hQ
          exact ip (by rw [q3]; rfl) (hQ m h)
        · rw [if_neg q3] at hQ
          exact iq (nI_ne (b := 38) (by omega) (by omega) q3) ⟨vp_in_nI (by omega) (by omega), goon 1802 (Or.inr rfl) (by rw [q2]; rfl) (by rw [q2]; exact (Nat.zero_add _).symm) hQ⟩
      · rw [if_neg q2] at hQ
        exact ip (nI_ne (b := 124) (by omega) (by omega) q2) (hQ m h)
theorem y_settleM (d : Nat) {Q : zQ} (hg : g < 6) {H0 : zG} (h1 : 1 ≤ gN H0) {s : Nat} (hs : s = 38 ∨ s = 124) {W o : List Nat} (h : mSt m0 g c (gPs H0 o) W a m) (hw : pWl W) (hb : gU H0 + o.length + W.length ≤ 100) (hQ : ∀ m', mSt m0 g c (gPs H0 (mSet s W o).2) (mSet s W o).1 a m' → Q none m') : zCall (d + 2) m_Mod_settle [.ref 113, .int (nI s)] m Q :=
  en_Mod_settle (d + 1) _ m (y_settleL d hg h1 hs W o m h hw hb hQ)
end
