/-! what a call leaves: P the places, K the reference's own numbers that it may change -/
def zfr (P K : Nat → Prop) (m m' : zM) : Prop := zsm (fun q => P q ∨ q = 113) m m' ∧ ∀ k, ¬ K k → gI m' 113 k = gI m 113 k
section
variable {P K : Nat → Prop} {m m' m2 : zM}
theorem zfr_refl (m : zM) : zfr P K m m := ⟨zsm_refl m, fun _ _ => rfl⟩
theorem zfr_tr (h : zfr P K m m') (h2 : zfr P K m' m2) : zfr P K m m2 := ⟨zsm_tr h.1 h2.1, fun k hk => (h2.2 k hk).trans (h.2 k hk)⟩
theorem zfr_sI (h : zfr P K m m') {p k : Nat} (hp : P p) (h3 : p ≠ 113) (x : Int32) : zfr P K m (sI m' p k x) :=
  ⟨zsm_sI h.1 (Or.inl hp) x, fun j hj => by rw [gI_sI, if_neg (fun z => h3 z.1.symm)]; exact h.2 j hj⟩
theorem zfr_k (h : zfr P K m m') {k : Nat} (hk : K k) (x : Int32) : zfr P K m (sI m' 113 k x) :=
  ⟨zsm_sI h.1 (Or.inr rfl) x, fun j hj => by rw [gI_sI, if_neg (fun (z : 113 = 113 ∧ j = k) => hj (by rw [z.2]; exact hk))]; exact h.2 j hj⟩
theorem zfr_sL (h : zfr P K m m') {p k : Nat} (hp : P p) (x : Int64) : zfr P K m (sL m' p k x) :=
  ⟨zsm_sL h.1 (Or.inl hp) x, fun j hj => h.2 j hj⟩
theorem zfr_sG (h : zfr P K m m') {p : Nat} (hp : P p) (x : Option Nat) : zfr P K m (sG m' p x) :=
  ⟨zsm_sG h.1 (Or.inl hp) x, fun j hj => h.2 j hj⟩
theorem zfr_cpI (h : zfr P K m m') {a i b j n : Nat} (hp : P b) (h3 : b ≠ 113) : zfr P K m (cpI m' a i b j n) :=
  ⟨zsm_cpI h.1 (Or.inl hp), fun k hk => by rw [gI_cpI, if_neg (fun z => h3 z.symm)]; exact h.2 k hk⟩
theorem zfr_cpL (h : zfr P K m m') {a i b j n : Nat} (hp : P b) : zfr P K m (cpL m' a i b j n) :=
  ⟨zsm_cpL h.1 (Or.inl hp), fun k hk => h.2 k hk⟩
theorem zfr_of {P' : Nat → Prop} (h : zsm P' m m') (hp : ∀ q, P' q → P q) (h3 : ¬ P' 113) : zfr P K m m' := ⟨zsm_mo (fun q z => Or.inl (hp q z)) h, fun k _ => (h 113 h3).1 k⟩
theorem zfr_mo {P' K' : Nat → Prop} (h : zfr P' K' m m') (hp : ∀ q, P' q → P q) (hk : ∀ k, K' k → K k) : zfr P K m m' := ⟨zsm_mo (fun q z => z.elim (fun y => Or.inl (hp q y)) Or.inr) h.1, fun k z => h.2 k (fun y => z (hk k y))⟩
theorem zfr_g (h : zfr P K m m') {q : Nat} (hq : ¬ P q) (h3 : q ≠ 113) (k : Nat) : gI m' q k = gI m q k := (h.1 q (fun z => z.elim hq h3)).1 k
theorem zfr_l (h : zfr P K m m') {q : Nat} (hq : ¬ P q) (h3 : q ≠ 113) (k : Nat) : gL m' q k = gL m q k := (h.1 q (fun z => z.elim hq h3)).2.1 k
theorem vX_f {h : Nat} {V : zV} (hV : vX m h V) (hf : zfr P K m m') (hh : h < 100) (hp : ∀ q, h ≤ q → q ≤ h + 4 → ¬ P q) (hg : ∀ q, 58 ≤ q → q < 88 → ¬ P q) : vX m' h V :=
  vX_sm hV hf.1 (fun q a b z => z.elim (hp q a b) (by omega)) (fun q a b z => z.elim (hg q a b) (by omega))
theorem gMo_f {g : Nat} {G : zG} (h : gMo m g G) (hf : zfr P K m m') (hp : ∀ q, 119 ≤ q → q ≤ 124 → ¬ P q) : gMo m' g G := gMo_sm h hf.1 (fun q a b z => z.elim (hp q a b) (by omega))
theorem vM_f {V : zV} (hV : vM m V) (hf : zfr P K m m') (hp : ∀ q, 114 ≤ q → q ≤ 124 → q ≠ 118 → ¬ P q) (h0 : ¬ K 0) (h1 : ¬ K 1) (h2 : ¬ K 2) (h8 : ¬ K 8) : vM m' V := by
  obtain ⟨w, a1, a2, a3, a4, a5, a6, a7⟩ := hV
  have e : ∀ q, 114 ≤ q → q ≤ 117 → ∀ k, gI m' q k = gI m q k := fun q a b => zfr_g hf (hp q a (by omega) (by omega)) (by omega)
  refine ⟨w, (hf.2 0 h0).trans a1, fun j hj => ?_, fun j hj => (e _ (by omega) (by omega) j).trans (a3 j hj), (hf.2 2 h2).trans a4, (hf.2 1 h1).trans a5, (hf.2 8 h8).trans a6, fun g G e2 => gMo_f (a7 g G e2) hf (fun q a b => hp q (by omega) b (by omega))⟩
  obtain ⟨a, b, c⟩ := a2 j hj
  exact ⟨(e _ (by omega) (by omega) j).trans a, (e _ (by omega) (by omega) j).trans b, (e _ (by omega) (by omega) j).trans c⟩
theorem rX_f {L p : Nat} {R : zRw} (h : rX L p m R) (hf : zfr P K m m') (h1 : ¬ P p) (h2 : ¬ P (p + 1)) (h3 : p < 100) : rX L p m' R :=
  rX_sm h hf.1 (fun z => z.elim h1 (by omega)) (fun z => z.elim h2 (by omega))
theorem rM_f {L ci pa pb pe : Nat} {R : zRw} (h : rM L ci pa pb pe m R) (hf : zfr P K m m') (hc : ¬ K ci) (h1 : ¬ P pa) (h2 : ¬ P pb) (h3 : pe ≠ 0 → ¬ P pe) (q1 : pa ≠ 113) (q2 : pb ≠ 113) (q3 : pe ≠ 113) : rM L ci pa pb pe m' R :=
  ⟨(hf.2 ci hc).trans h.1, fun j hj => ⟨(zfr_g hf h1 q1 _).trans (h.2 j hj).1, fun z => (zfr_g hf h2 q2 _).trans ((h.2 j hj).2.1 z), fun z => (zfr_g hf (h3 z) q3 _).trans ((h.2 j hj).2.2 z)⟩⟩
theorem rHedge_f {V : zV} (h : rHedge m V) (hf : zfr P K m m') (h1 : ∀ q, 21 ≤ q → q ≤ 25 → ¬ P q) (h2 : ∀ q, 114 ≤ q → q ≤ 124 → q ≠ 118 → ¬ P q) (h3 : ∀ q, 58 ≤ q → q < 88 → ¬ P q) (k0 : ¬ K 0) (k1 : ¬ K 1) (k2 : ¬ K 2) (k8 : ¬ K 8) : rHedge m' V := by
  obtain ⟨a, b, c, d, e⟩ := h
  exact ⟨vX_f a hf (by omega) h1 h3, vM_f b hf h2 k0 k1 k2 k8, c, fun j x y => (zfr_g hf (h1 24 (by omega) (by omega)) (by omega) j).trans (d j x y), fun j x y => (zfr_g hf (h1 25 (by omega) (by omega)) (by omega) j).trans (e j x y)⟩
def rS (m : zM) (n : Nat) (S : zRw) : Prop := rX 8 27 m S ∧ rM 8 33 136 137 138 m S ∧ rW 5 8 n 10000 S
def rP (m : zM) (n : Nat) (R : zRw) : Prop := rX 2 29 m R ∧ rM 2 37 139 140 0 m R ∧ rW 8 2 3 n R
def rBk (m : zM) (n : Nat) (B : zRw) : Prop := rX 8 31 m B ∧ rM 8 38 141 142 143 m B ∧ rW 8 8 n n B
theorem rW_n {L A NA NA' NB NB' : Nat} {R : zRw} (h : rW L A NA NB R) (h1 : NA ≤ NA') (h2 : NB ≤ NB') : rW L A NA' NB' R :=
  ⟨h.1, fun j hj => by obtain ⟨a, b, c⟩ := h.2 j hj; exact ⟨by omega, fun z => by have := b z; omega, c⟩⟩
theorem rS_f {n n' : Nat} {S : zRw} (h : rS m n S) (hf : zfr P K m m') (hn : n ≤ n') (h1 : ¬ P 27) (h2 : ¬ P 28) (h3 : ∀ q, 136 ≤ q → q ≤ 138 → ¬ P q) (k : ¬ K 33) : rS m' n' S :=
  ⟨rX_f h.1 hf h1 h2 (by omega), rM_f h.2.1 hf k (h3 _ (by omega) (by omega)) (h3 _ (by omega) (by omega)) (fun _ => h3 _ (by omega) (by omega)) (by omega) (by omega) (by omega), rW_n h.2.2 hn (Nat.le_refl _)⟩
theorem rP_f {n n' : Nat} {S : zRw} (h : rP m n S) (hf : zfr P K m m') (hn : n ≤ n') (h1 : ¬ P 29) (h2 : ¬ P 30) (h3 : ∀ q, 139 ≤ q → q ≤ 140 → ¬ P q) (k : ¬ K 37) : rP m' n' S :=
  ⟨rX_f h.1 hf h1 h2 (by omega), rM_f h.2.1 hf k (h3 _ (by omega) (by omega)) (h3 _ (by omega) (by omega)) (fun z => absurd rfl z) (by omega) (by omega) (by omega), rW_n h.2.2 (Nat.le_refl _) hn⟩
theorem rBk_f {n n' : Nat} {S : zRw} (h : rBk m n S) (hf : zfr P K m m') (hn : n ≤ n') (h1 : ¬ P 31) (h2 : ¬ P 32) (h3 : ∀ q, 141 ≤ q → q ≤ 143 → ¬ P q) (k : ¬ K 38) : rBk m' n' S :=
  ⟨rX_f h.1 hf h1 h2 (by omega), rM_f h.2.1 hf k (h3 _ (by omega) (by omega)) (h3 _ (by omega) (by omega)) (fun _ => h3 _ (by omega) (by omega)) (by omega) (by omega) (by omega), rW_n h.2.2 hn hn⟩
theorem rLim_f (h : rLim m) (hf : zfr P K m m') (h1 : ∀ q, 27 ≤ q → q ≤ 44 → ¬ P q) : rLim m' := rLim_sm h hf.1 (fun q a b z => z.elim (h1 q a b) (by omega))
theorem rImg_f {gc : Nat} {gs : Nat → zG} (h : rImg m gc gs) (hf : zfr P K m m') (e20 : gI m' 20 2 = gI m 20 2) (h1 : ∀ q, 33 ≤ q → q ≤ 44 → ¬ P q) (h3 : ∀ q, 144 ≤ q → q ≤ 155 → ¬ P q) (h4 : ∀ q, 58 ≤ q → q < 88 → ¬ P q) (k : ∀ k, 44 ≤ k → k ≤ 51 → ¬ K k) : rImg m' gc gs := by
  obtain ⟨b, x, y, z⟩ := h
  refine ⟨b, e20.trans x, (hf.2 44 (k _ (by omega) (by omega))).trans y, fun e => ?_⟩
  obtain ⟨V, S, R, B, ⟨⟨i1, ⟨v1, v2, v3, v4, v5, v6⟩, i3, i4, i5⟩, ⟨s1, s2, s3⟩, ⟨p1, p2, p3⟩, b1, b2, b3⟩, j⟩ := z e
  have u : ∀ q, 144 ≤ q → q ≤ 155 → ∀ k, gI m' q k = gI m q k := fun q a b => zfr_g hf (h3 q a b) (by omega)
  refine ⟨V, S, R, B, ⟨⟨vX_f i1 hf (by omega) (fun q a b => h1 q a (by omega)) h4, ⟨(hf.2 _ (k _ (by omega) (by omega))).trans v1, fun t ht => ?_, fun t ht => (u _ (by omega) (by omega) t).trans (v3 t ht), (hf.2 _ (k _ (by omega) (by omega))).trans v4, (hf.2 _ (k _ (by omega) (by omega))).trans v5, (hf.2 _ (k _ (by omega) (by omega))).trans v6⟩, i3, fun t c d => (zfr_g hf (h1 36 (by omega) (by omega)) (by omega) t).trans (i4 t c d), fun t c d => (zfr_g hf (h1 37 (by omega) (by omega)) (by omega) t).trans (i5 t c d)⟩,
    ⟨rX_f s1 hf (h1 _ (by omega) (by omega)) (h1 _ (by omega) (by omega)) (by omega), rM_f s2 hf (k _ (by omega) (by omega)) (h3 _ (by omega) (by omega)) (h3 _ (by omega) (by omega)) (fun _ => h3 _ (by omega) (by omega)) (by omega) (by omega) (by omega), s3⟩,
    ⟨rX_f p1 hf (h1 _ (by omega) (by omega)) (h1 _ (by omega) (by omega)) (by omega), rM_f p2 hf (k _ (by omega) (by omega)) (h3 _ (by omega) (by omega)) (h3 _ (by omega) (by omega)) (fun z => absurd rfl z) (by omega) (by omega) (by omega), p3⟩,
    rX_f b1 hf (h1 _ (by omega) (by omega)) (h1 _ (by omega) (by omega)) (by omega), rM_f b2 hf (k _ (by omega) (by omega)) (h3 _ (by omega) (by omega)) (h3 _ (by omega) (by omega)) (fun _ => h3 _ (by omega) (by omega)) (by omega) (by omega) (by omega), b3⟩, j⟩
  obtain ⟨x, y, z⟩ := v2 t ht
  exact ⟨(u _ (by omega) (by omega) t).trans x, (u _ (by omega) (by omega) t).trans y, (u _ (by omega) (by omega) t).trans z⟩
theorem rGar_f {gc : Nat} {gs : Nat → zG} (h : rGar m gc gs) (hf : zfr P K m m') (e20 : gI m' 20 4 = gI m 20 4) (h4 : ∀ q, 58 ≤ q → q < 88 → ¬ P q) (h3 : ∀ q, 119 ≤ q → q ≤ 124 → ¬ P q) (k : ¬ K 7) : rGar m' gc gs := by
  obtain ⟨a, b, c, d⟩ := h
  refine ⟨a, e20.trans b, (hf.2 7 k).trans c, fun g hg => ?_⟩
  obtain ⟨x, y, z⟩ := d g hg
  exact ⟨x, gX_sm y hf.1 (fun q a b z => z.elim (h4 q (by omega) (by omega)) (by omega)), gMo_f z hf h3⟩
theorem rTxt_f {n : Nat} {tx : Nat → Nat} (h : rTxt m n tx) (hf : zfr P K m m') (h1 : ¬ P 88) (h2 : ¬ P 89) (h4 : ¬ P 118) (k : ¬ K 9) : rTxt m' n tx := by
  obtain ⟨a, b, c, d⟩ := h
  refine ⟨a, (zfr_g hf h1 (by omega) 0).trans b, (hf.2 9 k).trans c, fun j hj => ?_⟩
  obtain ⟨x, y, z⟩ := d j hj
  exact ⟨(zfr_g hf h2 (by omega) j).trans x, (zfr_g hf h4 (by omega) j).trans y, z⟩
theorem rTap_f (h : rTap m) (hf : zfr P K m m') (h1 : ∀ q, 101 ≤ q → q ≤ 112 → ¬ P q) (h3 : ∀ q, 157 ≤ q → q ≤ 159 → ¬ P q) : rTap m' := rTap_sm h hf.1 (fun q a b z => z.elim (h1 q a b) (by omega)) (fun q a b z => z.elim (h3 q a b) (by omega))
theorem rAct_f (h : rAct m) (hf : zfr P K m m') (h1 : ¬ P 98) (h2 : ¬ P 99) (h4 : ¬ P 156) (k : ¬ K 64) : rAct m' := by
  obtain ⟨r, a, b, c, d⟩ := h
  refine ⟨r, a, (zfr_g hf h1 (by omega) 1).trans b, (hf.2 64 k).trans c, fun j x y => ?_⟩
  rw [zfr_g hf h2 (by omega), zfr_g hf h4 (by omega)]
  exact d j x y
theorem rLow_f (h : rLow m) (hf : zfr P K m m') (h1 : ∀ q, q < 20 → ¬ P q) (h2 : ¬ P 126) : rLow m' := rLow_sm h hf.1 (fun q a z => z.elim (h1 q a) (by omega)) (fun z => z.elim h2 (by omega))
end
/-- Rel in its pieces -/
theorem Rel_i {m : zM} {V : zV} {S R B : zRw} {gc : Nat} {gs : Nat → zG} {n : Nat} {tx : Nat → Nat} (h1 : rHedge m V) (h2 : rS m (vN V) S) (h3 : rP m (vN V) R) (h4 : rBk m (vN V) B) (h5 : rLim m) (h6 : vGs gc gs V) (h7 : rImg m gc gs) (h8 : rGar m gc gs) (h9 : rTxt m n tx) (h10 : rTap m) (h11 : rAct m) (h12 : rLow m) : Rel m :=
  ⟨V, S, R, B, gc, gs, n, tx, h1, ⟨h2, h3, h4⟩, h5, h6, h7, h8, h9, h10, h11, h12⟩
