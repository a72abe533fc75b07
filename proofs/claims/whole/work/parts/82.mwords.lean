/-! the reference reads a clause's word; and enters the tests -/
section
variable {m0 m : zM} {g c n a : Nat} {tx : Nat → Nat}
theorem nFr_tr {m1 m2 m3 : zM} (h : nFr m1 m2) (h2 : nFr m2 m3) : nFr m1 m3 := ⟨fun q k hq => (h2.1 q k hq).trans (h.1 q k hq), fun q k => (h2.2.1 q k).trans (h.2.1 q k), fun q => (h2.2.2 q).trans (h.2.2 q)⟩
theorem nFr_98 (h : nFr m0 m) : gI m 113 9 = gI m0 113 9 ∧ ∀ j, gI m 118 j = gI m0 118 j := ⟨h.1 _ _ (by omega), fun j => h.1 _ _ (by omega)⟩
/-- where a word's letters stand -/
def wFr (w : Nat) : Nat := if w = 0 then 0 else if w = 1 then 4 else if w = 2 then 9 else 14
theorem wLet : ∀ w, w < 4 → ∀ j, j < (pSp w).length → lettersL.getD (wFr w + j) 0 = nI ((pSp w).getD j 0) ∧ (pSp w).getD j 0 < 128 ∧ wFr w + j < 18 := by decide +kernel
theorem y_wordL (d : Nat) {Q : zQ} (hv : mGv m0 n tx) (hl : ∀ j, j < 18 → gI m0 126 j = lettersL.getD j 0) {w bs : Nat} (hw : w < 4) (hQ : ∀ e m', e = (pSk tx n (pSp w ++ [32]) bs).2 → nFr m0 m' → gI m' 113 10 = nI e → Q (some (.int (zb (pSk tx n (pSp w ++ [32]) bs).1))) m') :
    ∀ (r : List Nat) (i a : Nat) (m : zM), (pSp w).drop i = r → i + r.length = (pSp w).length → a ≤ n → nFr m0 m → gI m 113 10 = nI a → pSk tx n (r ++ [32]) a = pSk tx n (pSp w ++ [32]) bs → zRun (zCall (d + 2)) 9 (some .boolean) zc_Mod_takesWord Q 2 [.ref 113, .int (nI (wFr w)), .int (nI (pSp w).length), .int (nI i)] [] m
  | [], i, a, m, hr, hi, ha, h, h10, hp => by
    have hn := hv.1
    obtain ⟨h9, h8⟩ := nFr_98 h
    have hL : (pSp w).length ≤ 5 := (by decide : ∀ w, w < 4 → (pSp w).length ≤ 5) w hw
    rw [List.length_nil] at hi
    refine sg_Mod_takesWord_2 (zCall_m _) _ _ _ m (ip (nI_le (by omega) (by omega)) (y_takesM (k := 32) d hv h9 h8 h10 ha (by omega) (fun q => ?_) (fun q => ?_)))
    · rw [show pSk tx n ([] ++ [32]) a = (true, a + 1) from if_pos q] at hp
      rw [← hp] at hQ
      exact ⟨_, rfl, by decide, hQ _ _ rfl (nFr_k h (Or.inl rfl) _) (by rw [gIs, if_pos ⟨rfl, rfl⟩])⟩
    · rw [show pSk tx n ([] ++ [32]) a = (false, a) from if_neg q] at hp
      rw [← hp] at hQ
      exact ⟨_, rfl, by decide, hQ _ _ rfl h h10⟩
  | k :: r, i, a, m, hr, hi, ha, h, h10, hp => by
    have hn := hv.1
    obtain ⟨h9, h8⟩ := nFr_98 h
    have hL : (pSp w).length ≤ 5 := (by decide : ∀ w, w < 4 → (pSp w).length ≤ 5) w hw
    rw [List.length_cons] at hi
    have hc : k = (pSp w).getD i 0 := by rw [List.getD_eq_getElem?_getD, ← Nat.add_zero i, ← List.getElem?_drop, hr]; rfl
    have hr2 : (pSp w).drop (i + 1) = r := by rw [← List.drop_drop, hr]; rfl
    obtain ⟨l1, l2, l3⟩ := wLet w hw i (by omega)
    rw [← hc] at l1 l2
    have hb : gI m 126 (wFr w + i) = nI k := by rw [h.1 _ _ (by omega), hl _ l3, l1]
    refine sg_Mod_takesWord_2 (zCall_m _) _ _ _ m (iq (nI_ge (by omega) (by omega)) ?_)
    rw [nI_add, nI_clamp (by omega), hb, nI_1]
    refine ⟨vp_in_nI l3 (by omega), y_takesM d hv h9 h8 h10 ha l2 (fun q => ?_) (fun q => ?_)⟩
    · have qa := (pI_t.mp q).1
      rw [show pSk tx n (k :: r ++ [32]) a = pSk tx n (r ++ [32]) (a + 1) from if_pos q] at hp
      exact ⟨_, rfl, ip (by decide) (y_wordL d hv hl hw hQ r (i + 1) (a + 1) _ hr2 (by omega) (by omega) (nFr_k h (Or.inl rfl) _) (by rw [gIs, if_pos ⟨rfl, rfl⟩]) hp)⟩
    · rw [show pSk tx n (k :: r ++ [32]) a = (false, a) from if_neg q] at hp
      rw [← hp] at hQ
      exact ⟨_, rfl, iq (by decide) ⟨by decide, hQ _ _ rfl h h10⟩⟩
theorem y_wordM (d : Nat) {Q : zQ} (hv : mGv m0 n tx) (hl : ∀ j, j < 18 → gI m0 126 j = lettersL.getD j 0) (h10 : gI m0 113 10 = nI a) (ha : a ≤ n) {w : Nat} (hw : w < 4) (hQ : ∀ m', nFr m0 m' → gI m' 113 10 = nI (pSk tx n (pSp w ++ [32]) a).2 → Q (some (.int (zb (pSk tx n (pSp w ++ [32]) a).1))) m') : zCall (d + 3) m_Mod_takesWord [.ref 113, .int (nI (wFr w)), .int (nI (pSp w).length)] m0 Q :=
  en_Mod_takesWord (d + 2) _ _ m0 (sg_Mod_takesWord_0 (zCall_m _) _ _ m0 (y_wordL d hv hl hw (bs := a) (fun e m' he hf h => hQ m' hf (he ▸ h)) (pSp w) 0 a m0 rfl (Nat.zero_add _) ha (nFr_refl m0) h10 rfl))
/-- the word that the reference takes it for -/
def mWd (t : Nat) : Nat := if t = 102 then 2 else if t = 113 then 1 else if t = 115 then 0 else 3
theorem mWd_b (t : Nat) : mWd t < 4 := by unfold mWd; repeat (first | omega | split)
theorem mWd_w (t : Nat) : (pWd t < 4 → mWd t = pWd t) ∧ (¬ pWd t < 4 → mWd t = 3) := by
  by_cases z1 : t = 115
  · subst z1; decide
  by_cases z2 : t = 113
  · subst z2; decide
  by_cases z3 : t = 102
  · subst z3; decide
  by_cases z4 : t = 108
  · subst z4; decide
  have e1 : pWd t = 4 := by unfold pWd; rw [if_neg z1, if_neg z2, if_neg z3, if_neg z4]
  have e2 : mWd t = 3 := by unfold mWd; rw [if_neg z3, if_neg z2, if_neg z1]
  exact ⟨fun z => by omega, fun _ => e2⟩
/-- the first of the clause's sign stands for the word -/
def fst1 (tx : Nat → Nat) (n a : Nat) : Nat := if a < n then mWd (tx a) else 3
theorem y_headM (d : Nat) {Q : zQ} (hv : mGv m0 n tx) (hl : ∀ j, j < 18 → gI m0 126 j = lettersL.getD j 0) (h10 : gI m0 113 10 = nI a) (ha : a ≤ n) (hc : c < 60) (hQ : ∀ m', nFr (sI m0 120 c (nI (fst1 tx n a))) m' → gI m' 113 10 = nI (pSk tx n (pSp (fst1 tx n a) ++ [32]) a).2 → Q (some (.int (zb (pSk tx n (pSp (fst1 tx n a) ++ [32]) a).1))) m') : zCall (d + 4) m_Mod_takesHead [.ref 113, .int (nI c)] m0 Q := by
  have hn := hv.1
  refine en_Mod_takesHead (d + 3) _ m0 (sg_Mod_takesHead_0 (zCall_m _) _ m0 (y_nextM (d + 2) hv rfl (fun _ => rfl) h10 ha ⟨_, rfl, ?_⟩))
  rw [nI_clamp (by omega)]
  have go : ∀ w : Nat, w < 4 → fst1 tx n a = w → vp_in (nI c) 60 ∧ (zCall (d + 3) m_Mod_takesWord [.ref 113, .int (nI (wFr w)), .int (nI (pSp w).length)] (sI m0 120 c (nI w)) (fun o13 m14 => ∃ x15, o13 = some (.int x15) ∧ (x15 &&& 1 = x15 ∧ Q (some (.int x15)) m14))) := by
    intro w hw hf
    rw [hf] at hQ
    refine ⟨vp_in_nI hc (by omega), y_wordM d (m0 := sI m0 120 c (nI w)) ⟨hv.1, ?_, fun j hj => ?_⟩ (fun j hj => ?_) ?_ ha hw (fun m' hf' h' => ⟨_, rfl, zb_1 _, hQ m' hf' h'⟩)⟩
    · rw [gIs, if_neg (by omega)]; exact hv.2.1
    · rw [gIs, if_neg (by omega)]; exact hv.2.2 j hj
    · rw [gIs, if_neg (by omega)]; exact hl j hj
    · rw [gIs, if_neg (by omega)]; exact h10
  have e : ∀ t, t < 128 → (nx tx n a = nI t ↔ a < n ∧ tx a = t) := fun t ht => (nx_c hv (by omega) a).trans pI_t
  by_cases q1 : nx tx n a = nI 102
  · obtain ⟨x, y⟩ := (e 102 (by omega)).mp q1
    exact ip q1 (go 2 (by omega) (by unfold fst1; rw [if_pos x, y]; rfl))
  refine iq q1 ?_
  by_cases q2 : nx tx n a = nI 113
  · obtain ⟨x, y⟩ := (e 113 (by omega)).mp q2
    exact ip q2 (go 1 (by omega) (by unfold fst1; rw [if_pos x, y]; rfl))
  refine iq q2 ?_
  by_cases q3 : nx tx n a = nI 115
  · obtain ⟨x, y⟩ := (e 115 (by omega)).mp q3
    exact ip q3 (go 0 (by omega) (by unfold fst1; rw [if_pos x, y]; rfl))
  refine iq q3 (go 3 (by omega) ?_)
  unfold fst1
  by_cases x : a < n
  · rw [if_pos x]
    unfold mWd
    rw [if_neg (fun z => q1 ((e 102 (by omega)).mpr ⟨x, z⟩)), if_neg (fun z => q2 ((e 113 (by omega)).mpr ⟨x, z⟩)), if_neg (fun z => q3 ((e 115 (by omega)).mpr ⟨x, z⟩))]
  · rw [if_neg x]
/-- so the clause that both read is one -/
theorem pCl_m (ha : a ≤ n) : pCl tx n a = match pSk tx n (pSp (fst1 tx n a) ++ [32]) a with
    | (false, e) => (none, e)
    | (true, e) =>
      match pNum tx n e with
      | (none, e1) => (none, e1)
      | (some v, e1) => pBody tx n (fst1 tx n a) v e1 := by
  unfold pCl
  by_cases q : a < n ∧ pWd (tx a) < 4
  · have ew : fst1 tx n a = pWd (tx a) := by
      unfold fst1
      rw [if_pos q.1]
      exact (mWd_w _).1 q.2
    rw [if_pos q, ew]
    rfl
  · have ew : fst1 tx n a = 3 := by
      unfold fst1
      by_cases x : a < n
      · rw [if_pos x]
        exact (mWd_w _).2 (fun z => q ⟨x, z⟩)
      · rw [if_neg x]
    have hp : ¬ pI tx n 108 a = true := fun z => by
      obtain ⟨x, y⟩ := pI_t.mp z
      exact q ⟨x, by rw [y]; decide⟩
    rw [if_neg q, ew, show pSk tx n (pSp 3 ++ [32]) a = (false, a) from if_neg hp]
/-- the tests of a clause, from the start -/
theorem y_takesEM (d : Nat) {Q : zQ} (hg : g < 6) {H0 : zG} (hv : mGv m n tx) (h1 : 1 ≤ gN H0) (hc : c < 60) (h10 : gI m 113 10 = nI a) (h20 : gI m 113 20 = nI (100 * g + gU H0)) (hco : ∀ j, j < gU H0 → gI m 124 (100 * g + j) = cM (gCo H0 j)) (ha : a ≤ n) (ha1 : 1 ≤ a) (hu : gU H0 ≤ a)
    (hQ : ∀ m', eDone (sI (sI (sI m 113 21 0) 113 22 0) 122 c (nI (100 * g + gU H0))) g c n H0 (pE tx n (pPart tx n 4) a).2 m' (pE tx n (pPart tx n 4) a).1 → Q (some (.int (zb (pE tx n (pPart tx n 4) a).1.isSome))) m') : zCall (d + 5) m_Mod_takesE [.ref 113, .int (nI c)] m Q := by
  have hn := hv.1
  refine en_Mod_takesE (d + 4) _ m (sg_Mod_takesE_0 (zCall_m _) _ m ⟨vp_in_nI hc (by omega), ?_⟩)
  have f : gI (sI (sI m 113 21 0) 113 22 0) 113 20 = nI (100 * g + gU H0) := by rw [gIs, if_neg (by omega), gIs, if_neg (by omega)]; exact h20
  rw [nI_clamp (by omega), f]
  generalize hM : sI (sI (sI m 113 21 0) 113 22 0) 122 c (nI (100 * g + gU H0)) = M at hQ
  have u : ∀ q k, ¬ (q = 122 ∧ k = c) → ¬ (q = 113 ∧ k = 22) → ¬ (q = 113 ∧ k = 21) → gI M q k = gI m q k := fun q k x y z => by rw [← hM, gIs, if_neg x, gIs, if_neg y, gIs, if_neg z]
  have hv2 : mGv M n tx := ⟨hv.1, by rw [u _ _ (by omega) (by omega) (by omega)]; exact hv.2.1, fun j hj => by rw [u _ _ (by omega) (by omega) (by omega)]; exact hv.2.2 j hj⟩
  have hS : mSt M g c H0 [] a M := by
    refine ⟨mFe_refl M, ?_, ?_, trivial, ?_, ?_, fun j hj => ?_⟩
    · rw [u _ _ (by omega) (by omega) (by omega)]; exact h10
    · rw [← hM, gIs, if_neg (by omega), gIs, if_neg (by omega), gIs, if_pos ⟨rfl, rfl⟩]; rfl
    · rw [← hM, gIs, if_neg (by omega), gIs, if_pos ⟨rfl, rfl⟩]; rfl
    · rw [u _ _ (by omega) (by omega) (by omega)]; exact h20
    · rw [u _ _ (by omega) (by omega) (by omega)]; exact hco j hj
  obtain ⟨k, hk⟩ := sim_E (tx := tx) hn ha ha1 rfl []
  rcases hx : pE tx n (pPart tx n 4) a with ⟨_ | x, e⟩
  · rw [hx] at hQ hk
    exact y_takesEL d hg hv2 h1 hc (res := none) (e := e) (fun m' hm' => hQ m' hm') k true [] a [] M hk hS ha (fun _ hz => by cases hz) hu
  · rw [hx] at hQ hk
    exact y_takesEL d hg hv2 h1 hc (res := some ([] ++ x)) (e := e) (fun m' hm' => hQ m' hm') k true [] a [] M hk hS ha (fun _ hz => by cases hz) hu
end
