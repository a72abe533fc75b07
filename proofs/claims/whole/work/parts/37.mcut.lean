/-! cut of the reference -/
def ctA (what : Nat) (r : Option (Nat × Nat)) : Int32 := if what = 1 then ctW r else ctN r
theorem y_mfew (d : Nat) {Q : zQ} {m : zM} {V : zV} (hV : vM m V) {one other what : Nat} (h1 : one < vN V) (h2 : other < vN V) (hwt : what < 2) :
    ∀ j many m', many + j = 4 → zsm mP m m' → (∀ m', zsm mP m m' → Q (some (.int (ctA what (ctF V one other j many)))) m') → ∀ u, zle [.ref 113, .int (nI one), .int (nI other), .int (nI what), .int (z1 one ||| z1 other), .int (nI many), .retAddr 0] u → zRun (zCall (d + 9)) 9 (some .int) zc_Mod_cut Q 48 u [] m'
  | 0, many, m', hk, hs, h, u, hu => by
    refine zRun_le (zCall_m _) hu (sg_Mod_cut_48 (zCall_m _) _ _ _ _ _ m' ?_)
    have h := h m' hs
    refine ip (nI_le (a := 4) (by omega) (by omega)) ?_
    unfold ctA ctF at h
    have e : (if what = 1 then ctW none else ctN none) = -5 := by split <;> rfl
    rw [e] at h
    exact h
  | j + 1, many, m', hk, hs, h, u, hu => by
    have h8 := hV.1.1
    have hp8 := pow_8 (vN V) h8
    refine zRun_le (zCall_m _) hu (sg_Mod_cut_48 (zCall_m _) _ _ _ _ _ m' ?_)
    refine iq (nI_ge (b := 4) (by omega) (by decide)) ?_
    unfold ctF at h
    have inner : ∀ i w m2, w + i = 2 ^ vN V → zsm mP m m2 → (∀ m', zsm mP m m' → Q (some (.int (ctA what (match fstF (pC V one other many) i w with
        | some w' => some (many, w')
        | none => ctF V one other j (many + 1))))) m') →
        zRun (zCall (d + 9)) 9 (some .int) zc_Mod_cut Q 57 [.ref 113, .int (nI one), .int (nI other), .int (nI what), .int (z1 one ||| z1 other), .int (nI many), .int (nI w)] [] m2 := by
      intro i
      induction i with
      | zero =>
        intro w m2 hw hs2 hq
        refine sg_Mod_cut_57 (zCall_m _) _ _ _ _ _ _ m2 ?_
        rw [(vM_mP hV hs2).2.1, show (1 : Int32) <<< (nI (vN V) &&& 31) = nI (2 ^ vN V) from z1_pow _ h8, nI_1]
        refine ip (nI_le (by omega) (by omega)) ?_
        exact y_mfew d hV h1 h2 hwt j (many + 1) m2 (by omega) hs2 hq _ (by repeat (first | exact zle_nil | apply zle_same | apply zle_new _ rfl))
      | succ i ih =>
        intro w m2 hw hs2 hq
        have hV2 := vM_mP hV hs2
        refine sg_Mod_cut_57 (zCall_m _) _ _ _ _ _ _ m2 ?_
        rw [hV2.2.1, show (1 : Int32) <<< (nI (vN V) &&& 31) = nI (2 ^ vN V) from z1_pow _ h8, nI_1 w]
        refine iq (nI_ge (by omega) (by omega)) ?_
        have hyb : ybl (nI w) (vN V) := ybl_of (by omega) h8
        unfold fstF at hq
        have next : pC V one other many w = false → ∀ m3, zsm mP m m3 → zRun (zCall (d + 9)) 9 (some .int) zc_Mod_cut Q 57 [.ref 113, .int (nI one), .int (nI other), .int (nI what), .int (z1 one ||| z1 other), .int (nI many), .int (nI (w + 1))] [] m3 := fun hp m3 hs3 => by
          rw [hp] at hq
          exact ih (w + 1) m3 (by omega) hs3 hq
        by_cases q1 : nI w &&& (z1 one ||| z1 other) = 0
        · refine iq (fun z => z q1) (y_onesC _ hyb h8 ⟨_, rfl, ?_⟩)
          have hpb := pop_b hyb h8
          by_cases q2 : pop (nI w) = many
          · refine iq (fun z => z (by rw [q2])) (y_cutBy d hV2 hyb h1 h2 fun m3 hs3 => ⟨_, rfl, zb_d (fun z => ?_) (fun z => ?_)⟩)
            · exact next (by unfold pC; rw [z]; simp) m3 (zsm_tr hs2 hs3)
            · have hp : pC V one other many w = true := by
                unfold pC
                rw [decide_eq_true q1, decide_eq_true q2, z]; rfl
              rw [if_pos hp] at hq
              have hq := hq m3 (zsm_tr hs2 hs3)
              unfold ctA at hq
              rcases (show what = 0 ∨ what = 1 by omega) with rfl | rfl
              · exact iq (fun z => z rfl) hq
              · exact ip (by decide) hq
          · exact ip (nI_ne (by omega) (by omega) q2) (next (by unfold pC; rw [decide_eq_false q2]; simp) m2 hs2)
        · exact ip q1 (next (by unfold pC; rw [decide_eq_false q1]; rfl) m2 hs2)
    refine inner (2 ^ vN V) 0 m' (Nat.zero_add _) hs ?_
    intro m2 hs2
    have h := h m2 hs2
    cases hf : fstF (pC V one other many) (2 ^ vN V) 0 with
    | some w => rw [hf] at h; exact h
    | none => rw [hf] at h; exact h
theorem yM_cut (d : Nat) {Q : zQ} {m : zM} {V : zV} (hV : vM m V) (a b c : Int32) (h : ∀ m', zsm mP m m' → Q (some (.int (aCut V a b c))) m') : zCall (d + 10) m_Mod_cut [.ref 113, .int a, .int b, .int c] m Q := by
  have h8 := hV.1.1
  have h0 := h m (zsm_refl m)
  unfold aCut at h h0
  refine en_Mod_cut (d + 9) _ _ _ m (sg_Mod_cut_0 (zCall_m _) _ _ _ m (y_Mod_isPlant _ a hV.2.1 (by omega) ⟨_, rfl, zb_c (fun ha => ?_) (fun ha => y_Mod_isPlant _ b hV.2.1 (by omega) ⟨_, rfl, zb_c (fun hb => ?_) (fun hb => y_Mod_in _ c _ (n := 2) (by decide) ⟨_, rfl, zb_d (fun hc => ?_) (fun hc => ?_)⟩)⟩)⟩))
  · rw [ha] at h0; exact h0
  · rw [ha, hb] at h0; exact h0
  · rw [ha, hb, hc] at h0; exact h0
  · rw [ha, hb, hc] at h h0
    simp only [if_true] at h h0
    obtain ⟨a1, a2⟩ := zr_k ha
    obtain ⟨b1, b2⟩ := zr_k hb
    obtain ⟨c1, c2⟩ := zr_k hc
    generalize a.toNatClampNeg = one at a1 a2 h h0
    generalize b.toNatClampNeg = other at b1 b2 h h0
    generalize c.toNatClampNeg = what at c1 c2 h h0
    subst a2 b2 c2
    by_cases e : one = other
    · rw [if_pos e] at h0
      exact iq (fun z => z (by rw [e])) h0
    · simp only [if_neg e] at h
      exact ip (nI_ne (by omega) (by omega) e) (y_mfew d hV a1 b1 c1 4 0 m rfl (zsm_refl m) h _ (zle_refl _))
