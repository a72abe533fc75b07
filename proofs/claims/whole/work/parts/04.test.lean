theorem xx_has (C : zC) (Q : zQ) (K : zK) (h s p : _) (m : zM) (H : ((gI m 21 0 ≤ p) → Q (some (.int 0)) m) ∧ (gI m 21 0 ≤ p → True) ) : True := trivial
theorem xx_1 (C : zC) (Q : zQ) (K : zK) (p : Int32) (m : zM)
  (H : (p < 0 → (0 : Int32) &&& 1 = 0 ∧ Q (some (.int 0)) m) ∧ (¬ p < 0 → (gI m 21 0 ≤ p → (0 : Int32) &&& 1 = 0 ∧ Q (some (.int 0)) m) ∧ (¬ gI m 21 0 ≤ p → (1 : Int32) &&& 1 = 1 ∧ Q (some (.int 1)) m))) :
  zseg C 3 (some .boolean) zc_Hedge_has [] Q K 12 (zfind zc_Hedge_has 0) [.ref 21, .int p] [] m := H
theorem i_vc : Claimed_1_1 ∧ Claimed_1_2 := sorry
