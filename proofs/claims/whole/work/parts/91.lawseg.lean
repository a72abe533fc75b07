/-! the law's stretches, over any K that the small machine's steps lead into (gen91.py) -/
def zKc (C : zC) (own : Nat) (ret : Option FieldType) (cd : List (Nat × Instr)) (Q : zQ) (K : zK) : Prop := ∀ pc ls st m, zstep C own ret cd Q K pc ls st m → K pc ls st m
theorem zsegK {C : zC} {own : Nat} {ret : Option FieldType} {cd : List (Nat × Instr)} {cut : List Nat} {Q : zQ} {K : zK} (hC : zCm C) (hK : zKc C own ret cd Q K) (hs : zsrt cd = true) :
    ∀ (n : Nat) (pre r : List (Nat × Instr)) (k : Nat) (i : Instr) (ls st : List Value) (m : zM), cd = pre ++ (k, i) :: r → zseg C own ret cd cut Q K n ((k, i) :: r) ls st m → K k ls st m
  | 0, _, _, _, _, _, _, _, _, h => h.elim
  | n + 1, pre, r, k, i, ls, st, m, hcd, h => by
    refine hK _ _ _ _ ?_
    unfold zstep
    rw [zfind_of hs hcd]
    refine zwp_m hC (fun pc' ls' st' m' h' => ?_) (fun _ _ q => q) h
    have jump : zseg C own ret cd cut Q K n (zfind cd pc') ls' st' m' → K pc' ls' st' m' := by
      intro h2
      obtain ⟨pre2, e2⟩ := zfind_suf cd pc'
      cases hf : zfind cd pc' with
      | nil =>
        rw [hf] at h2
        cases n with
        | zero => exact h2.elim
        | succ n => exact h2.elim
      | cons e t =>
        obtain ⟨k2, i2⟩ := e
        have hk : k2 = pc' := by
          have : ∀ (l : List (Nat × Instr)), zfind l pc' = (k2, i2) :: t → k2 = pc' := by
            intro l
            induction l with
            | nil => intro h; cases h
            | cons a l ih =>
              obtain ⟨a1, a2⟩ := a
              intro h
              unfold zfind at h
              cases hb : Nat.beq a1 pc' with
              | true =>
                rw [hb] at h
                cases h
                exact Nat.eq_of_beq_eq_true hb
              | false =>
                rw [hb] at h
                exact ih h
          exact this cd hf
        subst hk
        rw [hf] at h2 e2
        exact zsegK hC hK hs n pre2 t k2 i2 ls' st' m' e2 h2
    cases hz : zin pc' cut with
    | true => rw [hz] at h'; exact h'
    | false =>
      rw [hz, cond_false] at h'
      cases r with
      | nil => exact jump h'
      | cons e t =>
        obtain ⟨k2, i2⟩ := e
        dsimp only at h'
        cases hb : Nat.beq k2 pc' with
        | false => rw [hb] at h'; exact jump h'
        | true =>
          rw [hb] at h'
          have hk : k2 = pc' := Nat.eq_of_beq_eq_true hb
          subst hk
          exact zsegK hC hK hs n (pre ++ [(k, i)]) t k2 i2 ls' st' m' (by rw [hcd, List.append_assoc]; rfl) h'
theorem zgoK {C : zC} {own : Nat} {ret : Option FieldType} {cd : List (Nat × Instr)} (cut : List Nat) {Q : zQ} {K : zK} (hC : zCm C) (hK : zKc C own ret cd Q K) (hs : zsrt cd = true) {pc : Nat} {ls st : List Value} {m : zM} {i : Instr} {r : List (Nat × Instr)} (hf : zfind cd pc = (pc, i) :: r)
    (h : zseg C own ret cd cut Q K 900 ((pc, i) :: r) ls st m) : K pc ls st m := by
  obtain ⟨pre, e⟩ := zfind_suf cd pc
  rw [hf] at e
  exact zsegK hC hK hs _ pre r pc i ls st m e h
theorem zs_law : zsrt zc_law = true := by decide +kernel
def lwcut : List Nat := [18, 204, 218, 237, 251, 270, 284, 303, 330, 362, 384, 411, 430, 454, 463, 477, 481, 490, 499, 513, 522, 536, 560, 589, 603, 622, 636, 655, 664, 678, 697, 721, 735, 754, 773, 797, 811, 830, 849, 873, 882, 896, 915, 939, 948, 962, 981, 1006, 1020, 1040, 1054, 1073, 1087, 1106, 1125, 1149, 1153, 1162, 1176, 1195, 1199, 1208, 1212, 1221, 1240, 1264, 1273, 1287, 1301, 1320, 1329, 1343, 1362, 1386, 1420, 1459, 1473, 1493, 1522, 1556]
set_option maxRecDepth 100000 in
theorem lw_18 {C : zC} {Q : zQ} {K : zK} (hC : zCm C) (hK : zKc C 15 (some .boolean) zc_law Q K) (v : Int32) (m : zM) (h :
    if ((gI m 1 0) - (6 : Int32)) < v then (1 : Int32) &&& 1 = (1 : Int32) ∧ Q (some (.int (1 : Int32))) m
    else vp_in v (gI m 1 0).toNatClampNeg ∧ (if ((gI m 0 v.toNatClampNeg) &&& (63 : Int32)) = (0 : Int32) then K 204 [.ref 0, .ref 20, .ref 113, .int v] [] m
      else if ((gI m 0 v.toNatClampNeg) &&& (63 : Int32)) = (1 : Int32) then K 237 [.ref 0, .ref 20, .ref 113, .int v] [] m
      else if ((gI m 0 v.toNatClampNeg) &&& (63 : Int32)) = (2 : Int32) then K 270 [.ref 0, .ref 20, .ref 113, .int v] [] m
      else if ((gI m 0 v.toNatClampNeg) &&& (63 : Int32)) = (3 : Int32) then K 303 [.ref 0, .ref 20, .ref 113, .int v] [] m
      else if ((gI m 0 v.toNatClampNeg) &&& (63 : Int32)) = (4 : Int32) then K 362 [.ref 0, .ref 20, .ref 113, .int v] [] m
      else if ((gI m 0 v.toNatClampNeg) &&& (63 : Int32)) = (5 : Int32) then K 411 [.ref 0, .ref 20, .ref 113, .int v] [] m
      else if ((gI m 0 v.toNatClampNeg) &&& (63 : Int32)) = (6 : Int32) then K 454 [.ref 0, .ref 20, .ref 113, .int v] [] m
      else if ((gI m 0 v.toNatClampNeg) &&& (63 : Int32)) = (7 : Int32) then K 477 [.ref 0, .ref 20, .ref 113, .int v] [] m
      else if ((gI m 0 v.toNatClampNeg) &&& (63 : Int32)) = (8 : Int32) then K 490 [.ref 0, .ref 20, .ref 113, .int v] [] m
      else if ((gI m 0 v.toNatClampNeg) &&& (63 : Int32)) = (9 : Int32) then K 513 [.ref 0, .ref 20, .ref 113, .int v] [] m
      else if ((gI m 0 v.toNatClampNeg) &&& (63 : Int32)) = (10 : Int32) then K 536 [.ref 0, .ref 20, .ref 113, .int v] [] m
      else if ((gI m 0 v.toNatClampNeg) &&& (63 : Int32)) = (11 : Int32) then K 589 [.ref 0, .ref 20, .ref 113, .int v] [] m
      else if ((gI m 0 v.toNatClampNeg) &&& (63 : Int32)) = (12 : Int32) then K 622 [.ref 0, .ref 20, .ref 113, .int v] [] m
      else if ((gI m 0 v.toNatClampNeg) &&& (63 : Int32)) = (13 : Int32) then K 655 [.ref 0, .ref 20, .ref 113, .int v] [] m
      else if ((gI m 0 v.toNatClampNeg) &&& (63 : Int32)) = (14 : Int32) then K 678 [.ref 0, .ref 20, .ref 113, .int v] [] m
      else if ((gI m 0 v.toNatClampNeg) &&& (63 : Int32)) = (15 : Int32) then K 721 [.ref 0, .ref 20, .ref 113, .int v] [] m
      else if ((gI m 0 v.toNatClampNeg) &&& (63 : Int32)) = (16 : Int32) then K 754 [.ref 0, .ref 20, .ref 113, .int v] [] m
      else if ((gI m 0 v.toNatClampNeg) &&& (63 : Int32)) = (17 : Int32) then K 797 [.ref 0, .ref 20, .ref 113, .int v] [] m
      else if ((gI m 0 v.toNatClampNeg) &&& (63 : Int32)) = (18 : Int32) then K 830 [.ref 0, .ref 20, .ref 113, .int v] [] m
      else if ((gI m 0 v.toNatClampNeg) &&& (63 : Int32)) = (19 : Int32) then K 873 [.ref 0, .ref 20, .ref 113, .int v] [] m
      else if ((gI m 0 v.toNatClampNeg) &&& (63 : Int32)) = (20 : Int32) then K 896 [.ref 0, .ref 20, .ref 113, .int v] [] m
      else if ((gI m 0 v.toNatClampNeg) &&& (63 : Int32)) = (21 : Int32) then K 939 [.ref 0, .ref 20, .ref 113, .int v] [] m
      else if ((gI m 0 v.toNatClampNeg) &&& (63 : Int32)) = (22 : Int32) then K 962 [.ref 0, .ref 20, .ref 113, .int v] [] m
      else if ((gI m 0 v.toNatClampNeg) &&& (63 : Int32)) = (23 : Int32) then K 1006 [.ref 0, .ref 20, .ref 113, .int v] [] m
      else if ((gI m 0 v.toNatClampNeg) &&& (63 : Int32)) = (24 : Int32) then K 1040 [.ref 0, .ref 20, .ref 113, .int v] [] m
      else if ((gI m 0 v.toNatClampNeg) &&& (63 : Int32)) = (25 : Int32) then K 1073 [.ref 0, .ref 20, .ref 113, .int v] [] m
      else if ((gI m 0 v.toNatClampNeg) &&& (63 : Int32)) = (26 : Int32) then K 1106 [.ref 0, .ref 20, .ref 113, .int v] [] m
      else if ((gI m 0 v.toNatClampNeg) &&& (63 : Int32)) = (27 : Int32) then K 1149 [.ref 0, .ref 20, .ref 113, .int v] [] m
      else if ((gI m 0 v.toNatClampNeg) &&& (63 : Int32)) = (28 : Int32) then K 1162 [.ref 0, .ref 20, .ref 113, .int v] [] m
      else if ((gI m 0 v.toNatClampNeg) &&& (63 : Int32)) = (29 : Int32) then K 1195 [.ref 0, .ref 20, .ref 113, .int v] [] m
      else if ((gI m 0 v.toNatClampNeg) &&& (63 : Int32)) = (30 : Int32) then K 1208 [.ref 0, .ref 20, .ref 113, .int v] [] m
      else if ((gI m 0 v.toNatClampNeg) &&& (63 : Int32)) = (31 : Int32) then K 1221 [.ref 0, .ref 20, .ref 113, .int v] [] m
      else if ((gI m 0 v.toNatClampNeg) &&& (63 : Int32)) = (32 : Int32) then K 1264 [.ref 0, .ref 20, .ref 113, .int v] [] m
      else if ((gI m 0 v.toNatClampNeg) &&& (63 : Int32)) = (33 : Int32) then K 1287 [.ref 0, .ref 20, .ref 113, .int v] [] m
      else if ((gI m 0 v.toNatClampNeg) &&& (63 : Int32)) = (34 : Int32) then K 1320 [.ref 0, .ref 20, .ref 113, .int v] [] m
      else if ((gI m 0 v.toNatClampNeg) &&& (63 : Int32)) = (35 : Int32) then K 1343 [.ref 0, .ref 20, .ref 113, .int v] [] m
      else if ((gI m 0 v.toNatClampNeg) &&& (63 : Int32)) = (36 : Int32) then K 1386 [.ref 0, .ref 20, .ref 113, .int v] [] m
      else if ((gI m 0 v.toNatClampNeg) &&& (63 : Int32)) = (37 : Int32) then K 1459 [.ref 0, .ref 20, .ref 113, .int v] [] m
      else if ((gI m 0 v.toNatClampNeg) &&& (63 : Int32)) = (38 : Int32) then K 1493 [.ref 0, .ref 20, .ref 113, .int v] [] m
      else K 1556 [.ref 0, .ref 20, .ref 113, .int v] [] m)) :
    K 18 [.ref 0, .ref 20, .ref 113, .int v] [] m := zgoK lwcut hC hK zs_law (i := .iload_n 3) (r := zfind zc_law 19) rfl h
set_option maxRecDepth 100000 in
theorem lw_204 {C : zC} {Q : zQ} {K : zK} (hC : zCm C) (hK : zKc C 15 (some .boolean) zc_law Q K) (v : Int32) (m : zM) (h :
    vp_in (v + (1 : Int32)) (gI m 1 0).toNatClampNeg ∧ (vp_in (v + (2 : Int32)) (gI m 1 0).toNatClampNeg ∧ (C m_Box_plant [.ref 20, .int (gI m 0 (v + (1 : Int32)).toNatClampNeg), .int (gI m 0 (v + (2 : Int32)).toNatClampNeg)] m (fun o1 m2 => ∃ x3, o1 = some (.int x3) ∧ (K 218 [.ref 0, .ref 20, .ref 113, .int v] [.int x3] m2))))) :
    K 204 [.ref 0, .ref 20, .ref 113, .int v] [] m := zgoK lwcut hC hK zs_law (i := .aload_n 1) (r := zfind zc_law 205) rfl h
set_option maxRecDepth 100000 in
theorem lw_237 {C : zC} {Q : zQ} {K : zK} (hC : zCm C) (hK : zKc C 15 (some .boolean) zc_law Q K) (v : Int32) (m : zM) (h :
    vp_in (v + (1 : Int32)) (gI m 1 0).toNatClampNeg ∧ (vp_in (v + (2 : Int32)) (gI m 1 0).toNatClampNeg ∧ (C m_Box_of [.ref 20, .int (gI m 0 (v + (1 : Int32)).toNatClampNeg), .int (gI m 0 (v + (2 : Int32)).toNatClampNeg)] m (fun o1 m2 => ∃ x3, o1 = some (.int x3) ∧ (K 251 [.ref 0, .ref 20, .ref 113, .int v] [.int x3] m2))))) :
    K 237 [.ref 0, .ref 20, .ref 113, .int v] [] m := zgoK lwcut hC hK zs_law (i := .aload_n 1) (r := zfind zc_law 238) rfl h
set_option maxRecDepth 100000 in
theorem lw_270 {C : zC} {Q : zQ} {K : zK} (hC : zCm C) (hK : zKc C 15 (some .boolean) zc_law Q K) (v : Int32) (m : zM) (h :
    vp_in (v + (1 : Int32)) (gI m 1 0).toNatClampNeg ∧ (vp_in (v + (2 : Int32)) (gI m 1 0).toNatClampNeg ∧ (C m_Box_says [.ref 20, .int (gI m 0 (v + (1 : Int32)).toNatClampNeg), .int (gI m 0 (v + (2 : Int32)).toNatClampNeg)] m (fun o1 m2 => ∃ x3, o1 = some (.int x3) ∧ (K 284 [.ref 0, .ref 20, .ref 113, .int v] [.int x3] m2))))) :
    K 270 [.ref 0, .ref 20, .ref 113, .int v] [] m := zgoK lwcut hC hK zs_law (i := .aload_n 1) (r := zfind zc_law 271) rfl h
set_option maxRecDepth 100000 in
theorem lw_303 {C : zC} {Q : zQ} {K : zK} (hC : zCm C) (hK : zKc C 15 (some .boolean) zc_law Q K) (v : Int32) (m : zM) (h :
    vp_in (v + (1 : Int32)) (gI m 1 0).toNatClampNeg ∧ (vp_in (v + (2 : Int32)) (gI m 1 0).toNatClampNeg ∧ (vp_in (v + (3 : Int32)) (gI m 1 0).toNatClampNeg ∧ (if (gI m 0 (v + (3 : Int32)).toNatClampNeg) = (0 : Int32) then C m_Box_touch [.ref 20, .int (gI m 0 (v + (1 : Int32)).toNatClampNeg), .int (gI m 0 (v + (2 : Int32)).toNatClampNeg), .int (0 : Int32)] m (fun o1 m2 => ∃ x3, o1 = some (.int x3) ∧ (K 330 [.ref 0, .ref 20, .ref 113, .int v] [.int x3] m2))
    else C m_Box_touch [.ref 20, .int (gI m 0 (v + (1 : Int32)).toNatClampNeg), .int (gI m 0 (v + (2 : Int32)).toNatClampNeg), .int (1 : Int32)] m (fun o4 m5 => ∃ x6, o4 = some (.int x6) ∧ (K 330 [.ref 0, .ref 20, .ref 113, .int v] [.int x6] m5)))))) :
    K 303 [.ref 0, .ref 20, .ref 113, .int v] [] m := zgoK lwcut hC hK zs_law (i := .aload_n 1) (r := zfind zc_law 304) rfl h
set_option maxRecDepth 100000 in
theorem lw_362 {C : zC} {Q : zQ} {K : zK} (hC : zCm C) (hK : zKc C 15 (some .boolean) zc_law Q K) (v : Int32) (m : zM) (h :
    vp_in (v + (1 : Int32)) (gI m 1 0).toNatClampNeg ∧ (vp_in (v + (2 : Int32)) (gI m 1 0).toNatClampNeg ∧ (if (gI m 0 (v + (2 : Int32)).toNatClampNeg) = (0 : Int32) then C m_Box_kill [.ref 20, .int (gI m 0 (v + (1 : Int32)).toNatClampNeg), .int (0 : Int32)] m (fun o1 m2 => ∃ x3, o1 = some (.int x3) ∧ (K 384 [.ref 0, .ref 20, .ref 113, .int v] [.int x3] m2))
    else C m_Box_kill [.ref 20, .int (gI m 0 (v + (1 : Int32)).toNatClampNeg), .int (1 : Int32)] m (fun o4 m5 => ∃ x6, o4 = some (.int x6) ∧ (K 384 [.ref 0, .ref 20, .ref 113, .int v] [.int x6] m5))))) :
    K 362 [.ref 0, .ref 20, .ref 113, .int v] [] m := zgoK lwcut hC hK zs_law (i := .aload_n 1) (r := zfind zc_law 363) rfl h
set_option maxRecDepth 100000 in
theorem lw_411 {C : zC} {Q : zQ} {K : zK} (hC : zCm C) (hK : zKc C 15 (some .boolean) zc_law Q K) (v : Int32) (m : zM) (h :
    vp_in (v + (1 : Int32)) (gI m 1 0).toNatClampNeg ∧ (vp_in (v + (2 : Int32)) (gI m 1 0).toNatClampNeg ∧ (vp_in (v + (3 : Int32)) (gI m 1 0).toNatClampNeg ∧ (C m_Box_row [.ref 20, .int (gI m 0 (v + (1 : Int32)).toNatClampNeg), .int (gI m 0 (v + (2 : Int32)).toNatClampNeg), .int (gI m 0 (v + (3 : Int32)).toNatClampNeg)] m (fun o1 m2 => ∃ x3, o1 = some (.int x3) ∧ (K 430 [.ref 0, .ref 20, .ref 113, .int v] [.int x3] m2)))))) :
    K 411 [.ref 0, .ref 20, .ref 113, .int v] [] m := zgoK lwcut hC hK zs_law (i := .aload_n 1) (r := zfind zc_law 412) rfl h
set_option maxRecDepth 100000 in
theorem lw_454 {C : zC} {Q : zQ} {K : zK} (hC : zCm C) (hK : zKc C 15 (some .boolean) zc_law Q K) (v : Int32) (m : zM) (h :
    vp_in (v + (1 : Int32)) (gI m 1 0).toNatClampNeg ∧ (C m_Box_feed [.ref 20, .int (gI m 0 (v + (1 : Int32)).toNatClampNeg)] m (fun o1 m2 => ∃ x3, o1 = some (.int x3) ∧ (K 463 [.ref 0, .ref 20, .ref 113, .int v] [.int x3] m2)))) :
    K 454 [.ref 0, .ref 20, .ref 113, .int v] [] m := zgoK lwcut hC hK zs_law (i := .aload_n 1) (r := zfind zc_law 455) rfl h
set_option maxRecDepth 100000 in
theorem lw_477 {C : zC} {Q : zQ} {K : zK} (hC : zCm C) (hK : zKc C 15 (some .boolean) zc_law Q K) (v : Int32) (m : zM) (h :
    C m_Box_garden [.ref 20] m (fun o1 m2 => ∃ x3, o1 = some (.int x3) ∧ (K 481 [.ref 0, .ref 20, .ref 113, .int v] [.int x3] m2))) :
    K 477 [.ref 0, .ref 20, .ref 113, .int v] [] m := zgoK lwcut hC hK zs_law (i := .aload_n 1) (r := zfind zc_law 478) rfl h
set_option maxRecDepth 100000 in
theorem lw_490 {C : zC} {Q : zQ} {K : zK} (hC : zCm C) (hK : zKc C 15 (some .boolean) zc_law Q K) (v : Int32) (m : zM) (h :
    vp_in (v + (1 : Int32)) (gI m 1 0).toNatClampNeg ∧ (C m_Box_told [.ref 20, .int (gI m 0 (v + (1 : Int32)).toNatClampNeg)] m (fun o1 m2 => ∃ x3, o1 = some (.int x3) ∧ (K 499 [.ref 0, .ref 20, .ref 113, .int v] [.int x3] m2)))) :
    K 490 [.ref 0, .ref 20, .ref 113, .int v] [] m := zgoK lwcut hC hK zs_law (i := .aload_n 1) (r := zfind zc_law 491) rfl h
set_option maxRecDepth 100000 in
theorem lw_513 {C : zC} {Q : zQ} {K : zK} (hC : zCm C) (hK : zKc C 15 (some .boolean) zc_law Q K) (v : Int32) (m : zM) (h :
    vp_in (v + (1 : Int32)) (gI m 1 0).toNatClampNeg ∧ (C m_Box_pass [.ref 20, .int (gI m 0 (v + (1 : Int32)).toNatClampNeg)] m (fun o1 m2 => ∃ x3, o1 = some (.int x3) ∧ (K 522 [.ref 0, .ref 20, .ref 113, .int v] [.int x3] m2)))) :
    K 513 [.ref 0, .ref 20, .ref 113, .int v] [] m := zgoK lwcut hC hK zs_law (i := .aload_n 1) (r := zfind zc_law 514) rfl h
set_option maxRecDepth 100000 in
theorem lw_536 {C : zC} {Q : zQ} {K : zK} (hC : zCm C) (hK : zKc C 15 (some .boolean) zc_law Q K) (v : Int32) (m : zM) (h :
    vp_in (v + (1 : Int32)) (gI m 1 0).toNatClampNeg ∧ (vp_in (v + (2 : Int32)) (gI m 1 0).toNatClampNeg ∧ (vp_in (v + (3 : Int32)) (gI m 1 0).toNatClampNeg ∧ (vp_in (v + (4 : Int32)) (gI m 1 0).toNatClampNeg ∧ (C m_Box_heard [.ref 20, .int (gI m 0 (v + (1 : Int32)).toNatClampNeg), .int (gI m 0 (v + (2 : Int32)).toNatClampNeg), .int (gI m 0 (v + (3 : Int32)).toNatClampNeg), .int (gI m 0 (v + (4 : Int32)).toNatClampNeg)] m (fun o1 m2 => ∃ x3, o1 = some (.int x3) ∧ (K 560 [.ref 0, .ref 20, .ref 113, .int v] [.int x3] m2))))))) :
    K 536 [.ref 0, .ref 20, .ref 113, .int v] [] m := zgoK lwcut hC hK zs_law (i := .aload_n 1) (r := zfind zc_law 537) rfl h
set_option maxRecDepth 100000 in
theorem lw_589 {C : zC} {Q : zQ} {K : zK} (hC : zCm C) (hK : zKc C 15 (some .boolean) zc_law Q K) (v : Int32) (m : zM) (h :
    vp_in (v + (1 : Int32)) (gI m 1 0).toNatClampNeg ∧ (vp_in (v + (2 : Int32)) (gI m 1 0).toNatClampNeg ∧ (C m_Box_by [.ref 20, .int (gI m 0 (v + (1 : Int32)).toNatClampNeg), .int (gI m 0 (v + (2 : Int32)).toNatClampNeg)] m (fun o1 m2 => ∃ x3, o1 = some (.int x3) ∧ (K 603 [.ref 0, .ref 20, .ref 113, .int v] [.int x3] m2))))) :
    K 589 [.ref 0, .ref 20, .ref 113, .int v] [] m := zgoK lwcut hC hK zs_law (i := .aload_n 1) (r := zfind zc_law 590) rfl h
set_option maxRecDepth 100000 in
theorem lw_622 {C : zC} {Q : zQ} {K : zK} (hC : zCm C) (hK : zKc C 15 (some .boolean) zc_law Q K) (v : Int32) (m : zM) (h :
    vp_in (v + (1 : Int32)) (gI m 1 0).toNatClampNeg ∧ (vp_in (v + (2 : Int32)) (gI m 1 0).toNatClampNeg ∧ (C m_Box_right [.ref 20, .int (gI m 0 (v + (1 : Int32)).toNatClampNeg), .int (gI m 0 (v + (2 : Int32)).toNatClampNeg)] m (fun o1 m2 => ∃ x3, o1 = some (.int x3) ∧ (K 636 [.ref 0, .ref 20, .ref 113, .int v] [.int x3] m2))))) :
    K 622 [.ref 0, .ref 20, .ref 113, .int v] [] m := zgoK lwcut hC hK zs_law (i := .aload_n 1) (r := zfind zc_law 623) rfl h
set_option maxRecDepth 100000 in
theorem lw_655 {C : zC} {Q : zQ} {K : zK} (hC : zCm C) (hK : zKc C 15 (some .boolean) zc_law Q K) (v : Int32) (m : zM) (h :
    vp_in (v + (1 : Int32)) (gI m 1 0).toNatClampNeg ∧ (C m_Box_last [.ref 20, .int (gI m 0 (v + (1 : Int32)).toNatClampNeg)] m (fun o1 m2 => ∃ x3, o1 = some (.int x3) ∧ (K 664 [.ref 0, .ref 20, .ref 113, .int v] [.int x3] m2)))) :
    K 655 [.ref 0, .ref 20, .ref 113, .int v] [] m := zgoK lwcut hC hK zs_law (i := .aload_n 1) (r := zfind zc_law 656) rfl h
set_option maxRecDepth 100000 in
theorem lw_678 {C : zC} {Q : zQ} {K : zK} (hC : zCm C) (hK : zKc C 15 (some .boolean) zc_law Q K) (v : Int32) (m : zM) (h :
    vp_in (v + (1 : Int32)) (gI m 1 0).toNatClampNeg ∧ (vp_in (v + (2 : Int32)) (gI m 1 0).toNatClampNeg ∧ (vp_in (v + (3 : Int32)) (gI m 1 0).toNatClampNeg ∧ (C m_Box_cut [.ref 20, .int (gI m 0 (v + (1 : Int32)).toNatClampNeg), .int (gI m 0 (v + (2 : Int32)).toNatClampNeg), .int (gI m 0 (v + (3 : Int32)).toNatClampNeg)] m (fun o1 m2 => ∃ x3, o1 = some (.int x3) ∧ (K 697 [.ref 0, .ref 20, .ref 113, .int v] [.int x3] m2)))))) :
    K 678 [.ref 0, .ref 20, .ref 113, .int v] [] m := zgoK lwcut hC hK zs_law (i := .aload_n 1) (r := zfind zc_law 679) rfl h
set_option maxRecDepth 100000 in
theorem lw_721 {C : zC} {Q : zQ} {K : zK} (hC : zCm C) (hK : zKc C 15 (some .boolean) zc_law Q K) (v : Int32) (m : zM) (h :
    vp_in (v + (1 : Int32)) (gI m 1 0).toNatClampNeg ∧ (vp_in (v + (2 : Int32)) (gI m 1 0).toNatClampNeg ∧ (C m_Box_needed [.ref 20, .int (gI m 0 (v + (1 : Int32)).toNatClampNeg), .int (gI m 0 (v + (2 : Int32)).toNatClampNeg)] m (fun o1 m2 => ∃ x3, o1 = some (.int x3) ∧ (K 735 [.ref 0, .ref 20, .ref 113, .int v] [.int x3] m2))))) :
    K 721 [.ref 0, .ref 20, .ref 113, .int v] [] m := zgoK lwcut hC hK zs_law (i := .aload_n 1) (r := zfind zc_law 722) rfl h
set_option maxRecDepth 100000 in
theorem lw_754 {C : zC} {Q : zQ} {K : zK} (hC : zCm C) (hK : zKc C 15 (some .boolean) zc_law Q K) (v : Int32) (m : zM) (h :
    vp_in (v + (1 : Int32)) (gI m 1 0).toNatClampNeg ∧ (vp_in (v + (2 : Int32)) (gI m 1 0).toNatClampNeg ∧ (vp_in (v + (3 : Int32)) (gI m 1 0).toNatClampNeg ∧ (C m_Box_round [.ref 20, .int (gI m 0 (v + (1 : Int32)).toNatClampNeg), .int (gI m 0 (v + (2 : Int32)).toNatClampNeg), .int (gI m 0 (v + (3 : Int32)).toNatClampNeg)] m (fun o1 m2 => ∃ x3, o1 = some (.int x3) ∧ (K 773 [.ref 0, .ref 20, .ref 113, .int v] [.int x3] m2)))))) :
    K 754 [.ref 0, .ref 20, .ref 113, .int v] [] m := zgoK lwcut hC hK zs_law (i := .aload_n 1) (r := zfind zc_law 755) rfl h
set_option maxRecDepth 100000 in
theorem lw_797 {C : zC} {Q : zQ} {K : zK} (hC : zCm C) (hK : zKc C 15 (some .boolean) zc_law Q K) (v : Int32) (m : zM) (h :
    vp_in (v + (1 : Int32)) (gI m 1 0).toNatClampNeg ∧ (vp_in (v + (2 : Int32)) (gI m 1 0).toNatClampNeg ∧ (C m_Box_meet [.ref 20, .int (gI m 0 (v + (1 : Int32)).toNatClampNeg), .int (gI m 0 (v + (2 : Int32)).toNatClampNeg)] m (fun o1 m2 => ∃ x3, o1 = some (.int x3) ∧ (K 811 [.ref 0, .ref 20, .ref 113, .int v] [.int x3] m2))))) :
    K 797 [.ref 0, .ref 20, .ref 113, .int v] [] m := zgoK lwcut hC hK zs_law (i := .aload_n 1) (r := zfind zc_law 798) rfl h
set_option maxRecDepth 100000 in
theorem lw_830 {C : zC} {Q : zQ} {K : zK} (hC : zCm C) (hK : zKc C 15 (some .boolean) zc_law Q K) (v : Int32) (m : zM) (h :
    vp_in (v + (1 : Int32)) (gI m 1 0).toNatClampNeg ∧ (vp_in (v + (2 : Int32)) (gI m 1 0).toNatClampNeg ∧ (vp_in (v + (3 : Int32)) (gI m 1 0).toNatClampNeg ∧ (C m_Box_join [.ref 20, .int (gI m 0 (v + (1 : Int32)).toNatClampNeg), .int (gI m 0 (v + (2 : Int32)).toNatClampNeg), .int (gI m 0 (v + (3 : Int32)).toNatClampNeg)] m (fun o1 m2 => ∃ x3, o1 = some (.int x3) ∧ (K 849 [.ref 0, .ref 20, .ref 113, .int v] [.int x3] m2)))))) :
    K 830 [.ref 0, .ref 20, .ref 113, .int v] [] m := zgoK lwcut hC hK zs_law (i := .aload_n 1) (r := zfind zc_law 831) rfl h
set_option maxRecDepth 100000 in
theorem lw_873 {C : zC} {Q : zQ} {K : zK} (hC : zCm C) (hK : zKc C 15 (some .boolean) zc_law Q K) (v : Int32) (m : zM) (h :
    vp_in (v + (1 : Int32)) (gI m 1 0).toNatClampNeg ∧ (C m_Box_listen [.ref 20, .int (gI m 0 (v + (1 : Int32)).toNatClampNeg)] m (fun o1 m2 => ∃ x3, o1 = some (.int x3) ∧ (K 882 [.ref 0, .ref 20, .ref 113, .int v] [.int x3] m2)))) :
    K 873 [.ref 0, .ref 20, .ref 113, .int v] [] m := zgoK lwcut hC hK zs_law (i := .aload_n 1) (r := zfind zc_law 874) rfl h
set_option maxRecDepth 100000 in
theorem lw_896 {C : zC} {Q : zQ} {K : zK} (hC : zCm C) (hK : zKc C 15 (some .boolean) zc_law Q K) (v : Int32) (m : zM) (h :
    vp_in (v + (1 : Int32)) (gI m 1 0).toNatClampNeg ∧ (vp_in (v + (2 : Int32)) (gI m 1 0).toNatClampNeg ∧ (vp_in (v + (3 : Int32)) (gI m 1 0).toNatClampNeg ∧ (C m_Box_see [.ref 20, .int (gI m 0 (v + (1 : Int32)).toNatClampNeg), .int (gI m 0 (v + (2 : Int32)).toNatClampNeg), .int (gI m 0 (v + (3 : Int32)).toNatClampNeg)] m (fun o1 m2 => ∃ x3, o1 = some (.int x3) ∧ (K 915 [.ref 0, .ref 20, .ref 113, .int v] [.int x3] m2)))))) :
    K 896 [.ref 0, .ref 20, .ref 113, .int v] [] m := zgoK lwcut hC hK zs_law (i := .aload_n 1) (r := zfind zc_law 897) rfl h
set_option maxRecDepth 100000 in
theorem lw_939 {C : zC} {Q : zQ} {K : zK} (hC : zCm C) (hK : zKc C 15 (some .boolean) zc_law Q K) (v : Int32) (m : zM) (h :
    vp_in (v + (1 : Int32)) (gI m 1 0).toNatClampNeg ∧ (C m_Box_who [.ref 20, .int (gI m 0 (v + (1 : Int32)).toNatClampNeg)] m (fun o1 m2 => ∃ x3, o1 = some (.int x3) ∧ (K 948 [.ref 0, .ref 20, .ref 113, .int v] [.int x3] m2)))) :
    K 939 [.ref 0, .ref 20, .ref 113, .int v] [] m := zgoK lwcut hC hK zs_law (i := .aload_n 1) (r := zfind zc_law 940) rfl h
set_option maxRecDepth 100000 in
theorem lw_962 {C : zC} {Q : zQ} {K : zK} (hC : zCm C) (hK : zKc C 15 (some .boolean) zc_law Q K) (v : Int32) (m : zM) (h :
    vp_in (v + (1 : Int32)) (gI m 1 0).toNatClampNeg ∧ (vp_in (v + (2 : Int32)) (gI m 1 0).toNatClampNeg ∧ (vp_in (v + (3 : Int32)) (gI m 1 0).toNatClampNeg ∧ (C m_Box_odds [.ref 20, .int (gI m 0 (v + (1 : Int32)).toNatClampNeg), .int (gI m 0 (v + (2 : Int32)).toNatClampNeg), .int (gI m 0 (v + (3 : Int32)).toNatClampNeg)] m (fun o1 m2 => ∃ y3, o1 = some (.long y3) ∧ (K 981 [.ref 0, .ref 20, .ref 113, .int v] [.long y3] m2)))))) :
    K 962 [.ref 0, .ref 20, .ref 113, .int v] [] m := zgoK lwcut hC hK zs_law (i := .aload_n 1) (r := zfind zc_law 963) rfl h
set_option maxRecDepth 100000 in
theorem lw_1006 {C : zC} {Q : zQ} {K : zK} (hC : zCm C) (hK : zKc C 15 (some .boolean) zc_law Q K) (v : Int32) (m : zM) (h :
    vp_in (v + (1 : Int32)) (gI m 1 0).toNatClampNeg ∧ (vp_in (v + (2 : Int32)) (gI m 1 0).toNatClampNeg ∧ (C m_Box_mean [.ref 20, .int (gI m 0 (v + (1 : Int32)).toNatClampNeg), .int (gI m 0 (v + (2 : Int32)).toNatClampNeg)] m (fun o1 m2 => ∃ y3, o1 = some (.long y3) ∧ (K 1020 [.ref 0, .ref 20, .ref 113, .int v] [.long y3] m2))))) :
    K 1006 [.ref 0, .ref 20, .ref 113, .int v] [] m := zgoK lwcut hC hK zs_law (i := .aload_n 1) (r := zfind zc_law 1007) rfl h
set_option maxRecDepth 100000 in
theorem lw_1040 {C : zC} {Q : zQ} {K : zK} (hC : zCm C) (hK : zKc C 15 (some .boolean) zc_law Q K) (v : Int32) (m : zM) (h :
    vp_in (v + (1 : Int32)) (gI m 1 0).toNatClampNeg ∧ (vp_in (v + (2 : Int32)) (gI m 1 0).toNatClampNeg ∧ (C m_Box_plan [.ref 20, .int (gI m 0 (v + (1 : Int32)).toNatClampNeg), .int (gI m 0 (v + (2 : Int32)).toNatClampNeg)] m (fun o1 m2 => ∃ x3, o1 = some (.int x3) ∧ (K 1054 [.ref 0, .ref 20, .ref 113, .int v] [.int x3] m2))))) :
    K 1040 [.ref 0, .ref 20, .ref 113, .int v] [] m := zgoK lwcut hC hK zs_law (i := .aload_n 1) (r := zfind zc_law 1041) rfl h
set_option maxRecDepth 100000 in
theorem lw_1073 {C : zC} {Q : zQ} {K : zK} (hC : zCm C) (hK : zKc C 15 (some .boolean) zc_law Q K) (v : Int32) (m : zM) (h :
    vp_in (v + (1 : Int32)) (gI m 1 0).toNatClampNeg ∧ (vp_in (v + (2 : Int32)) (gI m 1 0).toNatClampNeg ∧ (C m_Box_planned [.ref 20, .int (gI m 0 (v + (1 : Int32)).toNatClampNeg), .int (gI m 0 (v + (2 : Int32)).toNatClampNeg)] m (fun o1 m2 => ∃ x3, o1 = some (.int x3) ∧ (K 1087 [.ref 0, .ref 20, .ref 113, .int v] [.int x3] m2))))) :
    K 1073 [.ref 0, .ref 20, .ref 113, .int v] [] m := zgoK lwcut hC hK zs_law (i := .aload_n 1) (r := zfind zc_law 1074) rfl h
set_option maxRecDepth 100000 in
theorem lw_1106 {C : zC} {Q : zQ} {K : zK} (hC : zCm C) (hK : zKc C 15 (some .boolean) zc_law Q K) (v : Int32) (m : zM) (h :
    vp_in (v + (1 : Int32)) (gI m 1 0).toNatClampNeg ∧ (vp_in (v + (2 : Int32)) (gI m 1 0).toNatClampNeg ∧ (vp_in (v + (3 : Int32)) (gI m 1 0).toNatClampNeg ∧ (C m_Box_book [.ref 20, .int (gI m 0 (v + (1 : Int32)).toNatClampNeg), .int (gI m 0 (v + (2 : Int32)).toNatClampNeg), .int (gI m 0 (v + (3 : Int32)).toNatClampNeg)] m (fun o1 m2 => ∃ x3, o1 = some (.int x3) ∧ (K 1125 [.ref 0, .ref 20, .ref 113, .int v] [.int x3] m2)))))) :
    K 1106 [.ref 0, .ref 20, .ref 113, .int v] [] m := zgoK lwcut hC hK zs_law (i := .aload_n 1) (r := zfind zc_law 1107) rfl h
set_option maxRecDepth 100000 in
theorem lw_1149 {C : zC} {Q : zQ} {K : zK} (hC : zCm C) (hK : zKc C 15 (some .boolean) zc_law Q K) (v : Int32) (m : zM) (h :
    C m_Box_looked [.ref 20] m (fun o1 m2 => ∃ x3, o1 = some (.int x3) ∧ (K 1153 [.ref 0, .ref 20, .ref 113, .int v] [.int x3] m2))) :
    K 1149 [.ref 0, .ref 20, .ref 113, .int v] [] m := zgoK lwcut hC hK zs_law (i := .aload_n 1) (r := zfind zc_law 1150) rfl h
set_option maxRecDepth 100000 in
theorem lw_1162 {C : zC} {Q : zQ} {K : zK} (hC : zCm C) (hK : zKc C 15 (some .boolean) zc_law Q K) (v : Int32) (m : zM) (h :
    vp_in (v + (1 : Int32)) (gI m 1 0).toNatClampNeg ∧ (vp_in (v + (2 : Int32)) (gI m 1 0).toNatClampNeg ∧ (C m_Box_judge [.ref 20, .int (gI m 0 (v + (1 : Int32)).toNatClampNeg), .int (gI m 0 (v + (2 : Int32)).toNatClampNeg)] m (fun o1 m2 => ∃ x3, o1 = some (.int x3) ∧ (K 1176 [.ref 0, .ref 20, .ref 113, .int v] [.int x3] m2))))) :
    K 1162 [.ref 0, .ref 20, .ref 113, .int v] [] m := zgoK lwcut hC hK zs_law (i := .aload_n 1) (r := zfind zc_law 1163) rfl h
set_option maxRecDepth 100000 in
theorem lw_1195 {C : zC} {Q : zQ} {K : zK} (hC : zCm C) (hK : zKc C 15 (some .boolean) zc_law Q K) (v : Int32) (m : zM) (h :
    C m_Box_image [.ref 20] m (fun o1 m2 => ∃ x3, o1 = some (.int x3) ∧ (K 1199 [.ref 0, .ref 20, .ref 113, .int v] [.int x3] m2))) :
    K 1195 [.ref 0, .ref 20, .ref 113, .int v] [] m := zgoK lwcut hC hK zs_law (i := .aload_n 1) (r := zfind zc_law 1196) rfl h
set_option maxRecDepth 100000 in
theorem lw_1208 {C : zC} {Q : zQ} {K : zK} (hC : zCm C) (hK : zKc C 15 (some .boolean) zc_law Q K) (v : Int32) (m : zM) (h :
    C m_Box_undo [.ref 20] m (fun o1 m2 => ∃ x3, o1 = some (.int x3) ∧ (K 1212 [.ref 0, .ref 20, .ref 113, .int v] [.int x3] m2))) :
    K 1208 [.ref 0, .ref 20, .ref 113, .int v] [] m := zgoK lwcut hC hK zs_law (i := .aload_n 1) (r := zfind zc_law 1209) rfl h
set_option maxRecDepth 100000 in
theorem lw_1221 {C : zC} {Q : zQ} {K : zK} (hC : zCm C) (hK : zKc C 15 (some .boolean) zc_law Q K) (v : Int32) (m : zM) (h :
    vp_in (v + (1 : Int32)) (gI m 1 0).toNatClampNeg ∧ (vp_in (v + (2 : Int32)) (gI m 1 0).toNatClampNeg ∧ (vp_in (v + (3 : Int32)) (gI m 1 0).toNatClampNeg ∧ (C m_Box_act [.ref 20, .int (gI m 0 (v + (1 : Int32)).toNatClampNeg), .int (gI m 0 (v + (2 : Int32)).toNatClampNeg), .int (gI m 0 (v + (3 : Int32)).toNatClampNeg)] m (fun o1 m2 => ∃ x3, o1 = some (.int x3) ∧ (K 1240 [.ref 0, .ref 20, .ref 113, .int v] [.int x3] m2)))))) :
    K 1221 [.ref 0, .ref 20, .ref 113, .int v] [] m := zgoK lwcut hC hK zs_law (i := .aload_n 1) (r := zfind zc_law 1222) rfl h
set_option maxRecDepth 100000 in
theorem lw_1264 {C : zC} {Q : zQ} {K : zK} (hC : zCm C) (hK : zKc C 15 (some .boolean) zc_law Q K) (v : Int32) (m : zM) (h :
    vp_in (v + (1 : Int32)) (gI m 1 0).toNatClampNeg ∧ (C m_Box_trace [.ref 20, .int (gI m 0 (v + (1 : Int32)).toNatClampNeg)] m (fun o1 m2 => ∃ x3, o1 = some (.int x3) ∧ (K 1273 [.ref 0, .ref 20, .ref 113, .int v] [.int x3] m2)))) :
    K 1264 [.ref 0, .ref 20, .ref 113, .int v] [] m := zgoK lwcut hC hK zs_law (i := .aload_n 1) (r := zfind zc_law 1265) rfl h
set_option maxRecDepth 100000 in
theorem lw_1287 {C : zC} {Q : zQ} {K : zK} (hC : zCm C) (hK : zKc C 15 (some .boolean) zc_law Q K) (v : Int32) (m : zM) (h :
    vp_in (v + (1 : Int32)) (gI m 1 0).toNatClampNeg ∧ (vp_in (v + (2 : Int32)) (gI m 1 0).toNatClampNeg ∧ (C m_Box_taken [.ref 20, .int (gI m 0 (v + (1 : Int32)).toNatClampNeg), .int (gI m 0 (v + (2 : Int32)).toNatClampNeg)] m (fun o1 m2 => ∃ x3, o1 = some (.int x3) ∧ (K 1301 [.ref 0, .ref 20, .ref 113, .int v] [.int x3] m2))))) :
    K 1287 [.ref 0, .ref 20, .ref 113, .int v] [] m := zgoK lwcut hC hK zs_law (i := .aload_n 1) (r := zfind zc_law 1288) rfl h
set_option maxRecDepth 100000 in
theorem lw_1320 {C : zC} {Q : zQ} {K : zK} (hC : zCm C) (hK : zKc C 15 (some .boolean) zc_law Q K) (v : Int32) (m : zM) (h :
    vp_in (v + (1 : Int32)) (gI m 1 0).toNatClampNeg ∧ (C m_Box_count [.ref 20, .int (gI m 0 (v + (1 : Int32)).toNatClampNeg)] m (fun o1 m2 => ∃ x3, o1 = some (.int x3) ∧ (K 1329 [.ref 0, .ref 20, .ref 113, .int v] [.int x3] m2)))) :
    K 1320 [.ref 0, .ref 20, .ref 113, .int v] [] m := zgoK lwcut hC hK zs_law (i := .aload_n 1) (r := zfind zc_law 1321) rfl h
set_option maxRecDepth 100000 in
theorem lw_1343 {C : zC} {Q : zQ} {K : zK} (hC : zCm C) (hK : zKc C 15 (some .boolean) zc_law Q K) (v : Int32) (m : zM) (h :
    vp_in (v + (1 : Int32)) (gI m 1 0).toNatClampNeg ∧ (vp_in (v + (2 : Int32)) (gI m 1 0).toNatClampNeg ∧ (vp_in (v + (3 : Int32)) (gI m 1 0).toNatClampNeg ∧ (C m_Box_tape [.ref 20, .int (gI m 0 (v + (1 : Int32)).toNatClampNeg), .int (gI m 0 (v + (2 : Int32)).toNatClampNeg), .int (gI m 0 (v + (3 : Int32)).toNatClampNeg)] m (fun o1 m2 => ∃ x3, o1 = some (.int x3) ∧ (K 1362 [.ref 0, .ref 20, .ref 113, .int v] [.int x3] m2)))))) :
    K 1343 [.ref 0, .ref 20, .ref 113, .int v] [] m := zgoK lwcut hC hK zs_law (i := .aload_n 1) (r := zfind zc_law 1344) rfl h
set_option maxRecDepth 100000 in
theorem lw_1386 {C : zC} {Q : zQ} {K : zK} (hC : zCm C) (hK : zKc C 15 (some .boolean) zc_law Q K) (v : Int32) (m : zM) (h :
    vp_in (v + (1 : Int32)) (gI m 1 0).toNatClampNeg ∧ (vp_in (v + (2 : Int32)) (gI m 1 0).toNatClampNeg ∧ (vp_in (v + (3 : Int32)) (gI m 1 0).toNatClampNeg ∧ (vp_in (v + (4 : Int32)) (gI m 1 0).toNatClampNeg ∧ (C m_Box_item [.ref 20, .int (gI m 0 (v + (1 : Int32)).toNatClampNeg), .int (gI m 0 (v + (2 : Int32)).toNatClampNeg), .long ((((gI m 0 (v + (3 : Int32)).toNatClampNeg).toInt64) <<< ((32 : Int32).toInt64 &&& 63)) ||| (((gI m 0 (v + (4 : Int32)).toNatClampNeg).toInt64) &&& (4294967295 : Int64)))] m (fun o1 m2 => ∃ x3, o1 = some (.int x3) ∧ (K 1420 [.ref 0, .ref 20, .ref 113, .int v] [.int x3] m2))))))) :
    K 1386 [.ref 0, .ref 20, .ref 113, .int v] [] m := zgoK lwcut hC hK zs_law (i := .aload_n 1) (r := zfind zc_law 1387) rfl h
set_option maxRecDepth 100000 in
theorem lw_1459 {C : zC} {Q : zQ} {K : zK} (hC : zCm C) (hK : zKc C 15 (some .boolean) zc_law Q K) (v : Int32) (m : zM) (h :
    vp_in (v + (1 : Int32)) (gI m 1 0).toNatClampNeg ∧ (vp_in (v + (2 : Int32)) (gI m 1 0).toNatClampNeg ∧ (C m_Box_read [.ref 20, .int (gI m 0 (v + (1 : Int32)).toNatClampNeg), .int (gI m 0 (v + (2 : Int32)).toNatClampNeg)] m (fun o1 m2 => ∃ y3, o1 = some (.long y3) ∧ (K 1473 [.ref 0, .ref 20, .ref 113, .int v] [.long y3] m2))))) :
    K 1459 [.ref 0, .ref 20, .ref 113, .int v] [] m := zgoK lwcut hC hK zs_law (i := .aload_n 1) (r := zfind zc_law 1460) rfl h
set_option maxRecDepth 100000 in
theorem lw_1493 {C : zC} {Q : zQ} {K : zK} (hC : zCm C) (hK : zKc C 15 (some .boolean) zc_law Q K) (v : Int32) (m : zM) (h :
    vp_in (v + (1 : Int32)) (gI m 1 0).toNatClampNeg ∧ (vp_in (v + (2 : Int32)) (gI m 1 0).toNatClampNeg ∧ (vp_in (v + (3 : Int32)) (gI m 1 0).toNatClampNeg ∧ (vp_in (v + (4 : Int32)) (gI m 1 0).toNatClampNeg ∧ (vp_in (v + (5 : Int32)) (gI m 1 0).toNatClampNeg ∧ (C m_Box_shift [.ref 20, .int (gI m 0 (v + (1 : Int32)).toNatClampNeg), .int (gI m 0 (v + (2 : Int32)).toNatClampNeg), .int (gI m 0 (v + (3 : Int32)).toNatClampNeg), .int (gI m 0 (v + (4 : Int32)).toNatClampNeg), .int (gI m 0 (v + (5 : Int32)).toNatClampNeg)] m (fun o1 m2 => ∃ x3, o1 = some (.int x3) ∧ (K 1522 [.ref 0, .ref 20, .ref 113, .int v] [.int x3] m2)))))))) :
    K 1493 [.ref 0, .ref 20, .ref 113, .int v] [] m := zgoK lwcut hC hK zs_law (i := .aload_n 1) (r := zfind zc_law 1494) rfl h
set_option maxRecDepth 100000 in
theorem lw_218 {C : zC} {Q : zQ} {K : zK} (hC : zCm C) (hK : zKc C 15 (some .boolean) zc_law Q K) (v : Int32) (x : Int32) (m : zM) (h :
    vp_in (v + (1 : Int32)) (gI m 1 0).toNatClampNeg ∧ (vp_in (v + (2 : Int32)) (gI m 1 0).toNatClampNeg ∧ (C m_Mod_plant [.ref 113, .int (gI m 0 (v + (1 : Int32)).toNatClampNeg), .int (gI m 0 (v + (2 : Int32)).toNatClampNeg)] m (fun o1 m2 => ∃ x3, o1 = some (.int x3) ∧ (if x = x3 then K 1556 [.ref 0, .ref 20, .ref 113, .int v] [] m2
    else (0 : Int32) &&& 1 = (0 : Int32) ∧ Q (some (.int (0 : Int32))) m2))))) :
    K 218 [.ref 0, .ref 20, .ref 113, .int v] [.int x] m := zgoK lwcut hC hK zs_law (i := .aload_n 2) (r := zfind zc_law 219) rfl h
set_option maxRecDepth 100000 in
theorem lw_251 {C : zC} {Q : zQ} {K : zK} (hC : zCm C) (hK : zKc C 15 (some .boolean) zc_law Q K) (v : Int32) (x : Int32) (m : zM) (h :
    vp_in (v + (1 : Int32)) (gI m 1 0).toNatClampNeg ∧ (vp_in (v + (2 : Int32)) (gI m 1 0).toNatClampNeg ∧ (C m_Mod_of [.ref 113, .int (gI m 0 (v + (1 : Int32)).toNatClampNeg), .int (gI m 0 (v + (2 : Int32)).toNatClampNeg)] m (fun o1 m2 => ∃ x3, o1 = some (.int x3) ∧ (if x = x3 then K 1556 [.ref 0, .ref 20, .ref 113, .int v] [] m2
    else (0 : Int32) &&& 1 = (0 : Int32) ∧ Q (some (.int (0 : Int32))) m2))))) :
    K 251 [.ref 0, .ref 20, .ref 113, .int v] [.int x] m := zgoK lwcut hC hK zs_law (i := .aload_n 2) (r := zfind zc_law 252) rfl h
set_option maxRecDepth 100000 in
theorem lw_284 {C : zC} {Q : zQ} {K : zK} (hC : zCm C) (hK : zKc C 15 (some .boolean) zc_law Q K) (v : Int32) (x : Int32) (m : zM) (h :
    vp_in (v + (1 : Int32)) (gI m 1 0).toNatClampNeg ∧ (vp_in (v + (2 : Int32)) (gI m 1 0).toNatClampNeg ∧ (C m_Mod_says [.ref 113, .int (gI m 0 (v + (1 : Int32)).toNatClampNeg), .int (gI m 0 (v + (2 : Int32)).toNatClampNeg)] m (fun o1 m2 => ∃ x3, o1 = some (.int x3) ∧ (if x = x3 then K 1556 [.ref 0, .ref 20, .ref 113, .int v] [] m2
    else (0 : Int32) &&& 1 = (0 : Int32) ∧ Q (some (.int (0 : Int32))) m2))))) :
    K 284 [.ref 0, .ref 20, .ref 113, .int v] [.int x] m := zgoK lwcut hC hK zs_law (i := .aload_n 2) (r := zfind zc_law 285) rfl h
set_option maxRecDepth 100000 in
theorem lw_330 {C : zC} {Q : zQ} {K : zK} (hC : zCm C) (hK : zKc C 15 (some .boolean) zc_law Q K) (v : Int32) (x : Int32) (m : zM) (h :
    vp_in (v + (1 : Int32)) (gI m 1 0).toNatClampNeg ∧ (vp_in (v + (2 : Int32)) (gI m 1 0).toNatClampNeg ∧ (vp_in (v + (3 : Int32)) (gI m 1 0).toNatClampNeg ∧ (if (gI m 0 (v + (3 : Int32)).toNatClampNeg) = (0 : Int32) then C m_Mod_touch [.ref 113, .int (gI m 0 (v + (1 : Int32)).toNatClampNeg), .int (gI m 0 (v + (2 : Int32)).toNatClampNeg), .int (0 : Int32)] m (fun o1 m2 => ∃ x3, o1 = some (.int x3) ∧ (if x = x3 then K 1556 [.ref 0, .ref 20, .ref 113, .int v] [] m2
      else (0 : Int32) &&& 1 = (0 : Int32) ∧ Q (some (.int (0 : Int32))) m2))
    else C m_Mod_touch [.ref 113, .int (gI m 0 (v + (1 : Int32)).toNatClampNeg), .int (gI m 0 (v + (2 : Int32)).toNatClampNeg), .int (1 : Int32)] m (fun o4 m5 => ∃ x6, o4 = some (.int x6) ∧ (if x = x6 then K 1556 [.ref 0, .ref 20, .ref 113, .int v] [] m5
      else (0 : Int32) &&& 1 = (0 : Int32) ∧ Q (some (.int (0 : Int32))) m5)))))) :
    K 330 [.ref 0, .ref 20, .ref 113, .int v] [.int x] m := zgoK lwcut hC hK zs_law (i := .aload_n 2) (r := zfind zc_law 331) rfl h
set_option maxRecDepth 100000 in
theorem lw_384 {C : zC} {Q : zQ} {K : zK} (hC : zCm C) (hK : zKc C 15 (some .boolean) zc_law Q K) (v : Int32) (x : Int32) (m : zM) (h :
    vp_in (v + (1 : Int32)) (gI m 1 0).toNatClampNeg ∧ (vp_in (v + (2 : Int32)) (gI m 1 0).toNatClampNeg ∧ (if (gI m 0 (v + (2 : Int32)).toNatClampNeg) = (0 : Int32) then C m_Mod_kill [.ref 113, .int (gI m 0 (v + (1 : Int32)).toNatClampNeg), .int (0 : Int32)] m (fun o1 m2 => ∃ x3, o1 = some (.int x3) ∧ (if x = x3 then K 1556 [.ref 0, .ref 20, .ref 113, .int v] [] m2
      else (0 : Int32) &&& 1 = (0 : Int32) ∧ Q (some (.int (0 : Int32))) m2))
    else C m_Mod_kill [.ref 113, .int (gI m 0 (v + (1 : Int32)).toNatClampNeg), .int (1 : Int32)] m (fun o4 m5 => ∃ x6, o4 = some (.int x6) ∧ (if x = x6 then K 1556 [.ref 0, .ref 20, .ref 113, .int v] [] m5
      else (0 : Int32) &&& 1 = (0 : Int32) ∧ Q (some (.int (0 : Int32))) m5))))) :
    K 384 [.ref 0, .ref 20, .ref 113, .int v] [.int x] m := zgoK lwcut hC hK zs_law (i := .aload_n 2) (r := zfind zc_law 385) rfl h
set_option maxRecDepth 100000 in
theorem lw_430 {C : zC} {Q : zQ} {K : zK} (hC : zCm C) (hK : zKc C 15 (some .boolean) zc_law Q K) (v : Int32) (x : Int32) (m : zM) (h :
    vp_in (v + (1 : Int32)) (gI m 1 0).toNatClampNeg ∧ (vp_in (v + (2 : Int32)) (gI m 1 0).toNatClampNeg ∧ (vp_in (v + (3 : Int32)) (gI m 1 0).toNatClampNeg ∧ (C m_Mod_row [.ref 113, .int (gI m 0 (v + (1 : Int32)).toNatClampNeg), .int (gI m 0 (v + (2 : Int32)).toNatClampNeg), .int (gI m 0 (v + (3 : Int32)).toNatClampNeg)] m (fun o1 m2 => ∃ x3, o1 = some (.int x3) ∧ (if x = x3 then K 1556 [.ref 0, .ref 20, .ref 113, .int v] [] m2
    else (0 : Int32) &&& 1 = (0 : Int32) ∧ Q (some (.int (0 : Int32))) m2)))))) :
    K 430 [.ref 0, .ref 20, .ref 113, .int v] [.int x] m := zgoK lwcut hC hK zs_law (i := .aload_n 2) (r := zfind zc_law 431) rfl h
set_option maxRecDepth 100000 in
theorem lw_463 {C : zC} {Q : zQ} {K : zK} (hC : zCm C) (hK : zKc C 15 (some .boolean) zc_law Q K) (v : Int32) (x : Int32) (m : zM) (h :
    vp_in (v + (1 : Int32)) (gI m 1 0).toNatClampNeg ∧ (C m_Mod_feed [.ref 113, .int (gI m 0 (v + (1 : Int32)).toNatClampNeg)] m (fun o1 m2 => ∃ x3, o1 = some (.int x3) ∧ (if x = x3 then K 1556 [.ref 0, .ref 20, .ref 113, .int v] [] m2
    else (0 : Int32) &&& 1 = (0 : Int32) ∧ Q (some (.int (0 : Int32))) m2)))) :
    K 463 [.ref 0, .ref 20, .ref 113, .int v] [.int x] m := zgoK lwcut hC hK zs_law (i := .aload_n 2) (r := zfind zc_law 464) rfl h
set_option maxRecDepth 100000 in
theorem lw_481 {C : zC} {Q : zQ} {K : zK} (hC : zCm C) (hK : zKc C 15 (some .boolean) zc_law Q K) (v : Int32) (x : Int32) (m : zM) (h :
    C m_Mod_garden [.ref 113] m (fun o1 m2 => ∃ x3, o1 = some (.int x3) ∧ (if x = x3 then K 1556 [.ref 0, .ref 20, .ref 113, .int v] [] m2
    else (0 : Int32) &&& 1 = (0 : Int32) ∧ Q (some (.int (0 : Int32))) m2))) :
    K 481 [.ref 0, .ref 20, .ref 113, .int v] [.int x] m := zgoK lwcut hC hK zs_law (i := .aload_n 2) (r := zfind zc_law 482) rfl h
set_option maxRecDepth 100000 in
theorem lw_499 {C : zC} {Q : zQ} {K : zK} (hC : zCm C) (hK : zKc C 15 (some .boolean) zc_law Q K) (v : Int32) (x : Int32) (m : zM) (h :
    vp_in (v + (1 : Int32)) (gI m 1 0).toNatClampNeg ∧ (C m_Mod_told [.ref 113, .int (gI m 0 (v + (1 : Int32)).toNatClampNeg)] m (fun o1 m2 => ∃ x3, o1 = some (.int x3) ∧ (if x = x3 then K 1556 [.ref 0, .ref 20, .ref 113, .int v] [] m2
    else (0 : Int32) &&& 1 = (0 : Int32) ∧ Q (some (.int (0 : Int32))) m2)))) :
    K 499 [.ref 0, .ref 20, .ref 113, .int v] [.int x] m := zgoK lwcut hC hK zs_law (i := .aload_n 2) (r := zfind zc_law 500) rfl h
set_option maxRecDepth 100000 in
theorem lw_522 {C : zC} {Q : zQ} {K : zK} (hC : zCm C) (hK : zKc C 15 (some .boolean) zc_law Q K) (v : Int32) (x : Int32) (m : zM) (h :
    vp_in (v + (1 : Int32)) (gI m 1 0).toNatClampNeg ∧ (C m_Mod_pass [.ref 113, .int (gI m 0 (v + (1 : Int32)).toNatClampNeg)] m (fun o1 m2 => ∃ x3, o1 = some (.int x3) ∧ (if x = x3 then K 1556 [.ref 0, .ref 20, .ref 113, .int v] [] m2
    else (0 : Int32) &&& 1 = (0 : Int32) ∧ Q (some (.int (0 : Int32))) m2)))) :
    K 522 [.ref 0, .ref 20, .ref 113, .int v] [.int x] m := zgoK lwcut hC hK zs_law (i := .aload_n 2) (r := zfind zc_law 523) rfl h
set_option maxRecDepth 100000 in
theorem lw_560 {C : zC} {Q : zQ} {K : zK} (hC : zCm C) (hK : zKc C 15 (some .boolean) zc_law Q K) (v : Int32) (x : Int32) (m : zM) (h :
    vp_in (v + (1 : Int32)) (gI m 1 0).toNatClampNeg ∧ (vp_in (v + (2 : Int32)) (gI m 1 0).toNatClampNeg ∧ (vp_in (v + (3 : Int32)) (gI m 1 0).toNatClampNeg ∧ (vp_in (v + (4 : Int32)) (gI m 1 0).toNatClampNeg ∧ (C m_Mod_heard [.ref 113, .int (gI m 0 (v + (1 : Int32)).toNatClampNeg), .int (gI m 0 (v + (2 : Int32)).toNatClampNeg), .int (gI m 0 (v + (3 : Int32)).toNatClampNeg), .int (gI m 0 (v + (4 : Int32)).toNatClampNeg)] m (fun o1 m2 => ∃ x3, o1 = some (.int x3) ∧ (if x = x3 then K 1556 [.ref 0, .ref 20, .ref 113, .int v] [] m2
    else (0 : Int32) &&& 1 = (0 : Int32) ∧ Q (some (.int (0 : Int32))) m2))))))) :
    K 560 [.ref 0, .ref 20, .ref 113, .int v] [.int x] m := zgoK lwcut hC hK zs_law (i := .aload_n 2) (r := zfind zc_law 561) rfl h
set_option maxRecDepth 100000 in
theorem lw_603 {C : zC} {Q : zQ} {K : zK} (hC : zCm C) (hK : zKc C 15 (some .boolean) zc_law Q K) (v : Int32) (x : Int32) (m : zM) (h :
    vp_in (v + (1 : Int32)) (gI m 1 0).toNatClampNeg ∧ (vp_in (v + (2 : Int32)) (gI m 1 0).toNatClampNeg ∧ (C m_Mod_by [.ref 113, .int (gI m 0 (v + (1 : Int32)).toNatClampNeg), .int (gI m 0 (v + (2 : Int32)).toNatClampNeg)] m (fun o1 m2 => ∃ x3, o1 = some (.int x3) ∧ (if x = x3 then K 1556 [.ref 0, .ref 20, .ref 113, .int v] [] m2
    else (0 : Int32) &&& 1 = (0 : Int32) ∧ Q (some (.int (0 : Int32))) m2))))) :
    K 603 [.ref 0, .ref 20, .ref 113, .int v] [.int x] m := zgoK lwcut hC hK zs_law (i := .aload_n 2) (r := zfind zc_law 604) rfl h
set_option maxRecDepth 100000 in
theorem lw_636 {C : zC} {Q : zQ} {K : zK} (hC : zCm C) (hK : zKc C 15 (some .boolean) zc_law Q K) (v : Int32) (x : Int32) (m : zM) (h :
    vp_in (v + (1 : Int32)) (gI m 1 0).toNatClampNeg ∧ (vp_in (v + (2 : Int32)) (gI m 1 0).toNatClampNeg ∧ (C m_Mod_right [.ref 113, .int (gI m 0 (v + (1 : Int32)).toNatClampNeg), .int (gI m 0 (v + (2 : Int32)).toNatClampNeg)] m (fun o1 m2 => ∃ x3, o1 = some (.int x3) ∧ (if x = x3 then K 1556 [.ref 0, .ref 20, .ref 113, .int v] [] m2
    else (0 : Int32) &&& 1 = (0 : Int32) ∧ Q (some (.int (0 : Int32))) m2))))) :
    K 636 [.ref 0, .ref 20, .ref 113, .int v] [.int x] m := zgoK lwcut hC hK zs_law (i := .aload_n 2) (r := zfind zc_law 637) rfl h
set_option maxRecDepth 100000 in
theorem lw_664 {C : zC} {Q : zQ} {K : zK} (hC : zCm C) (hK : zKc C 15 (some .boolean) zc_law Q K) (v : Int32) (x : Int32) (m : zM) (h :
    vp_in (v + (1 : Int32)) (gI m 1 0).toNatClampNeg ∧ (C m_Mod_last [.ref 113, .int (gI m 0 (v + (1 : Int32)).toNatClampNeg)] m (fun o1 m2 => ∃ x3, o1 = some (.int x3) ∧ (if x = x3 then K 1556 [.ref 0, .ref 20, .ref 113, .int v] [] m2
    else (0 : Int32) &&& 1 = (0 : Int32) ∧ Q (some (.int (0 : Int32))) m2)))) :
    K 664 [.ref 0, .ref 20, .ref 113, .int v] [.int x] m := zgoK lwcut hC hK zs_law (i := .aload_n 2) (r := zfind zc_law 665) rfl h
set_option maxRecDepth 100000 in
theorem lw_697 {C : zC} {Q : zQ} {K : zK} (hC : zCm C) (hK : zKc C 15 (some .boolean) zc_law Q K) (v : Int32) (x : Int32) (m : zM) (h :
    vp_in (v + (1 : Int32)) (gI m 1 0).toNatClampNeg ∧ (vp_in (v + (2 : Int32)) (gI m 1 0).toNatClampNeg ∧ (vp_in (v + (3 : Int32)) (gI m 1 0).toNatClampNeg ∧ (C m_Mod_cut [.ref 113, .int (gI m 0 (v + (1 : Int32)).toNatClampNeg), .int (gI m 0 (v + (2 : Int32)).toNatClampNeg), .int (gI m 0 (v + (3 : Int32)).toNatClampNeg)] m (fun o1 m2 => ∃ x3, o1 = some (.int x3) ∧ (if x = x3 then K 1556 [.ref 0, .ref 20, .ref 113, .int v] [] m2
    else (0 : Int32) &&& 1 = (0 : Int32) ∧ Q (some (.int (0 : Int32))) m2)))))) :
    K 697 [.ref 0, .ref 20, .ref 113, .int v] [.int x] m := zgoK lwcut hC hK zs_law (i := .aload_n 2) (r := zfind zc_law 698) rfl h
set_option maxRecDepth 100000 in
theorem lw_735 {C : zC} {Q : zQ} {K : zK} (hC : zCm C) (hK : zKc C 15 (some .boolean) zc_law Q K) (v : Int32) (x : Int32) (m : zM) (h :
    vp_in (v + (1 : Int32)) (gI m 1 0).toNatClampNeg ∧ (vp_in (v + (2 : Int32)) (gI m 1 0).toNatClampNeg ∧ (C m_Mod_needed [.ref 113, .int (gI m 0 (v + (1 : Int32)).toNatClampNeg), .int (gI m 0 (v + (2 : Int32)).toNatClampNeg)] m (fun o1 m2 => ∃ x3, o1 = some (.int x3) ∧ (if x = x3 then K 1556 [.ref 0, .ref 20, .ref 113, .int v] [] m2
    else (0 : Int32) &&& 1 = (0 : Int32) ∧ Q (some (.int (0 : Int32))) m2))))) :
    K 735 [.ref 0, .ref 20, .ref 113, .int v] [.int x] m := zgoK lwcut hC hK zs_law (i := .aload_n 2) (r := zfind zc_law 736) rfl h
set_option maxRecDepth 100000 in
theorem lw_773 {C : zC} {Q : zQ} {K : zK} (hC : zCm C) (hK : zKc C 15 (some .boolean) zc_law Q K) (v : Int32) (x : Int32) (m : zM) (h :
    vp_in (v + (1 : Int32)) (gI m 1 0).toNatClampNeg ∧ (vp_in (v + (2 : Int32)) (gI m 1 0).toNatClampNeg ∧ (vp_in (v + (3 : Int32)) (gI m 1 0).toNatClampNeg ∧ (C m_Mod_round [.ref 113, .int (gI m 0 (v + (1 : Int32)).toNatClampNeg), .int (gI m 0 (v + (2 : Int32)).toNatClampNeg), .int (gI m 0 (v + (3 : Int32)).toNatClampNeg)] m (fun o1 m2 => ∃ x3, o1 = some (.int x3) ∧ (if x = x3 then K 1556 [.ref 0, .ref 20, .ref 113, .int v] [] m2
    else (0 : Int32) &&& 1 = (0 : Int32) ∧ Q (some (.int (0 : Int32))) m2)))))) :
    K 773 [.ref 0, .ref 20, .ref 113, .int v] [.int x] m := zgoK lwcut hC hK zs_law (i := .aload_n 2) (r := zfind zc_law 774) rfl h
set_option maxRecDepth 100000 in
theorem lw_811 {C : zC} {Q : zQ} {K : zK} (hC : zCm C) (hK : zKc C 15 (some .boolean) zc_law Q K) (v : Int32) (x : Int32) (m : zM) (h :
    vp_in (v + (1 : Int32)) (gI m 1 0).toNatClampNeg ∧ (vp_in (v + (2 : Int32)) (gI m 1 0).toNatClampNeg ∧ (C m_Mod_meet [.ref 113, .int (gI m 0 (v + (1 : Int32)).toNatClampNeg), .int (gI m 0 (v + (2 : Int32)).toNatClampNeg)] m (fun o1 m2 => ∃ x3, o1 = some (.int x3) ∧ (if x = x3 then K 1556 [.ref 0, .ref 20, .ref 113, .int v] [] m2
    else (0 : Int32) &&& 1 = (0 : Int32) ∧ Q (some (.int (0 : Int32))) m2))))) :
    K 811 [.ref 0, .ref 20, .ref 113, .int v] [.int x] m := zgoK lwcut hC hK zs_law (i := .aload_n 2) (r := zfind zc_law 812) rfl h
set_option maxRecDepth 100000 in
theorem lw_849 {C : zC} {Q : zQ} {K : zK} (hC : zCm C) (hK : zKc C 15 (some .boolean) zc_law Q K) (v : Int32) (x : Int32) (m : zM) (h :
    vp_in (v + (1 : Int32)) (gI m 1 0).toNatClampNeg ∧ (vp_in (v + (2 : Int32)) (gI m 1 0).toNatClampNeg ∧ (vp_in (v + (3 : Int32)) (gI m 1 0).toNatClampNeg ∧ (C m_Mod_join [.ref 113, .int (gI m 0 (v + (1 : Int32)).toNatClampNeg), .int (gI m 0 (v + (2 : Int32)).toNatClampNeg), .int (gI m 0 (v + (3 : Int32)).toNatClampNeg)] m (fun o1 m2 => ∃ x3, o1 = some (.int x3) ∧ (if x = x3 then K 1556 [.ref 0, .ref 20, .ref 113, .int v] [] m2
    else (0 : Int32) &&& 1 = (0 : Int32) ∧ Q (some (.int (0 : Int32))) m2)))))) :
    K 849 [.ref 0, .ref 20, .ref 113, .int v] [.int x] m := zgoK lwcut hC hK zs_law (i := .aload_n 2) (r := zfind zc_law 850) rfl h
set_option maxRecDepth 100000 in
theorem lw_882 {C : zC} {Q : zQ} {K : zK} (hC : zCm C) (hK : zKc C 15 (some .boolean) zc_law Q K) (v : Int32) (x : Int32) (m : zM) (h :
    vp_in (v + (1 : Int32)) (gI m 1 0).toNatClampNeg ∧ (C m_Mod_listen [.ref 113, .int (gI m 0 (v + (1 : Int32)).toNatClampNeg)] m (fun o1 m2 => ∃ x3, o1 = some (.int x3) ∧ (if x = x3 then K 1556 [.ref 0, .ref 20, .ref 113, .int v] [] m2
    else (0 : Int32) &&& 1 = (0 : Int32) ∧ Q (some (.int (0 : Int32))) m2)))) :
    K 882 [.ref 0, .ref 20, .ref 113, .int v] [.int x] m := zgoK lwcut hC hK zs_law (i := .aload_n 2) (r := zfind zc_law 883) rfl h
set_option maxRecDepth 100000 in
theorem lw_915 {C : zC} {Q : zQ} {K : zK} (hC : zCm C) (hK : zKc C 15 (some .boolean) zc_law Q K) (v : Int32) (x : Int32) (m : zM) (h :
    vp_in (v + (1 : Int32)) (gI m 1 0).toNatClampNeg ∧ (vp_in (v + (2 : Int32)) (gI m 1 0).toNatClampNeg ∧ (vp_in (v + (3 : Int32)) (gI m 1 0).toNatClampNeg ∧ (C m_Mod_see [.ref 113, .int (gI m 0 (v + (1 : Int32)).toNatClampNeg), .int (gI m 0 (v + (2 : Int32)).toNatClampNeg), .int (gI m 0 (v + (3 : Int32)).toNatClampNeg)] m (fun o1 m2 => ∃ x3, o1 = some (.int x3) ∧ (if x = x3 then K 1556 [.ref 0, .ref 20, .ref 113, .int v] [] m2
    else (0 : Int32) &&& 1 = (0 : Int32) ∧ Q (some (.int (0 : Int32))) m2)))))) :
    K 915 [.ref 0, .ref 20, .ref 113, .int v] [.int x] m := zgoK lwcut hC hK zs_law (i := .aload_n 2) (r := zfind zc_law 916) rfl h
set_option maxRecDepth 100000 in
theorem lw_948 {C : zC} {Q : zQ} {K : zK} (hC : zCm C) (hK : zKc C 15 (some .boolean) zc_law Q K) (v : Int32) (x : Int32) (m : zM) (h :
    vp_in (v + (1 : Int32)) (gI m 1 0).toNatClampNeg ∧ (C m_Mod_who [.ref 113, .int (gI m 0 (v + (1 : Int32)).toNatClampNeg)] m (fun o1 m2 => ∃ x3, o1 = some (.int x3) ∧ (if x = x3 then K 1556 [.ref 0, .ref 20, .ref 113, .int v] [] m2
    else (0 : Int32) &&& 1 = (0 : Int32) ∧ Q (some (.int (0 : Int32))) m2)))) :
    K 948 [.ref 0, .ref 20, .ref 113, .int v] [.int x] m := zgoK lwcut hC hK zs_law (i := .aload_n 2) (r := zfind zc_law 949) rfl h
set_option maxRecDepth 100000 in
theorem lw_981 {C : zC} {Q : zQ} {K : zK} (hC : zCm C) (hK : zKc C 15 (some .boolean) zc_law Q K) (v : Int32) (x : Int64) (m : zM) (h :
    vp_in (v + (1 : Int32)) (gI m 1 0).toNatClampNeg ∧ (vp_in (v + (2 : Int32)) (gI m 1 0).toNatClampNeg ∧ (vp_in (v + (3 : Int32)) (gI m 1 0).toNatClampNeg ∧ (C m_Mod_odds [.ref 113, .int (gI m 0 (v + (1 : Int32)).toNatClampNeg), .int (gI m 0 (v + (2 : Int32)).toNatClampNeg), .int (gI m 0 (v + (3 : Int32)).toNatClampNeg)] m (fun o1 m2 => ∃ y3, o1 = some (.long y3) ∧ (if (lg_cmp x y3) = (0 : Int32) then K 1556 [.ref 0, .ref 20, .ref 113, .int v] [] m2
    else (0 : Int32) &&& 1 = (0 : Int32) ∧ Q (some (.int (0 : Int32))) m2)))))) :
    K 981 [.ref 0, .ref 20, .ref 113, .int v] [.long x] m := zgoK lwcut hC hK zs_law (i := .aload_n 2) (r := zfind zc_law 982) rfl h
set_option maxRecDepth 100000 in
theorem lw_1020 {C : zC} {Q : zQ} {K : zK} (hC : zCm C) (hK : zKc C 15 (some .boolean) zc_law Q K) (v : Int32) (x : Int64) (m : zM) (h :
    vp_in (v + (1 : Int32)) (gI m 1 0).toNatClampNeg ∧ (vp_in (v + (2 : Int32)) (gI m 1 0).toNatClampNeg ∧ (C m_Mod_mean [.ref 113, .int (gI m 0 (v + (1 : Int32)).toNatClampNeg), .int (gI m 0 (v + (2 : Int32)).toNatClampNeg)] m (fun o1 m2 => ∃ y3, o1 = some (.long y3) ∧ (if (lg_cmp x y3) = (0 : Int32) then K 1556 [.ref 0, .ref 20, .ref 113, .int v] [] m2
    else (0 : Int32) &&& 1 = (0 : Int32) ∧ Q (some (.int (0 : Int32))) m2))))) :
    K 1020 [.ref 0, .ref 20, .ref 113, .int v] [.long x] m := zgoK lwcut hC hK zs_law (i := .aload_n 2) (r := zfind zc_law 1021) rfl h
set_option maxRecDepth 100000 in
theorem lw_1054 {C : zC} {Q : zQ} {K : zK} (hC : zCm C) (hK : zKc C 15 (some .boolean) zc_law Q K) (v : Int32) (x : Int32) (m : zM) (h :
    vp_in (v + (1 : Int32)) (gI m 1 0).toNatClampNeg ∧ (vp_in (v + (2 : Int32)) (gI m 1 0).toNatClampNeg ∧ (C m_Mod_plan [.ref 113, .int (gI m 0 (v + (1 : Int32)).toNatClampNeg), .int (gI m 0 (v + (2 : Int32)).toNatClampNeg)] m (fun o1 m2 => ∃ x3, o1 = some (.int x3) ∧ (if x = x3 then K 1556 [.ref 0, .ref 20, .ref 113, .int v] [] m2
    else (0 : Int32) &&& 1 = (0 : Int32) ∧ Q (some (.int (0 : Int32))) m2))))) :
    K 1054 [.ref 0, .ref 20, .ref 113, .int v] [.int x] m := zgoK lwcut hC hK zs_law (i := .aload_n 2) (r := zfind zc_law 1055) rfl h
set_option maxRecDepth 100000 in
theorem lw_1087 {C : zC} {Q : zQ} {K : zK} (hC : zCm C) (hK : zKc C 15 (some .boolean) zc_law Q K) (v : Int32) (x : Int32) (m : zM) (h :
    vp_in (v + (1 : Int32)) (gI m 1 0).toNatClampNeg ∧ (vp_in (v + (2 : Int32)) (gI m 1 0).toNatClampNeg ∧ (C m_Mod_planned [.ref 113, .int (gI m 0 (v + (1 : Int32)).toNatClampNeg), .int (gI m 0 (v + (2 : Int32)).toNatClampNeg)] m (fun o1 m2 => ∃ x3, o1 = some (.int x3) ∧ (if x = x3 then K 1556 [.ref 0, .ref 20, .ref 113, .int v] [] m2
    else (0 : Int32) &&& 1 = (0 : Int32) ∧ Q (some (.int (0 : Int32))) m2))))) :
    K 1087 [.ref 0, .ref 20, .ref 113, .int v] [.int x] m := zgoK lwcut hC hK zs_law (i := .aload_n 2) (r := zfind zc_law 1088) rfl h
set_option maxRecDepth 100000 in
theorem lw_1125 {C : zC} {Q : zQ} {K : zK} (hC : zCm C) (hK : zKc C 15 (some .boolean) zc_law Q K) (v : Int32) (x : Int32) (m : zM) (h :
    vp_in (v + (1 : Int32)) (gI m 1 0).toNatClampNeg ∧ (vp_in (v + (2 : Int32)) (gI m 1 0).toNatClampNeg ∧ (vp_in (v + (3 : Int32)) (gI m 1 0).toNatClampNeg ∧ (C m_Mod_book [.ref 113, .int (gI m 0 (v + (1 : Int32)).toNatClampNeg), .int (gI m 0 (v + (2 : Int32)).toNatClampNeg), .int (gI m 0 (v + (3 : Int32)).toNatClampNeg)] m (fun o1 m2 => ∃ x3, o1 = some (.int x3) ∧ (if x = x3 then K 1556 [.ref 0, .ref 20, .ref 113, .int v] [] m2
    else (0 : Int32) &&& 1 = (0 : Int32) ∧ Q (some (.int (0 : Int32))) m2)))))) :
    K 1125 [.ref 0, .ref 20, .ref 113, .int v] [.int x] m := zgoK lwcut hC hK zs_law (i := .aload_n 2) (r := zfind zc_law 1126) rfl h
set_option maxRecDepth 100000 in
theorem lw_1153 {C : zC} {Q : zQ} {K : zK} (hC : zCm C) (hK : zKc C 15 (some .boolean) zc_law Q K) (v : Int32) (x : Int32) (m : zM) (h :
    C m_Mod_looked [.ref 113] m (fun o1 m2 => ∃ x3, o1 = some (.int x3) ∧ (if x = x3 then K 1556 [.ref 0, .ref 20, .ref 113, .int v] [] m2
    else (0 : Int32) &&& 1 = (0 : Int32) ∧ Q (some (.int (0 : Int32))) m2))) :
    K 1153 [.ref 0, .ref 20, .ref 113, .int v] [.int x] m := zgoK lwcut hC hK zs_law (i := .aload_n 2) (r := zfind zc_law 1154) rfl h
set_option maxRecDepth 100000 in
theorem lw_1176 {C : zC} {Q : zQ} {K : zK} (hC : zCm C) (hK : zKc C 15 (some .boolean) zc_law Q K) (v : Int32) (x : Int32) (m : zM) (h :
    vp_in (v + (1 : Int32)) (gI m 1 0).toNatClampNeg ∧ (vp_in (v + (2 : Int32)) (gI m 1 0).toNatClampNeg ∧ (C m_Mod_judge [.ref 113, .int (gI m 0 (v + (1 : Int32)).toNatClampNeg), .int (gI m 0 (v + (2 : Int32)).toNatClampNeg)] m (fun o1 m2 => ∃ x3, o1 = some (.int x3) ∧ (if x = x3 then K 1556 [.ref 0, .ref 20, .ref 113, .int v] [] m2
    else (0 : Int32) &&& 1 = (0 : Int32) ∧ Q (some (.int (0 : Int32))) m2))))) :
    K 1176 [.ref 0, .ref 20, .ref 113, .int v] [.int x] m := zgoK lwcut hC hK zs_law (i := .aload_n 2) (r := zfind zc_law 1177) rfl h
set_option maxRecDepth 100000 in
theorem lw_1199 {C : zC} {Q : zQ} {K : zK} (hC : zCm C) (hK : zKc C 15 (some .boolean) zc_law Q K) (v : Int32) (x : Int32) (m : zM) (h :
    C m_Mod_image [.ref 113] m (fun o1 m2 => ∃ x3, o1 = some (.int x3) ∧ (if x = x3 then K 1556 [.ref 0, .ref 20, .ref 113, .int v] [] m2
    else (0 : Int32) &&& 1 = (0 : Int32) ∧ Q (some (.int (0 : Int32))) m2))) :
    K 1199 [.ref 0, .ref 20, .ref 113, .int v] [.int x] m := zgoK lwcut hC hK zs_law (i := .aload_n 2) (r := zfind zc_law 1200) rfl h
set_option maxRecDepth 100000 in
theorem lw_1212 {C : zC} {Q : zQ} {K : zK} (hC : zCm C) (hK : zKc C 15 (some .boolean) zc_law Q K) (v : Int32) (x : Int32) (m : zM) (h :
    C m_Mod_undo [.ref 113] m (fun o1 m2 => ∃ x3, o1 = some (.int x3) ∧ (if x = x3 then K 1556 [.ref 0, .ref 20, .ref 113, .int v] [] m2
    else (0 : Int32) &&& 1 = (0 : Int32) ∧ Q (some (.int (0 : Int32))) m2))) :
    K 1212 [.ref 0, .ref 20, .ref 113, .int v] [.int x] m := zgoK lwcut hC hK zs_law (i := .aload_n 2) (r := zfind zc_law 1213) rfl h
set_option maxRecDepth 100000 in
theorem lw_1240 {C : zC} {Q : zQ} {K : zK} (hC : zCm C) (hK : zKc C 15 (some .boolean) zc_law Q K) (v : Int32) (x : Int32) (m : zM) (h :
    vp_in (v + (1 : Int32)) (gI m 1 0).toNatClampNeg ∧ (vp_in (v + (2 : Int32)) (gI m 1 0).toNatClampNeg ∧ (vp_in (v + (3 : Int32)) (gI m 1 0).toNatClampNeg ∧ (C m_Mod_act [.ref 113, .int (gI m 0 (v + (1 : Int32)).toNatClampNeg), .int (gI m 0 (v + (2 : Int32)).toNatClampNeg), .int (gI m 0 (v + (3 : Int32)).toNatClampNeg)] m (fun o1 m2 => ∃ x3, o1 = some (.int x3) ∧ (if x = x3 then K 1556 [.ref 0, .ref 20, .ref 113, .int v] [] m2
    else (0 : Int32) &&& 1 = (0 : Int32) ∧ Q (some (.int (0 : Int32))) m2)))))) :
    K 1240 [.ref 0, .ref 20, .ref 113, .int v] [.int x] m := zgoK lwcut hC hK zs_law (i := .aload_n 2) (r := zfind zc_law 1241) rfl h
set_option maxRecDepth 100000 in
theorem lw_1273 {C : zC} {Q : zQ} {K : zK} (hC : zCm C) (hK : zKc C 15 (some .boolean) zc_law Q K) (v : Int32) (x : Int32) (m : zM) (h :
    vp_in (v + (1 : Int32)) (gI m 1 0).toNatClampNeg ∧ (C m_Mod_trace [.ref 113, .int (gI m 0 (v + (1 : Int32)).toNatClampNeg)] m (fun o1 m2 => ∃ x3, o1 = some (.int x3) ∧ (if x = x3 then K 1556 [.ref 0, .ref 20, .ref 113, .int v] [] m2
    else (0 : Int32) &&& 1 = (0 : Int32) ∧ Q (some (.int (0 : Int32))) m2)))) :
    K 1273 [.ref 0, .ref 20, .ref 113, .int v] [.int x] m := zgoK lwcut hC hK zs_law (i := .aload_n 2) (r := zfind zc_law 1274) rfl h
set_option maxRecDepth 100000 in
theorem lw_1301 {C : zC} {Q : zQ} {K : zK} (hC : zCm C) (hK : zKc C 15 (some .boolean) zc_law Q K) (v : Int32) (x : Int32) (m : zM) (h :
    vp_in (v + (1 : Int32)) (gI m 1 0).toNatClampNeg ∧ (vp_in (v + (2 : Int32)) (gI m 1 0).toNatClampNeg ∧ (C m_Mod_taken [.ref 113, .int (gI m 0 (v + (1 : Int32)).toNatClampNeg), .int (gI m 0 (v + (2 : Int32)).toNatClampNeg)] m (fun o1 m2 => ∃ x3, o1 = some (.int x3) ∧ (if x = x3 then K 1556 [.ref 0, .ref 20, .ref 113, .int v] [] m2
    else (0 : Int32) &&& 1 = (0 : Int32) ∧ Q (some (.int (0 : Int32))) m2))))) :
    K 1301 [.ref 0, .ref 20, .ref 113, .int v] [.int x] m := zgoK lwcut hC hK zs_law (i := .aload_n 2) (r := zfind zc_law 1302) rfl h
set_option maxRecDepth 100000 in
theorem lw_1329 {C : zC} {Q : zQ} {K : zK} (hC : zCm C) (hK : zKc C 15 (some .boolean) zc_law Q K) (v : Int32) (x : Int32) (m : zM) (h :
    vp_in (v + (1 : Int32)) (gI m 1 0).toNatClampNeg ∧ (C m_Mod_count [.ref 113, .int (gI m 0 (v + (1 : Int32)).toNatClampNeg)] m (fun o1 m2 => ∃ x3, o1 = some (.int x3) ∧ (if x = x3 then K 1556 [.ref 0, .ref 20, .ref 113, .int v] [] m2
    else (0 : Int32) &&& 1 = (0 : Int32) ∧ Q (some (.int (0 : Int32))) m2)))) :
    K 1329 [.ref 0, .ref 20, .ref 113, .int v] [.int x] m := zgoK lwcut hC hK zs_law (i := .aload_n 2) (r := zfind zc_law 1330) rfl h
set_option maxRecDepth 100000 in
theorem lw_1362 {C : zC} {Q : zQ} {K : zK} (hC : zCm C) (hK : zKc C 15 (some .boolean) zc_law Q K) (v : Int32) (x : Int32) (m : zM) (h :
    vp_in (v + (1 : Int32)) (gI m 1 0).toNatClampNeg ∧ (vp_in (v + (2 : Int32)) (gI m 1 0).toNatClampNeg ∧ (vp_in (v + (3 : Int32)) (gI m 1 0).toNatClampNeg ∧ (C m_Mod_tape [.ref 113, .int (gI m 0 (v + (1 : Int32)).toNatClampNeg), .int (gI m 0 (v + (2 : Int32)).toNatClampNeg), .int (gI m 0 (v + (3 : Int32)).toNatClampNeg)] m (fun o1 m2 => ∃ x3, o1 = some (.int x3) ∧ (if x = x3 then K 1556 [.ref 0, .ref 20, .ref 113, .int v] [] m2
    else (0 : Int32) &&& 1 = (0 : Int32) ∧ Q (some (.int (0 : Int32))) m2)))))) :
    K 1362 [.ref 0, .ref 20, .ref 113, .int v] [.int x] m := zgoK lwcut hC hK zs_law (i := .aload_n 2) (r := zfind zc_law 1363) rfl h
set_option maxRecDepth 100000 in
theorem lw_1420 {C : zC} {Q : zQ} {K : zK} (hC : zCm C) (hK : zKc C 15 (some .boolean) zc_law Q K) (v : Int32) (x : Int32) (m : zM) (h :
    vp_in (v + (1 : Int32)) (gI m 1 0).toNatClampNeg ∧ (vp_in (v + (2 : Int32)) (gI m 1 0).toNatClampNeg ∧ (vp_in (v + (3 : Int32)) (gI m 1 0).toNatClampNeg ∧ (vp_in (v + (4 : Int32)) (gI m 1 0).toNatClampNeg ∧ (C m_Mod_item [.ref 113, .int (gI m 0 (v + (1 : Int32)).toNatClampNeg), .int (gI m 0 (v + (2 : Int32)).toNatClampNeg), .long ((((gI m 0 (v + (3 : Int32)).toNatClampNeg).toInt64) <<< ((32 : Int32).toInt64 &&& 63)) ||| (((gI m 0 (v + (4 : Int32)).toNatClampNeg).toInt64) &&& (4294967295 : Int64)))] m (fun o1 m2 => ∃ x3, o1 = some (.int x3) ∧ (if x = x3 then K 1556 [.ref 0, .ref 20, .ref 113, .int v] [] m2
    else (0 : Int32) &&& 1 = (0 : Int32) ∧ Q (some (.int (0 : Int32))) m2))))))) :
    K 1420 [.ref 0, .ref 20, .ref 113, .int v] [.int x] m := zgoK lwcut hC hK zs_law (i := .aload_n 2) (r := zfind zc_law 1421) rfl h
set_option maxRecDepth 100000 in
theorem lw_1473 {C : zC} {Q : zQ} {K : zK} (hC : zCm C) (hK : zKc C 15 (some .boolean) zc_law Q K) (v : Int32) (x : Int64) (m : zM) (h :
    vp_in (v + (1 : Int32)) (gI m 1 0).toNatClampNeg ∧ (vp_in (v + (2 : Int32)) (gI m 1 0).toNatClampNeg ∧ (C m_Mod_read [.ref 113, .int (gI m 0 (v + (1 : Int32)).toNatClampNeg), .int (gI m 0 (v + (2 : Int32)).toNatClampNeg)] m (fun o1 m2 => ∃ y3, o1 = some (.long y3) ∧ (if (lg_cmp x y3) = (0 : Int32) then K 1556 [.ref 0, .ref 20, .ref 113, .int v] [] m2
    else (0 : Int32) &&& 1 = (0 : Int32) ∧ Q (some (.int (0 : Int32))) m2))))) :
    K 1473 [.ref 0, .ref 20, .ref 113, .int v] [.long x] m := zgoK lwcut hC hK zs_law (i := .aload_n 2) (r := zfind zc_law 1474) rfl h
set_option maxRecDepth 100000 in
theorem lw_1522 {C : zC} {Q : zQ} {K : zK} (hC : zCm C) (hK : zKc C 15 (some .boolean) zc_law Q K) (v : Int32) (x : Int32) (m : zM) (h :
    vp_in (v + (1 : Int32)) (gI m 1 0).toNatClampNeg ∧ (vp_in (v + (2 : Int32)) (gI m 1 0).toNatClampNeg ∧ (vp_in (v + (3 : Int32)) (gI m 1 0).toNatClampNeg ∧ (vp_in (v + (4 : Int32)) (gI m 1 0).toNatClampNeg ∧ (vp_in (v + (5 : Int32)) (gI m 1 0).toNatClampNeg ∧ (C m_Mod_shift [.ref 113, .int (gI m 0 (v + (1 : Int32)).toNatClampNeg), .int (gI m 0 (v + (2 : Int32)).toNatClampNeg), .int (gI m 0 (v + (3 : Int32)).toNatClampNeg), .int (gI m 0 (v + (4 : Int32)).toNatClampNeg), .int (gI m 0 (v + (5 : Int32)).toNatClampNeg)] m (fun o1 m2 => ∃ x3, o1 = some (.int x3) ∧ (if x = x3 then K 1556 [.ref 0, .ref 20, .ref 113, .int v] [] m2
    else (0 : Int32) &&& 1 = (0 : Int32) ∧ Q (some (.int (0 : Int32))) m2)))))))) :
    K 1522 [.ref 0, .ref 20, .ref 113, .int v] [.int x] m := zgoK lwcut hC hK zs_law (i := .aload_n 2) (r := zfind zc_law 1523) rfl h
set_option maxRecDepth 100000 in
theorem lw_1556 {C : zC} {Q : zQ} {K : zK} (hC : zCm C) (hK : zKc C 15 (some .boolean) zc_law Q K) (v : Int32) (m : zM) (h :
    K 18 [.ref 0, .ref 20, .ref 113, .int (v + (6 : Int32))] [] m) :
    K 1556 [.ref 0, .ref 20, .ref 113, .int v] [] m := zgoK lwcut hC hK zs_law (i := .iinc 3 6) (r := zfind zc_law 1559) rfl h
