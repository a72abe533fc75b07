/-! the law's cases (gen91.py) -/
def lwL (tb : Nat → Nat → Int32) (m : zM) : Prop := (∀ j, gI m 0 j = tb 0 j) ∧ ∀ j, gI m 1 j = tb 1 j
def lwK (tb : Nat → Nat → Int32) (K : zK) : Prop := ∀ pc ls st m, (lwL tb m → K pc ls st m) → K pc ls st m
theorem lg_self (y : Int64) : lg_cmp y y = 0 := by
  unfold lg_cmp
  rw [if_neg (fun z => by have := Int64.lt_iff_toInt_lt.mp z; omega), if_pos rfl]
theorem nk1 (k : Nat) : nI k + 1 = nI (k + 1) := nI_add k 1
theorem nk2 (k : Nat) : nI k + 2 = nI (k + 2) := nI_add k 2
theorem nk3 (k : Nat) : nI k + 3 = nI (k + 3) := nI_add k 3
theorem nk4 (k : Nat) : nI k + 4 = nI (k + 4) := nI_add k 4
theorem nk5 (k : Nat) : nI k + 5 = nI (k + 5) := nI_add k 5
theorem nk6 (k : Nat) : nI k + 6 = nI (k + 6) := nI_add k 6
section
variable {Q : zQ} {K : zK} {tb : Nat → Nat → Int32} {L k : Nat} {m : zM}
theorem lcs_0 (hK : zKc (zCall 50) 15 (some .boolean) zc_law Q K) (hlow : lwK tb K) (hL : tb 1 0 = nI L) (h2 : L ≤ 3072) (hk : k + 6 ≤ L) (hR : Rel m) (hN : ∀ m2, Rel m2 → K 1556 [.ref 0, .ref 20, .ref 113, .int (nI k)] [] m2) : K 204 [.ref 0, .ref 20, .ref 113, .int (nI k)] [] m := by
  have c1 := nI_clamp (n := k + 1) (by omega); have c2 := nI_clamp (n := k + 2) (by omega); have c3 := nI_clamp (n := k + 3) (by omega); have c4 := nI_clamp (n := k + 4) (by omega); have c5 := nI_clamp (n := k + 5) (by omega); have cL := nI_clamp (n := L) (by omega)
  refine hlow _ _ _ _ fun hl => lw_204 (zCall_m 50) hK (nI k) m ?_
  simp only [hl.1, hl.2, hL, nk1, nk2, nk3, nk4, nk5, c1, c2, c3, c4, c5, cL]
  refine ⟨vp_in_nI (by omega) (by omega), ⟨vp_in_nI (by omega) (by omega), ?_⟩⟩
  refine zCall_m 50 _ _ _ _ _ (fun o m1 h => ?_) (ok_plant hR _ _ (fun m2 => K 1556 [.ref 0, .ref 20, .ref 113, .int (nI k)] [] m2) hN)
  obtain ⟨x, rfl, h⟩ := h
  refine ⟨x, rfl, hlow _ _ _ _ fun hl1 => lw_218 (zCall_m 50) hK (nI k) x m1 ?_⟩
  simp only [hl1.1, hl1.2, hL, nk1, nk2, nk3, nk4, nk5, c1, c2, c3, c4, c5, cL]
  refine ⟨vp_in_nI (by omega) (by omega), ⟨vp_in_nI (by omega) (by omega), zCall_m 50 _ _ _ _ _ (fun o2 m2 h2 => ?_) h⟩⟩
  obtain ⟨y, rfl, e, h3⟩ := h2
  exact ⟨y, rfl, ip e h3⟩
theorem lcs_1 (hK : zKc (zCall 50) 15 (some .boolean) zc_law Q K) (hlow : lwK tb K) (hL : tb 1 0 = nI L) (h2 : L ≤ 3072) (hk : k + 6 ≤ L) (hR : Rel m) (hN : ∀ m2, Rel m2 → K 1556 [.ref 0, .ref 20, .ref 113, .int (nI k)] [] m2) : K 237 [.ref 0, .ref 20, .ref 113, .int (nI k)] [] m := by
  have c1 := nI_clamp (n := k + 1) (by omega); have c2 := nI_clamp (n := k + 2) (by omega); have c3 := nI_clamp (n := k + 3) (by omega); have c4 := nI_clamp (n := k + 4) (by omega); have c5 := nI_clamp (n := k + 5) (by omega); have cL := nI_clamp (n := L) (by omega)
  refine hlow _ _ _ _ fun hl => lw_237 (zCall_m 50) hK (nI k) m ?_
  simp only [hl.1, hl.2, hL, nk1, nk2, nk3, nk4, nk5, c1, c2, c3, c4, c5, cL]
  refine ⟨vp_in_nI (by omega) (by omega), ⟨vp_in_nI (by omega) (by omega), ?_⟩⟩
  refine zCall_m 50 _ _ _ _ _ (fun o m1 h => ?_) (ok_of hR _ _ (fun m2 => K 1556 [.ref 0, .ref 20, .ref 113, .int (nI k)] [] m2) hN)
  obtain ⟨x, rfl, h⟩ := h
  refine ⟨x, rfl, hlow _ _ _ _ fun hl1 => lw_251 (zCall_m 50) hK (nI k) x m1 ?_⟩
  simp only [hl1.1, hl1.2, hL, nk1, nk2, nk3, nk4, nk5, c1, c2, c3, c4, c5, cL]
  refine ⟨vp_in_nI (by omega) (by omega), ⟨vp_in_nI (by omega) (by omega), zCall_m 50 _ _ _ _ _ (fun o2 m2 h2 => ?_) h⟩⟩
  obtain ⟨y, rfl, e, h3⟩ := h2
  exact ⟨y, rfl, ip e h3⟩
theorem lcs_2 (hK : zKc (zCall 50) 15 (some .boolean) zc_law Q K) (hlow : lwK tb K) (hL : tb 1 0 = nI L) (h2 : L ≤ 3072) (hk : k + 6 ≤ L) (hR : Rel m) (hN : ∀ m2, Rel m2 → K 1556 [.ref 0, .ref 20, .ref 113, .int (nI k)] [] m2) : K 270 [.ref 0, .ref 20, .ref 113, .int (nI k)] [] m := by
  have c1 := nI_clamp (n := k + 1) (by omega); have c2 := nI_clamp (n := k + 2) (by omega); have c3 := nI_clamp (n := k + 3) (by omega); have c4 := nI_clamp (n := k + 4) (by omega); have c5 := nI_clamp (n := k + 5) (by omega); have cL := nI_clamp (n := L) (by omega)
  refine hlow _ _ _ _ fun hl => lw_270 (zCall_m 50) hK (nI k) m ?_
  simp only [hl.1, hl.2, hL, nk1, nk2, nk3, nk4, nk5, c1, c2, c3, c4, c5, cL]
  refine ⟨vp_in_nI (by omega) (by omega), ⟨vp_in_nI (by omega) (by omega), ?_⟩⟩
  refine zCall_m 50 _ _ _ _ _ (fun o m1 h => ?_) (ok_says hR _ _ (fun m2 => K 1556 [.ref 0, .ref 20, .ref 113, .int (nI k)] [] m2) hN)
  obtain ⟨x, rfl, h⟩ := h
  refine ⟨x, rfl, hlow _ _ _ _ fun hl1 => lw_284 (zCall_m 50) hK (nI k) x m1 ?_⟩
  simp only [hl1.1, hl1.2, hL, nk1, nk2, nk3, nk4, nk5, c1, c2, c3, c4, c5, cL]
  refine ⟨vp_in_nI (by omega) (by omega), ⟨vp_in_nI (by omega) (by omega), zCall_m 50 _ _ _ _ _ (fun o2 m2 h2 => ?_) h⟩⟩
  obtain ⟨y, rfl, e, h3⟩ := h2
  exact ⟨y, rfl, ip e h3⟩
theorem lcs_3 (hK : zKc (zCall 50) 15 (some .boolean) zc_law Q K) (hlow : lwK tb K) (hL : tb 1 0 = nI L) (h2 : L ≤ 3072) (hk : k + 6 ≤ L) (hR : Rel m) (hN : ∀ m2, Rel m2 → K 1556 [.ref 0, .ref 20, .ref 113, .int (nI k)] [] m2) : K 303 [.ref 0, .ref 20, .ref 113, .int (nI k)] [] m := by
  have c1 := nI_clamp (n := k + 1) (by omega); have c2 := nI_clamp (n := k + 2) (by omega); have c3 := nI_clamp (n := k + 3) (by omega); have c4 := nI_clamp (n := k + 4) (by omega); have c5 := nI_clamp (n := k + 5) (by omega); have cL := nI_clamp (n := L) (by omega)
  refine hlow _ _ _ _ fun hl => lw_303 (zCall_m 50) hK (nI k) m ?_
  simp only [hl.1, hl.2, hL, nk1, nk2, nk3, nk4, nk5, c1, c2, c3, c4, c5, cL]
  refine ⟨vp_in_nI (by omega) (by omega), ⟨vp_in_nI (by omega) (by omega), ⟨vp_in_nI (by omega) (by omega), ?_⟩⟩⟩
  by_cases q : tb 0 (k + 3) = 0
  · refine ip q ?_
    refine zCall_m 50 _ _ _ _ _ (fun o m1 h => ?_) (ok_touch hR _ _ _ (fun m2 => K 1556 [.ref 0, .ref 20, .ref 113, .int (nI k)] [] m2) hN)
    obtain ⟨x, rfl, h⟩ := h
    refine ⟨x, rfl, hlow _ _ _ _ fun hl1 => lw_330 (zCall_m 50) hK (nI k) x m1 ?_⟩
    simp only [hl1.1, hl1.2, hL, nk1, nk2, nk3, nk4, nk5, c1, c2, c3, c4, c5, cL]
    refine ⟨vp_in_nI (by omega) (by omega), ⟨vp_in_nI (by omega) (by omega), ⟨vp_in_nI (by omega) (by omega), ip q (zCall_m 50 _ _ _ _ _ (fun o2 m2 h2 => ?_) h)⟩⟩⟩
    obtain ⟨y, rfl, e, h3⟩ := h2
    exact ⟨y, rfl, ip e h3⟩
  · refine iq q ?_
    refine zCall_m 50 _ _ _ _ _ (fun o m1 h => ?_) (ok_touch hR _ _ _ (fun m2 => K 1556 [.ref 0, .ref 20, .ref 113, .int (nI k)] [] m2) hN)
    obtain ⟨x, rfl, h⟩ := h
    refine ⟨x, rfl, hlow _ _ _ _ fun hl1 => lw_330 (zCall_m 50) hK (nI k) x m1 ?_⟩
    simp only [hl1.1, hl1.2, hL, nk1, nk2, nk3, nk4, nk5, c1, c2, c3, c4, c5, cL]
    refine ⟨vp_in_nI (by omega) (by omega), ⟨vp_in_nI (by omega) (by omega), ⟨vp_in_nI (by omega) (by omega), iq q (zCall_m 50 _ _ _ _ _ (fun o2 m2 h2 => ?_) h)⟩⟩⟩
    obtain ⟨y, rfl, e, h3⟩ := h2
    exact ⟨y, rfl, ip e h3⟩
theorem lcs_4 (hK : zKc (zCall 50) 15 (some .boolean) zc_law Q K) (hlow : lwK tb K) (hL : tb 1 0 = nI L) (h2 : L ≤ 3072) (hk : k + 6 ≤ L) (hR : Rel m) (hN : ∀ m2, Rel m2 → K 1556 [.ref 0, .ref 20, .ref 113, .int (nI k)] [] m2) : K 362 [.ref 0, .ref 20, .ref 113, .int (nI k)] [] m := by
  have c1 := nI_clamp (n := k + 1) (by omega); have c2 := nI_clamp (n := k + 2) (by omega); have c3 := nI_clamp (n := k + 3) (by omega); have c4 := nI_clamp (n := k + 4) (by omega); have c5 := nI_clamp (n := k + 5) (by omega); have cL := nI_clamp (n := L) (by omega)
  refine hlow _ _ _ _ fun hl => lw_362 (zCall_m 50) hK (nI k) m ?_
  simp only [hl.1, hl.2, hL, nk1, nk2, nk3, nk4, nk5, c1, c2, c3, c4, c5, cL]
  refine ⟨vp_in_nI (by omega) (by omega), ⟨vp_in_nI (by omega) (by omega), ?_⟩⟩
  by_cases q : tb 0 (k + 2) = 0
  · refine ip q ?_
    refine zCall_m 50 _ _ _ _ _ (fun o m1 h => ?_) (ok_kill hR _ _ (fun m2 => K 1556 [.ref 0, .ref 20, .ref 113, .int (nI k)] [] m2) hN)
    obtain ⟨x, rfl, h⟩ := h
    refine ⟨x, rfl, hlow _ _ _ _ fun hl1 => lw_384 (zCall_m 50) hK (nI k) x m1 ?_⟩
    simp only [hl1.1, hl1.2, hL, nk1, nk2, nk3, nk4, nk5, c1, c2, c3, c4, c5, cL]
    refine ⟨vp_in_nI (by omega) (by omega), ⟨vp_in_nI (by omega) (by omega), ip q (zCall_m 50 _ _ _ _ _ (fun o2 m2 h2 => ?_) h)⟩⟩
    obtain ⟨y, rfl, e, h3⟩ := h2
    exact ⟨y, rfl, ip e h3⟩
  · refine iq q ?_
    refine zCall_m 50 _ _ _ _ _ (fun o m1 h => ?_) (ok_kill hR _ _ (fun m2 => K 1556 [.ref 0, .ref 20, .ref 113, .int (nI k)] [] m2) hN)
    obtain ⟨x, rfl, h⟩ := h
    refine ⟨x, rfl, hlow _ _ _ _ fun hl1 => lw_384 (zCall_m 50) hK (nI k) x m1 ?_⟩
    simp only [hl1.1, hl1.2, hL, nk1, nk2, nk3, nk4, nk5, c1, c2, c3, c4, c5, cL]
    refine ⟨vp_in_nI (by omega) (by omega), ⟨vp_in_nI (by omega) (by omega), iq q (zCall_m 50 _ _ _ _ _ (fun o2 m2 h2 => ?_) h)⟩⟩
    obtain ⟨y, rfl, e, h3⟩ := h2
    exact ⟨y, rfl, ip e h3⟩
theorem lcs_5 (hK : zKc (zCall 50) 15 (some .boolean) zc_law Q K) (hlow : lwK tb K) (hL : tb 1 0 = nI L) (h2 : L ≤ 3072) (hk : k + 6 ≤ L) (hR : Rel m) (hN : ∀ m2, Rel m2 → K 1556 [.ref 0, .ref 20, .ref 113, .int (nI k)] [] m2) : K 411 [.ref 0, .ref 20, .ref 113, .int (nI k)] [] m := by
  have c1 := nI_clamp (n := k + 1) (by omega); have c2 := nI_clamp (n := k + 2) (by omega); have c3 := nI_clamp (n := k + 3) (by omega); have c4 := nI_clamp (n := k + 4) (by omega); have c5 := nI_clamp (n := k + 5) (by omega); have cL := nI_clamp (n := L) (by omega)
  refine hlow _ _ _ _ fun hl => lw_411 (zCall_m 50) hK (nI k) m ?_
  simp only [hl.1, hl.2, hL, nk1, nk2, nk3, nk4, nk5, c1, c2, c3, c4, c5, cL]
  refine ⟨vp_in_nI (by omega) (by omega), ⟨vp_in_nI (by omega) (by omega), ⟨vp_in_nI (by omega) (by omega), ?_⟩⟩⟩
  refine zCall_m 50 _ _ _ _ _ (fun o m1 h => ?_) (ok_row hR _ _ _ (fun m2 => K 1556 [.ref 0, .ref 20, .ref 113, .int (nI k)] [] m2) hN)
  obtain ⟨x, rfl, h⟩ := h
  refine ⟨x, rfl, hlow _ _ _ _ fun hl1 => lw_430 (zCall_m 50) hK (nI k) x m1 ?_⟩
  simp only [hl1.1, hl1.2, hL, nk1, nk2, nk3, nk4, nk5, c1, c2, c3, c4, c5, cL]
  refine ⟨vp_in_nI (by omega) (by omega), ⟨vp_in_nI (by omega) (by omega), ⟨vp_in_nI (by omega) (by omega), zCall_m 50 _ _ _ _ _ (fun o2 m2 h2 => ?_) h⟩⟩⟩
  obtain ⟨y, rfl, e, h3⟩ := h2
  exact ⟨y, rfl, ip e h3⟩
theorem lcs_6 (hK : zKc (zCall 50) 15 (some .boolean) zc_law Q K) (hlow : lwK tb K) (hL : tb 1 0 = nI L) (h2 : L ≤ 3072) (hk : k + 6 ≤ L) (hR : Rel m) (hN : ∀ m2, Rel m2 → K 1556 [.ref 0, .ref 20, .ref 113, .int (nI k)] [] m2) : K 454 [.ref 0, .ref 20, .ref 113, .int (nI k)] [] m := by
  have c1 := nI_clamp (n := k + 1) (by omega); have c2 := nI_clamp (n := k + 2) (by omega); have c3 := nI_clamp (n := k + 3) (by omega); have c4 := nI_clamp (n := k + 4) (by omega); have c5 := nI_clamp (n := k + 5) (by omega); have cL := nI_clamp (n := L) (by omega)
  refine hlow _ _ _ _ fun hl => lw_454 (zCall_m 50) hK (nI k) m ?_
  simp only [hl.1, hl.2, hL, nk1, nk2, nk3, nk4, nk5, c1, c2, c3, c4, c5, cL]
  refine ⟨vp_in_nI (by omega) (by omega), ?_⟩
  refine zCall_m 50 _ _ _ _ _ (fun o m1 h => ?_) (ok_feed hR _ (fun m2 => K 1556 [.ref 0, .ref 20, .ref 113, .int (nI k)] [] m2) hN)
  obtain ⟨x, rfl, h⟩ := h
  refine ⟨x, rfl, hlow _ _ _ _ fun hl1 => lw_463 (zCall_m 50) hK (nI k) x m1 ?_⟩
  simp only [hl1.1, hl1.2, hL, nk1, nk2, nk3, nk4, nk5, c1, c2, c3, c4, c5, cL]
  refine ⟨vp_in_nI (by omega) (by omega), zCall_m 50 _ _ _ _ _ (fun o2 m2 h2 => ?_) h⟩
  obtain ⟨y, rfl, e, h3⟩ := h2
  exact ⟨y, rfl, ip e h3⟩
theorem lcs_7 (hK : zKc (zCall 50) 15 (some .boolean) zc_law Q K) (hlow : lwK tb K) (hL : tb 1 0 = nI L) (h2 : L ≤ 3072) (hk : k + 6 ≤ L) (hR : Rel m) (hN : ∀ m2, Rel m2 → K 1556 [.ref 0, .ref 20, .ref 113, .int (nI k)] [] m2) : K 477 [.ref 0, .ref 20, .ref 113, .int (nI k)] [] m := by
  have c1 := nI_clamp (n := k + 1) (by omega); have c2 := nI_clamp (n := k + 2) (by omega); have c3 := nI_clamp (n := k + 3) (by omega); have c4 := nI_clamp (n := k + 4) (by omega); have c5 := nI_clamp (n := k + 5) (by omega); have cL := nI_clamp (n := L) (by omega)
  refine hlow _ _ _ _ fun hl => lw_477 (zCall_m 50) hK (nI k) m ?_
  refine zCall_m 50 _ _ _ _ _ (fun o m1 h => ?_) (ok_garden hR (fun m2 => K 1556 [.ref 0, .ref 20, .ref 113, .int (nI k)] [] m2) hN)
  obtain ⟨x, rfl, h⟩ := h
  refine ⟨x, rfl, hlow _ _ _ _ fun hl1 => lw_481 (zCall_m 50) hK (nI k) x m1 ?_⟩
  refine zCall_m 50 _ _ _ _ _ (fun o2 m2 h2 => ?_) h
  obtain ⟨y, rfl, e, h3⟩ := h2
  exact ⟨y, rfl, ip e h3⟩
theorem lcs_8 (hK : zKc (zCall 50) 15 (some .boolean) zc_law Q K) (hlow : lwK tb K) (hL : tb 1 0 = nI L) (h2 : L ≤ 3072) (hk : k + 6 ≤ L) (hR : Rel m) (hN : ∀ m2, Rel m2 → K 1556 [.ref 0, .ref 20, .ref 113, .int (nI k)] [] m2) : K 490 [.ref 0, .ref 20, .ref 113, .int (nI k)] [] m := by
  have c1 := nI_clamp (n := k + 1) (by omega); have c2 := nI_clamp (n := k + 2) (by omega); have c3 := nI_clamp (n := k + 3) (by omega); have c4 := nI_clamp (n := k + 4) (by omega); have c5 := nI_clamp (n := k + 5) (by omega); have cL := nI_clamp (n := L) (by omega)
  refine hlow _ _ _ _ fun hl => lw_490 (zCall_m 50) hK (nI k) m ?_
  simp only [hl.1, hl.2, hL, nk1, nk2, nk3, nk4, nk5, c1, c2, c3, c4, c5, cL]
  refine ⟨vp_in_nI (by omega) (by omega), ?_⟩
  refine zCall_m 50 _ _ _ _ _ (fun o m1 h => ?_) (ok_told hR _ (fun m2 => K 1556 [.ref 0, .ref 20, .ref 113, .int (nI k)] [] m2) hN)
  obtain ⟨x, rfl, h⟩ := h
  refine ⟨x, rfl, hlow _ _ _ _ fun hl1 => lw_499 (zCall_m 50) hK (nI k) x m1 ?_⟩
  simp only [hl1.1, hl1.2, hL, nk1, nk2, nk3, nk4, nk5, c1, c2, c3, c4, c5, cL]
  refine ⟨vp_in_nI (by omega) (by omega), zCall_m 50 _ _ _ _ _ (fun o2 m2 h2 => ?_) h⟩
  obtain ⟨y, rfl, e, h3⟩ := h2
  exact ⟨y, rfl, ip e h3⟩
theorem lcs_9 (hK : zKc (zCall 50) 15 (some .boolean) zc_law Q K) (hlow : lwK tb K) (hL : tb 1 0 = nI L) (h2 : L ≤ 3072) (hk : k + 6 ≤ L) (hR : Rel m) (hN : ∀ m2, Rel m2 → K 1556 [.ref 0, .ref 20, .ref 113, .int (nI k)] [] m2) : K 513 [.ref 0, .ref 20, .ref 113, .int (nI k)] [] m := by
  have c1 := nI_clamp (n := k + 1) (by omega); have c2 := nI_clamp (n := k + 2) (by omega); have c3 := nI_clamp (n := k + 3) (by omega); have c4 := nI_clamp (n := k + 4) (by omega); have c5 := nI_clamp (n := k + 5) (by omega); have cL := nI_clamp (n := L) (by omega)
  refine hlow _ _ _ _ fun hl => lw_513 (zCall_m 50) hK (nI k) m ?_
  simp only [hl.1, hl.2, hL, nk1, nk2, nk3, nk4, nk5, c1, c2, c3, c4, c5, cL]
  refine ⟨vp_in_nI (by omega) (by omega), ?_⟩
  refine zCall_m 50 _ _ _ _ _ (fun o m1 h => ?_) (ok_pass hR _ (fun m2 => K 1556 [.ref 0, .ref 20, .ref 113, .int (nI k)] [] m2) hN)
  obtain ⟨x, rfl, h⟩ := h
  refine ⟨x, rfl, hlow _ _ _ _ fun hl1 => lw_522 (zCall_m 50) hK (nI k) x m1 ?_⟩
  simp only [hl1.1, hl1.2, hL, nk1, nk2, nk3, nk4, nk5, c1, c2, c3, c4, c5, cL]
  refine ⟨vp_in_nI (by omega) (by omega), zCall_m 50 _ _ _ _ _ (fun o2 m2 h2 => ?_) h⟩
  obtain ⟨y, rfl, e, h3⟩ := h2
  exact ⟨y, rfl, ip e h3⟩
theorem lcs_10 (hK : zKc (zCall 50) 15 (some .boolean) zc_law Q K) (hlow : lwK tb K) (hL : tb 1 0 = nI L) (h2 : L ≤ 3072) (hk : k + 6 ≤ L) (hR : Rel m) (hN : ∀ m2, Rel m2 → K 1556 [.ref 0, .ref 20, .ref 113, .int (nI k)] [] m2) : K 536 [.ref 0, .ref 20, .ref 113, .int (nI k)] [] m := by
  have c1 := nI_clamp (n := k + 1) (by omega); have c2 := nI_clamp (n := k + 2) (by omega); have c3 := nI_clamp (n := k + 3) (by omega); have c4 := nI_clamp (n := k + 4) (by omega); have c5 := nI_clamp (n := k + 5) (by omega); have cL := nI_clamp (n := L) (by omega)
  refine hlow _ _ _ _ fun hl => lw_536 (zCall_m 50) hK (nI k) m ?_
  simp only [hl.1, hl.2, hL, nk1, nk2, nk3, nk4, nk5, c1, c2, c3, c4, c5, cL]
  refine ⟨vp_in_nI (by omega) (by omega), ⟨vp_in_nI (by omega) (by omega), ⟨vp_in_nI (by omega) (by omega), ⟨vp_in_nI (by omega) (by omega), ?_⟩⟩⟩⟩
  refine zCall_m 50 _ _ _ _ _ (fun o m1 h => ?_) (ok_heard hR _ _ _ _ (fun m2 => K 1556 [.ref 0, .ref 20, .ref 113, .int (nI k)] [] m2) hN)
  obtain ⟨x, rfl, h⟩ := h
  refine ⟨x, rfl, hlow _ _ _ _ fun hl1 => lw_560 (zCall_m 50) hK (nI k) x m1 ?_⟩
  simp only [hl1.1, hl1.2, hL, nk1, nk2, nk3, nk4, nk5, c1, c2, c3, c4, c5, cL]
  refine ⟨vp_in_nI (by omega) (by omega), ⟨vp_in_nI (by omega) (by omega), ⟨vp_in_nI (by omega) (by omega), ⟨vp_in_nI (by omega) (by omega), zCall_m 50 _ _ _ _ _ (fun o2 m2 h2 => ?_) h⟩⟩⟩⟩
  obtain ⟨y, rfl, e, h3⟩ := h2
  exact ⟨y, rfl, ip e h3⟩
theorem lcs_11 (hK : zKc (zCall 50) 15 (some .boolean) zc_law Q K) (hlow : lwK tb K) (hL : tb 1 0 = nI L) (h2 : L ≤ 3072) (hk : k + 6 ≤ L) (hR : Rel m) (hN : ∀ m2, Rel m2 → K 1556 [.ref 0, .ref 20, .ref 113, .int (nI k)] [] m2) : K 589 [.ref 0, .ref 20, .ref 113, .int (nI k)] [] m := by
  have c1 := nI_clamp (n := k + 1) (by omega); have c2 := nI_clamp (n := k + 2) (by omega); have c3 := nI_clamp (n := k + 3) (by omega); have c4 := nI_clamp (n := k + 4) (by omega); have c5 := nI_clamp (n := k + 5) (by omega); have cL := nI_clamp (n := L) (by omega)
  refine hlow _ _ _ _ fun hl => lw_589 (zCall_m 50) hK (nI k) m ?_
  simp only [hl.1, hl.2, hL, nk1, nk2, nk3, nk4, nk5, c1, c2, c3, c4, c5, cL]
  refine ⟨vp_in_nI (by omega) (by omega), ⟨vp_in_nI (by omega) (by omega), ?_⟩⟩
  refine zCall_m 50 _ _ _ _ _ (fun o m1 h => ?_) (ok_by hR _ _ (fun m2 => K 1556 [.ref 0, .ref 20, .ref 113, .int (nI k)] [] m2) hN)
  obtain ⟨x, rfl, h⟩ := h
  refine ⟨x, rfl, hlow _ _ _ _ fun hl1 => lw_603 (zCall_m 50) hK (nI k) x m1 ?_⟩
  simp only [hl1.1, hl1.2, hL, nk1, nk2, nk3, nk4, nk5, c1, c2, c3, c4, c5, cL]
  refine ⟨vp_in_nI (by omega) (by omega), ⟨vp_in_nI (by omega) (by omega), zCall_m 50 _ _ _ _ _ (fun o2 m2 h2 => ?_) h⟩⟩
  obtain ⟨y, rfl, e, h3⟩ := h2
  exact ⟨y, rfl, ip e h3⟩
theorem lcs_12 (hK : zKc (zCall 50) 15 (some .boolean) zc_law Q K) (hlow : lwK tb K) (hL : tb 1 0 = nI L) (h2 : L ≤ 3072) (hk : k + 6 ≤ L) (hR : Rel m) (hN : ∀ m2, Rel m2 → K 1556 [.ref 0, .ref 20, .ref 113, .int (nI k)] [] m2) : K 622 [.ref 0, .ref 20, .ref 113, .int (nI k)] [] m := by
  have c1 := nI_clamp (n := k + 1) (by omega); have c2 := nI_clamp (n := k + 2) (by omega); have c3 := nI_clamp (n := k + 3) (by omega); have c4 := nI_clamp (n := k + 4) (by omega); have c5 := nI_clamp (n := k + 5) (by omega); have cL := nI_clamp (n := L) (by omega)
  refine hlow _ _ _ _ fun hl => lw_622 (zCall_m 50) hK (nI k) m ?_
  simp only [hl.1, hl.2, hL, nk1, nk2, nk3, nk4, nk5, c1, c2, c3, c4, c5, cL]
  refine ⟨vp_in_nI (by omega) (by omega), ⟨vp_in_nI (by omega) (by omega), ?_⟩⟩
  refine zCall_m 50 _ _ _ _ _ (fun o m1 h => ?_) (ok_right hR _ _ (fun m2 => K 1556 [.ref 0, .ref 20, .ref 113, .int (nI k)] [] m2) hN)
  obtain ⟨x, rfl, h⟩ := h
  refine ⟨x, rfl, hlow _ _ _ _ fun hl1 => lw_636 (zCall_m 50) hK (nI k) x m1 ?_⟩
  simp only [hl1.1, hl1.2, hL, nk1, nk2, nk3, nk4, nk5, c1, c2, c3, c4, c5, cL]
  refine ⟨vp_in_nI (by omega) (by omega), ⟨vp_in_nI (by omega) (by omega), zCall_m 50 _ _ _ _ _ (fun o2 m2 h2 => ?_) h⟩⟩
  obtain ⟨y, rfl, e, h3⟩ := h2
  exact ⟨y, rfl, ip e h3⟩
theorem lcs_13 (hK : zKc (zCall 50) 15 (some .boolean) zc_law Q K) (hlow : lwK tb K) (hL : tb 1 0 = nI L) (h2 : L ≤ 3072) (hk : k + 6 ≤ L) (hR : Rel m) (hN : ∀ m2, Rel m2 → K 1556 [.ref 0, .ref 20, .ref 113, .int (nI k)] [] m2) : K 655 [.ref 0, .ref 20, .ref 113, .int (nI k)] [] m := by
  have c1 := nI_clamp (n := k + 1) (by omega); have c2 := nI_clamp (n := k + 2) (by omega); have c3 := nI_clamp (n := k + 3) (by omega); have c4 := nI_clamp (n := k + 4) (by omega); have c5 := nI_clamp (n := k + 5) (by omega); have cL := nI_clamp (n := L) (by omega)
  refine hlow _ _ _ _ fun hl => lw_655 (zCall_m 50) hK (nI k) m ?_
  simp only [hl.1, hl.2, hL, nk1, nk2, nk3, nk4, nk5, c1, c2, c3, c4, c5, cL]
  refine ⟨vp_in_nI (by omega) (by omega), ?_⟩
  refine zCall_m 50 _ _ _ _ _ (fun o m1 h => ?_) (ok_last hR _ (fun m2 => K 1556 [.ref 0, .ref 20, .ref 113, .int (nI k)] [] m2) hN)
  obtain ⟨x, rfl, h⟩ := h
  refine ⟨x, rfl, hlow _ _ _ _ fun hl1 => lw_664 (zCall_m 50) hK (nI k) x m1 ?_⟩
  simp only [hl1.1, hl1.2, hL, nk1, nk2, nk3, nk4, nk5, c1, c2, c3, c4, c5, cL]
  refine ⟨vp_in_nI (by omega) (by omega), zCall_m 50 _ _ _ _ _ (fun o2 m2 h2 => ?_) h⟩
  obtain ⟨y, rfl, e, h3⟩ := h2
  exact ⟨y, rfl, ip e h3⟩
theorem lcs_14 (hK : zKc (zCall 50) 15 (some .boolean) zc_law Q K) (hlow : lwK tb K) (hL : tb 1 0 = nI L) (h2 : L ≤ 3072) (hk : k + 6 ≤ L) (hR : Rel m) (hN : ∀ m2, Rel m2 → K 1556 [.ref 0, .ref 20, .ref 113, .int (nI k)] [] m2) : K 678 [.ref 0, .ref 20, .ref 113, .int (nI k)] [] m := by
  have c1 := nI_clamp (n := k + 1) (by omega); have c2 := nI_clamp (n := k + 2) (by omega); have c3 := nI_clamp (n := k + 3) (by omega); have c4 := nI_clamp (n := k + 4) (by omega); have c5 := nI_clamp (n := k + 5) (by omega); have cL := nI_clamp (n := L) (by omega)
  refine hlow _ _ _ _ fun hl => lw_678 (zCall_m 50) hK (nI k) m ?_
  simp only [hl.1, hl.2, hL, nk1, nk2, nk3, nk4, nk5, c1, c2, c3, c4, c5, cL]
  refine ⟨vp_in_nI (by omega) (by omega), ⟨vp_in_nI (by omega) (by omega), ⟨vp_in_nI (by omega) (by omega), ?_⟩⟩⟩
  refine zCall_m 50 _ _ _ _ _ (fun o m1 h => ?_) (ok_cut hR _ _ _ (fun m2 => K 1556 [.ref 0, .ref 20, .ref 113, .int (nI k)] [] m2) hN)
  obtain ⟨x, rfl, h⟩ := h
  refine ⟨x, rfl, hlow _ _ _ _ fun hl1 => lw_697 (zCall_m 50) hK (nI k) x m1 ?_⟩
  simp only [hl1.1, hl1.2, hL, nk1, nk2, nk3, nk4, nk5, c1, c2, c3, c4, c5, cL]
  refine ⟨vp_in_nI (by omega) (by omega), ⟨vp_in_nI (by omega) (by omega), ⟨vp_in_nI (by omega) (by omega), zCall_m 50 _ _ _ _ _ (fun o2 m2 h2 => ?_) h⟩⟩⟩
  obtain ⟨y, rfl, e, h3⟩ := h2
  exact ⟨y, rfl, ip e h3⟩
theorem lcs_15 (hK : zKc (zCall 50) 15 (some .boolean) zc_law Q K) (hlow : lwK tb K) (hL : tb 1 0 = nI L) (h2 : L ≤ 3072) (hk : k + 6 ≤ L) (hR : Rel m) (hN : ∀ m2, Rel m2 → K 1556 [.ref 0, .ref 20, .ref 113, .int (nI k)] [] m2) : K 721 [.ref 0, .ref 20, .ref 113, .int (nI k)] [] m := by
  have c1 := nI_clamp (n := k + 1) (by omega); have c2 := nI_clamp (n := k + 2) (by omega); have c3 := nI_clamp (n := k + 3) (by omega); have c4 := nI_clamp (n := k + 4) (by omega); have c5 := nI_clamp (n := k + 5) (by omega); have cL := nI_clamp (n := L) (by omega)
  refine hlow _ _ _ _ fun hl => lw_721 (zCall_m 50) hK (nI k) m ?_
  simp only [hl.1, hl.2, hL, nk1, nk2, nk3, nk4, nk5, c1, c2, c3, c4, c5, cL]
  refine ⟨vp_in_nI (by omega) (by omega), ⟨vp_in_nI (by omega) (by omega), ?_⟩⟩
  refine zCall_m 50 _ _ _ _ _ (fun o m1 h => ?_) (ok_needed hR _ _ (fun m2 => K 1556 [.ref 0, .ref 20, .ref 113, .int (nI k)] [] m2) hN)
  obtain ⟨x, rfl, h⟩ := h
  refine ⟨x, rfl, hlow _ _ _ _ fun hl1 => lw_735 (zCall_m 50) hK (nI k) x m1 ?_⟩
  simp only [hl1.1, hl1.2, hL, nk1, nk2, nk3, nk4, nk5, c1, c2, c3, c4, c5, cL]
  refine ⟨vp_in_nI (by omega) (by omega), ⟨vp_in_nI (by omega) (by omega), zCall_m 50 _ _ _ _ _ (fun o2 m2 h2 => ?_) h⟩⟩
  obtain ⟨y, rfl, e, h3⟩ := h2
  exact ⟨y, rfl, ip e h3⟩
theorem lcs_16 (hK : zKc (zCall 50) 15 (some .boolean) zc_law Q K) (hlow : lwK tb K) (hL : tb 1 0 = nI L) (h2 : L ≤ 3072) (hk : k + 6 ≤ L) (hR : Rel m) (hN : ∀ m2, Rel m2 → K 1556 [.ref 0, .ref 20, .ref 113, .int (nI k)] [] m2) : K 754 [.ref 0, .ref 20, .ref 113, .int (nI k)] [] m := by
  have c1 := nI_clamp (n := k + 1) (by omega); have c2 := nI_clamp (n := k + 2) (by omega); have c3 := nI_clamp (n := k + 3) (by omega); have c4 := nI_clamp (n := k + 4) (by omega); have c5 := nI_clamp (n := k + 5) (by omega); have cL := nI_clamp (n := L) (by omega)
  refine hlow _ _ _ _ fun hl => lw_754 (zCall_m 50) hK (nI k) m ?_
  simp only [hl.1, hl.2, hL, nk1, nk2, nk3, nk4, nk5, c1, c2, c3, c4, c5, cL]
  refine ⟨vp_in_nI (by omega) (by omega), ⟨vp_in_nI (by omega) (by omega), ⟨vp_in_nI (by omega) (by omega), ?_⟩⟩⟩
  refine zCall_m 50 _ _ _ _ _ (fun o m1 h => ?_) (ok_round hR _ _ _ (fun m2 => K 1556 [.ref 0, .ref 20, .ref 113, .int (nI k)] [] m2) hN)
  obtain ⟨x, rfl, h⟩ := h
  refine ⟨x, rfl, hlow _ _ _ _ fun hl1 => lw_773 (zCall_m 50) hK (nI k) x m1 ?_⟩
  simp only [hl1.1, hl1.2, hL, nk1, nk2, nk3, nk4, nk5, c1, c2, c3, c4, c5, cL]
  refine ⟨vp_in_nI (by omega) (by omega), ⟨vp_in_nI (by omega) (by omega), ⟨vp_in_nI (by omega) (by omega), zCall_m 50 _ _ _ _ _ (fun o2 m2 h2 => ?_) h⟩⟩⟩
  obtain ⟨y, rfl, e, h3⟩ := h2
  exact ⟨y, rfl, ip e h3⟩
theorem lcs_17 (hK : zKc (zCall 50) 15 (some .boolean) zc_law Q K) (hlow : lwK tb K) (hL : tb 1 0 = nI L) (h2 : L ≤ 3072) (hk : k + 6 ≤ L) (hR : Rel m) (hN : ∀ m2, Rel m2 → K 1556 [.ref 0, .ref 20, .ref 113, .int (nI k)] [] m2) : K 797 [.ref 0, .ref 20, .ref 113, .int (nI k)] [] m := by
  have c1 := nI_clamp (n := k + 1) (by omega); have c2 := nI_clamp (n := k + 2) (by omega); have c3 := nI_clamp (n := k + 3) (by omega); have c4 := nI_clamp (n := k + 4) (by omega); have c5 := nI_clamp (n := k + 5) (by omega); have cL := nI_clamp (n := L) (by omega)
  refine hlow _ _ _ _ fun hl => lw_797 (zCall_m 50) hK (nI k) m ?_
  simp only [hl.1, hl.2, hL, nk1, nk2, nk3, nk4, nk5, c1, c2, c3, c4, c5, cL]
  refine ⟨vp_in_nI (by omega) (by omega), ⟨vp_in_nI (by omega) (by omega), ?_⟩⟩
  refine zCall_m 50 _ _ _ _ _ (fun o m1 h => ?_) (ok_meet hR _ _ (fun m2 => K 1556 [.ref 0, .ref 20, .ref 113, .int (nI k)] [] m2) hN)
  obtain ⟨x, rfl, h⟩ := h
  refine ⟨x, rfl, hlow _ _ _ _ fun hl1 => lw_811 (zCall_m 50) hK (nI k) x m1 ?_⟩
  simp only [hl1.1, hl1.2, hL, nk1, nk2, nk3, nk4, nk5, c1, c2, c3, c4, c5, cL]
  refine ⟨vp_in_nI (by omega) (by omega), ⟨vp_in_nI (by omega) (by omega), zCall_m 50 _ _ _ _ _ (fun o2 m2 h2 => ?_) h⟩⟩
  obtain ⟨y, rfl, e, h3⟩ := h2
  exact ⟨y, rfl, ip e h3⟩
theorem lcs_18 (hK : zKc (zCall 50) 15 (some .boolean) zc_law Q K) (hlow : lwK tb K) (hL : tb 1 0 = nI L) (h2 : L ≤ 3072) (hk : k + 6 ≤ L) (hR : Rel m) (hN : ∀ m2, Rel m2 → K 1556 [.ref 0, .ref 20, .ref 113, .int (nI k)] [] m2) : K 830 [.ref 0, .ref 20, .ref 113, .int (nI k)] [] m := by
  have c1 := nI_clamp (n := k + 1) (by omega); have c2 := nI_clamp (n := k + 2) (by omega); have c3 := nI_clamp (n := k + 3) (by omega); have c4 := nI_clamp (n := k + 4) (by omega); have c5 := nI_clamp (n := k + 5) (by omega); have cL := nI_clamp (n := L) (by omega)
  refine hlow _ _ _ _ fun hl => lw_830 (zCall_m 50) hK (nI k) m ?_
  simp only [hl.1, hl.2, hL, nk1, nk2, nk3, nk4, nk5, c1, c2, c3, c4, c5, cL]
  refine ⟨vp_in_nI (by omega) (by omega), ⟨vp_in_nI (by omega) (by omega), ⟨vp_in_nI (by omega) (by omega), ?_⟩⟩⟩
  refine zCall_m 50 _ _ _ _ _ (fun o m1 h => ?_) (ok_join hR _ _ _ (fun m2 => K 1556 [.ref 0, .ref 20, .ref 113, .int (nI k)] [] m2) hN)
  obtain ⟨x, rfl, h⟩ := h
  refine ⟨x, rfl, hlow _ _ _ _ fun hl1 => lw_849 (zCall_m 50) hK (nI k) x m1 ?_⟩
  simp only [hl1.1, hl1.2, hL, nk1, nk2, nk3, nk4, nk5, c1, c2, c3, c4, c5, cL]
  refine ⟨vp_in_nI (by omega) (by omega), ⟨vp_in_nI (by omega) (by omega), ⟨vp_in_nI (by omega) (by omega), zCall_m 50 _ _ _ _ _ (fun o2 m2 h2 => ?_) h⟩⟩⟩
  obtain ⟨y, rfl, e, h3⟩ := h2
  exact ⟨y, rfl, ip e h3⟩
theorem lcs_19 (hK : zKc (zCall 50) 15 (some .boolean) zc_law Q K) (hlow : lwK tb K) (hL : tb 1 0 = nI L) (h2 : L ≤ 3072) (hk : k + 6 ≤ L) (hR : Rel m) (hN : ∀ m2, Rel m2 → K 1556 [.ref 0, .ref 20, .ref 113, .int (nI k)] [] m2) : K 873 [.ref 0, .ref 20, .ref 113, .int (nI k)] [] m := by
  have c1 := nI_clamp (n := k + 1) (by omega); have c2 := nI_clamp (n := k + 2) (by omega); have c3 := nI_clamp (n := k + 3) (by omega); have c4 := nI_clamp (n := k + 4) (by omega); have c5 := nI_clamp (n := k + 5) (by omega); have cL := nI_clamp (n := L) (by omega)
  refine hlow _ _ _ _ fun hl => lw_873 (zCall_m 50) hK (nI k) m ?_
  simp only [hl.1, hl.2, hL, nk1, nk2, nk3, nk4, nk5, c1, c2, c3, c4, c5, cL]
  refine ⟨vp_in_nI (by omega) (by omega), ?_⟩
  refine zCall_m 50 _ _ _ _ _ (fun o m1 h => ?_) (ok_listen hR _ (fun m2 => K 1556 [.ref 0, .ref 20, .ref 113, .int (nI k)] [] m2) hN)
  obtain ⟨x, rfl, h⟩ := h
  refine ⟨x, rfl, hlow _ _ _ _ fun hl1 => lw_882 (zCall_m 50) hK (nI k) x m1 ?_⟩
  simp only [hl1.1, hl1.2, hL, nk1, nk2, nk3, nk4, nk5, c1, c2, c3, c4, c5, cL]
  refine ⟨vp_in_nI (by omega) (by omega), zCall_m 50 _ _ _ _ _ (fun o2 m2 h2 => ?_) h⟩
  obtain ⟨y, rfl, e, h3⟩ := h2
  exact ⟨y, rfl, ip e h3⟩
theorem lcs_20 (hK : zKc (zCall 50) 15 (some .boolean) zc_law Q K) (hlow : lwK tb K) (hL : tb 1 0 = nI L) (h2 : L ≤ 3072) (hk : k + 6 ≤ L) (hR : Rel m) (hN : ∀ m2, Rel m2 → K 1556 [.ref 0, .ref 20, .ref 113, .int (nI k)] [] m2) : K 896 [.ref 0, .ref 20, .ref 113, .int (nI k)] [] m := by
  have c1 := nI_clamp (n := k + 1) (by omega); have c2 := nI_clamp (n := k + 2) (by omega); have c3 := nI_clamp (n := k + 3) (by omega); have c4 := nI_clamp (n := k + 4) (by omega); have c5 := nI_clamp (n := k + 5) (by omega); have cL := nI_clamp (n := L) (by omega)
  refine hlow _ _ _ _ fun hl => lw_896 (zCall_m 50) hK (nI k) m ?_
  simp only [hl.1, hl.2, hL, nk1, nk2, nk3, nk4, nk5, c1, c2, c3, c4, c5, cL]
  refine ⟨vp_in_nI (by omega) (by omega), ⟨vp_in_nI (by omega) (by omega), ⟨vp_in_nI (by omega) (by omega), ?_⟩⟩⟩
  refine zCall_m 50 _ _ _ _ _ (fun o m1 h => ?_) (ok_see hR _ _ _ (fun m2 => K 1556 [.ref 0, .ref 20, .ref 113, .int (nI k)] [] m2) hN)
  obtain ⟨x, rfl, h⟩ := h
  refine ⟨x, rfl, hlow _ _ _ _ fun hl1 => lw_915 (zCall_m 50) hK (nI k) x m1 ?_⟩
  simp only [hl1.1, hl1.2, hL, nk1, nk2, nk3, nk4, nk5, c1, c2, c3, c4, c5, cL]
  refine ⟨vp_in_nI (by omega) (by omega), ⟨vp_in_nI (by omega) (by omega), ⟨vp_in_nI (by omega) (by omega), zCall_m 50 _ _ _ _ _ (fun o2 m2 h2 => ?_) h⟩⟩⟩
  obtain ⟨y, rfl, e, h3⟩ := h2
  exact ⟨y, rfl, ip e h3⟩
theorem lcs_21 (hK : zKc (zCall 50) 15 (some .boolean) zc_law Q K) (hlow : lwK tb K) (hL : tb 1 0 = nI L) (h2 : L ≤ 3072) (hk : k + 6 ≤ L) (hR : Rel m) (hN : ∀ m2, Rel m2 → K 1556 [.ref 0, .ref 20, .ref 113, .int (nI k)] [] m2) : K 939 [.ref 0, .ref 20, .ref 113, .int (nI k)] [] m := by
  have c1 := nI_clamp (n := k + 1) (by omega); have c2 := nI_clamp (n := k + 2) (by omega); have c3 := nI_clamp (n := k + 3) (by omega); have c4 := nI_clamp (n := k + 4) (by omega); have c5 := nI_clamp (n := k + 5) (by omega); have cL := nI_clamp (n := L) (by omega)
  refine hlow _ _ _ _ fun hl => lw_939 (zCall_m 50) hK (nI k) m ?_
  simp only [hl.1, hl.2, hL, nk1, nk2, nk3, nk4, nk5, c1, c2, c3, c4, c5, cL]
  refine ⟨vp_in_nI (by omega) (by omega), ?_⟩
  refine zCall_m 50 _ _ _ _ _ (fun o m1 h => ?_) (ok_who hR _ (fun m2 => K 1556 [.ref 0, .ref 20, .ref 113, .int (nI k)] [] m2) hN)
  obtain ⟨x, rfl, h⟩ := h
  refine ⟨x, rfl, hlow _ _ _ _ fun hl1 => lw_948 (zCall_m 50) hK (nI k) x m1 ?_⟩
  simp only [hl1.1, hl1.2, hL, nk1, nk2, nk3, nk4, nk5, c1, c2, c3, c4, c5, cL]
  refine ⟨vp_in_nI (by omega) (by omega), zCall_m 50 _ _ _ _ _ (fun o2 m2 h2 => ?_) h⟩
  obtain ⟨y, rfl, e, h3⟩ := h2
  exact ⟨y, rfl, ip e h3⟩
theorem lcs_22 (hK : zKc (zCall 50) 15 (some .boolean) zc_law Q K) (hlow : lwK tb K) (hL : tb 1 0 = nI L) (h2 : L ≤ 3072) (hk : k + 6 ≤ L) (hR : Rel m) (hN : ∀ m2, Rel m2 → K 1556 [.ref 0, .ref 20, .ref 113, .int (nI k)] [] m2) : K 962 [.ref 0, .ref 20, .ref 113, .int (nI k)] [] m := by
  have c1 := nI_clamp (n := k + 1) (by omega); have c2 := nI_clamp (n := k + 2) (by omega); have c3 := nI_clamp (n := k + 3) (by omega); have c4 := nI_clamp (n := k + 4) (by omega); have c5 := nI_clamp (n := k + 5) (by omega); have cL := nI_clamp (n := L) (by omega)
  refine hlow _ _ _ _ fun hl => lw_962 (zCall_m 50) hK (nI k) m ?_
  simp only [hl.1, hl.2, hL, nk1, nk2, nk3, nk4, nk5, c1, c2, c3, c4, c5, cL]
  refine ⟨vp_in_nI (by omega) (by omega), ⟨vp_in_nI (by omega) (by omega), ⟨vp_in_nI (by omega) (by omega), ?_⟩⟩⟩
  refine zCall_m 50 _ _ _ _ _ (fun o m1 h => ?_) (ok_odds hR _ _ _ (fun m2 => K 1556 [.ref 0, .ref 20, .ref 113, .int (nI k)] [] m2) hN)
  obtain ⟨x, rfl, h⟩ := h
  refine ⟨x, rfl, hlow _ _ _ _ fun hl1 => lw_981 (zCall_m 50) hK (nI k) x m1 ?_⟩
  simp only [hl1.1, hl1.2, hL, nk1, nk2, nk3, nk4, nk5, c1, c2, c3, c4, c5, cL]
  refine ⟨vp_in_nI (by omega) (by omega), ⟨vp_in_nI (by omega) (by omega), ⟨vp_in_nI (by omega) (by omega), zCall_m 50 _ _ _ _ _ (fun o2 m2 h2 => ?_) h⟩⟩⟩
  obtain ⟨y, rfl, e, h3⟩ := h2
  exact ⟨y, rfl, ip (by rw [e]; exact lg_self y) h3⟩
theorem lcs_23 (hK : zKc (zCall 50) 15 (some .boolean) zc_law Q K) (hlow : lwK tb K) (hL : tb 1 0 = nI L) (h2 : L ≤ 3072) (hk : k + 6 ≤ L) (hR : Rel m) (hN : ∀ m2, Rel m2 → K 1556 [.ref 0, .ref 20, .ref 113, .int (nI k)] [] m2) : K 1006 [.ref 0, .ref 20, .ref 113, .int (nI k)] [] m := by
  have c1 := nI_clamp (n := k + 1) (by omega); have c2 := nI_clamp (n := k + 2) (by omega); have c3 := nI_clamp (n := k + 3) (by omega); have c4 := nI_clamp (n := k + 4) (by omega); have c5 := nI_clamp (n := k + 5) (by omega); have cL := nI_clamp (n := L) (by omega)
  refine hlow _ _ _ _ fun hl => lw_1006 (zCall_m 50) hK (nI k) m ?_
  simp only [hl.1, hl.2, hL, nk1, nk2, nk3, nk4, nk5, c1, c2, c3, c4, c5, cL]
  refine ⟨vp_in_nI (by omega) (by omega), ⟨vp_in_nI (by omega) (by omega), ?_⟩⟩
  refine zCall_m 50 _ _ _ _ _ (fun o m1 h => ?_) (ok_mean hR _ _ (fun m2 => K 1556 [.ref 0, .ref 20, .ref 113, .int (nI k)] [] m2) hN)
  obtain ⟨x, rfl, h⟩ := h
  refine ⟨x, rfl, hlow _ _ _ _ fun hl1 => lw_1020 (zCall_m 50) hK (nI k) x m1 ?_⟩
  simp only [hl1.1, hl1.2, hL, nk1, nk2, nk3, nk4, nk5, c1, c2, c3, c4, c5, cL]
  refine ⟨vp_in_nI (by omega) (by omega), ⟨vp_in_nI (by omega) (by omega), zCall_m 50 _ _ _ _ _ (fun o2 m2 h2 => ?_) h⟩⟩
  obtain ⟨y, rfl, e, h3⟩ := h2
  exact ⟨y, rfl, ip (by rw [e]; exact lg_self y) h3⟩
theorem lcs_24 (hK : zKc (zCall 50) 15 (some .boolean) zc_law Q K) (hlow : lwK tb K) (hL : tb 1 0 = nI L) (h2 : L ≤ 3072) (hk : k + 6 ≤ L) (hR : Rel m) (hN : ∀ m2, Rel m2 → K 1556 [.ref 0, .ref 20, .ref 113, .int (nI k)] [] m2) : K 1040 [.ref 0, .ref 20, .ref 113, .int (nI k)] [] m := by
  have c1 := nI_clamp (n := k + 1) (by omega); have c2 := nI_clamp (n := k + 2) (by omega); have c3 := nI_clamp (n := k + 3) (by omega); have c4 := nI_clamp (n := k + 4) (by omega); have c5 := nI_clamp (n := k + 5) (by omega); have cL := nI_clamp (n := L) (by omega)
  refine hlow _ _ _ _ fun hl => lw_1040 (zCall_m 50) hK (nI k) m ?_
  simp only [hl.1, hl.2, hL, nk1, nk2, nk3, nk4, nk5, c1, c2, c3, c4, c5, cL]
  refine ⟨vp_in_nI (by omega) (by omega), ⟨vp_in_nI (by omega) (by omega), ?_⟩⟩
  refine zCall_m 50 _ _ _ _ _ (fun o m1 h => ?_) (ok_plan hR _ _ (fun m2 => K 1556 [.ref 0, .ref 20, .ref 113, .int (nI k)] [] m2) hN)
  obtain ⟨x, rfl, h⟩ := h
  refine ⟨x, rfl, hlow _ _ _ _ fun hl1 => lw_1054 (zCall_m 50) hK (nI k) x m1 ?_⟩
  simp only [hl1.1, hl1.2, hL, nk1, nk2, nk3, nk4, nk5, c1, c2, c3, c4, c5, cL]
  refine ⟨vp_in_nI (by omega) (by omega), ⟨vp_in_nI (by omega) (by omega), zCall_m 50 _ _ _ _ _ (fun o2 m2 h2 => ?_) h⟩⟩
  obtain ⟨y, rfl, e, h3⟩ := h2
  exact ⟨y, rfl, ip e h3⟩
theorem lcs_25 (hK : zKc (zCall 50) 15 (some .boolean) zc_law Q K) (hlow : lwK tb K) (hL : tb 1 0 = nI L) (h2 : L ≤ 3072) (hk : k + 6 ≤ L) (hR : Rel m) (hN : ∀ m2, Rel m2 → K 1556 [.ref 0, .ref 20, .ref 113, .int (nI k)] [] m2) : K 1073 [.ref 0, .ref 20, .ref 113, .int (nI k)] [] m := by
  have c1 := nI_clamp (n := k + 1) (by omega); have c2 := nI_clamp (n := k + 2) (by omega); have c3 := nI_clamp (n := k + 3) (by omega); have c4 := nI_clamp (n := k + 4) (by omega); have c5 := nI_clamp (n := k + 5) (by omega); have cL := nI_clamp (n := L) (by omega)
  refine hlow _ _ _ _ fun hl => lw_1073 (zCall_m 50) hK (nI k) m ?_
  simp only [hl.1, hl.2, hL, nk1, nk2, nk3, nk4, nk5, c1, c2, c3, c4, c5, cL]
  refine ⟨vp_in_nI (by omega) (by omega), ⟨vp_in_nI (by omega) (by omega), ?_⟩⟩
  refine zCall_m 50 _ _ _ _ _ (fun o m1 h => ?_) (ok_planned hR _ _ (fun m2 => K 1556 [.ref 0, .ref 20, .ref 113, .int (nI k)] [] m2) hN)
  obtain ⟨x, rfl, h⟩ := h
  refine ⟨x, rfl, hlow _ _ _ _ fun hl1 => lw_1087 (zCall_m 50) hK (nI k) x m1 ?_⟩
  simp only [hl1.1, hl1.2, hL, nk1, nk2, nk3, nk4, nk5, c1, c2, c3, c4, c5, cL]
  refine ⟨vp_in_nI (by omega) (by omega), ⟨vp_in_nI (by omega) (by omega), zCall_m 50 _ _ _ _ _ (fun o2 m2 h2 => ?_) h⟩⟩
  obtain ⟨y, rfl, e, h3⟩ := h2
  exact ⟨y, rfl, ip e h3⟩
theorem lcs_26 (hK : zKc (zCall 50) 15 (some .boolean) zc_law Q K) (hlow : lwK tb K) (hL : tb 1 0 = nI L) (h2 : L ≤ 3072) (hk : k + 6 ≤ L) (hR : Rel m) (hN : ∀ m2, Rel m2 → K 1556 [.ref 0, .ref 20, .ref 113, .int (nI k)] [] m2) : K 1106 [.ref 0, .ref 20, .ref 113, .int (nI k)] [] m := by
  have c1 := nI_clamp (n := k + 1) (by omega); have c2 := nI_clamp (n := k + 2) (by omega); have c3 := nI_clamp (n := k + 3) (by omega); have c4 := nI_clamp (n := k + 4) (by omega); have c5 := nI_clamp (n := k + 5) (by omega); have cL := nI_clamp (n := L) (by omega)
  refine hlow _ _ _ _ fun hl => lw_1106 (zCall_m 50) hK (nI k) m ?_
  simp only [hl.1, hl.2, hL, nk1, nk2, nk3, nk4, nk5, c1, c2, c3, c4, c5, cL]
  refine ⟨vp_in_nI (by omega) (by omega), ⟨vp_in_nI (by omega) (by omega), ⟨vp_in_nI (by omega) (by omega), ?_⟩⟩⟩
  refine zCall_m 50 _ _ _ _ _ (fun o m1 h => ?_) (ok_book hR _ _ _ (fun m2 => K 1556 [.ref 0, .ref 20, .ref 113, .int (nI k)] [] m2) hN)
  obtain ⟨x, rfl, h⟩ := h
  refine ⟨x, rfl, hlow _ _ _ _ fun hl1 => lw_1125 (zCall_m 50) hK (nI k) x m1 ?_⟩
  simp only [hl1.1, hl1.2, hL, nk1, nk2, nk3, nk4, nk5, c1, c2, c3, c4, c5, cL]
  refine ⟨vp_in_nI (by omega) (by omega), ⟨vp_in_nI (by omega) (by omega), ⟨vp_in_nI (by omega) (by omega), zCall_m 50 _ _ _ _ _ (fun o2 m2 h2 => ?_) h⟩⟩⟩
  obtain ⟨y, rfl, e, h3⟩ := h2
  exact ⟨y, rfl, ip e h3⟩
theorem lcs_27 (hK : zKc (zCall 50) 15 (some .boolean) zc_law Q K) (hlow : lwK tb K) (hL : tb 1 0 = nI L) (h2 : L ≤ 3072) (hk : k + 6 ≤ L) (hR : Rel m) (hN : ∀ m2, Rel m2 → K 1556 [.ref 0, .ref 20, .ref 113, .int (nI k)] [] m2) : K 1149 [.ref 0, .ref 20, .ref 113, .int (nI k)] [] m := by
  have c1 := nI_clamp (n := k + 1) (by omega); have c2 := nI_clamp (n := k + 2) (by omega); have c3 := nI_clamp (n := k + 3) (by omega); have c4 := nI_clamp (n := k + 4) (by omega); have c5 := nI_clamp (n := k + 5) (by omega); have cL := nI_clamp (n := L) (by omega)
  refine hlow _ _ _ _ fun hl => lw_1149 (zCall_m 50) hK (nI k) m ?_
  refine zCall_m 50 _ _ _ _ _ (fun o m1 h => ?_) (ok_looked hR (fun m2 => K 1556 [.ref 0, .ref 20, .ref 113, .int (nI k)] [] m2) hN)
  obtain ⟨x, rfl, h⟩ := h
  refine ⟨x, rfl, hlow _ _ _ _ fun hl1 => lw_1153 (zCall_m 50) hK (nI k) x m1 ?_⟩
  refine zCall_m 50 _ _ _ _ _ (fun o2 m2 h2 => ?_) h
  obtain ⟨y, rfl, e, h3⟩ := h2
  exact ⟨y, rfl, ip e h3⟩
theorem lcs_28 (hK : zKc (zCall 50) 15 (some .boolean) zc_law Q K) (hlow : lwK tb K) (hL : tb 1 0 = nI L) (h2 : L ≤ 3072) (hk : k + 6 ≤ L) (hR : Rel m) (hN : ∀ m2, Rel m2 → K 1556 [.ref 0, .ref 20, .ref 113, .int (nI k)] [] m2) : K 1162 [.ref 0, .ref 20, .ref 113, .int (nI k)] [] m := by
  have c1 := nI_clamp (n := k + 1) (by omega); have c2 := nI_clamp (n := k + 2) (by omega); have c3 := nI_clamp (n := k + 3) (by omega); have c4 := nI_clamp (n := k + 4) (by omega); have c5 := nI_clamp (n := k + 5) (by omega); have cL := nI_clamp (n := L) (by omega)
  refine hlow _ _ _ _ fun hl => lw_1162 (zCall_m 50) hK (nI k) m ?_
  simp only [hl.1, hl.2, hL, nk1, nk2, nk3, nk4, nk5, c1, c2, c3, c4, c5, cL]
  refine ⟨vp_in_nI (by omega) (by omega), ⟨vp_in_nI (by omega) (by omega), ?_⟩⟩
  refine zCall_m 50 _ _ _ _ _ (fun o m1 h => ?_) (ok_judge hR _ _ (fun m2 => K 1556 [.ref 0, .ref 20, .ref 113, .int (nI k)] [] m2) hN)
  obtain ⟨x, rfl, h⟩ := h
  refine ⟨x, rfl, hlow _ _ _ _ fun hl1 => lw_1176 (zCall_m 50) hK (nI k) x m1 ?_⟩
  simp only [hl1.1, hl1.2, hL, nk1, nk2, nk3, nk4, nk5, c1, c2, c3, c4, c5, cL]
  refine ⟨vp_in_nI (by omega) (by omega), ⟨vp_in_nI (by omega) (by omega), zCall_m 50 _ _ _ _ _ (fun o2 m2 h2 => ?_) h⟩⟩
  obtain ⟨y, rfl, e, h3⟩ := h2
  exact ⟨y, rfl, ip e h3⟩
theorem lcs_29 (hK : zKc (zCall 50) 15 (some .boolean) zc_law Q K) (hlow : lwK tb K) (hL : tb 1 0 = nI L) (h2 : L ≤ 3072) (hk : k + 6 ≤ L) (hR : Rel m) (hN : ∀ m2, Rel m2 → K 1556 [.ref 0, .ref 20, .ref 113, .int (nI k)] [] m2) : K 1195 [.ref 0, .ref 20, .ref 113, .int (nI k)] [] m := by
  have c1 := nI_clamp (n := k + 1) (by omega); have c2 := nI_clamp (n := k + 2) (by omega); have c3 := nI_clamp (n := k + 3) (by omega); have c4 := nI_clamp (n := k + 4) (by omega); have c5 := nI_clamp (n := k + 5) (by omega); have cL := nI_clamp (n := L) (by omega)
  refine hlow _ _ _ _ fun hl => lw_1195 (zCall_m 50) hK (nI k) m ?_
  refine zCall_m 50 _ _ _ _ _ (fun o m1 h => ?_) (ok_image hR (fun m2 => K 1556 [.ref 0, .ref 20, .ref 113, .int (nI k)] [] m2) hN)
  obtain ⟨x, rfl, h⟩ := h
  refine ⟨x, rfl, hlow _ _ _ _ fun hl1 => lw_1199 (zCall_m 50) hK (nI k) x m1 ?_⟩
  refine zCall_m 50 _ _ _ _ _ (fun o2 m2 h2 => ?_) h
  obtain ⟨y, rfl, e, h3⟩ := h2
  exact ⟨y, rfl, ip e h3⟩
theorem lcs_30 (hK : zKc (zCall 50) 15 (some .boolean) zc_law Q K) (hlow : lwK tb K) (hL : tb 1 0 = nI L) (h2 : L ≤ 3072) (hk : k + 6 ≤ L) (hR : Rel m) (hN : ∀ m2, Rel m2 → K 1556 [.ref 0, .ref 20, .ref 113, .int (nI k)] [] m2) : K 1208 [.ref 0, .ref 20, .ref 113, .int (nI k)] [] m := by
  have c1 := nI_clamp (n := k + 1) (by omega); have c2 := nI_clamp (n := k + 2) (by omega); have c3 := nI_clamp (n := k + 3) (by omega); have c4 := nI_clamp (n := k + 4) (by omega); have c5 := nI_clamp (n := k + 5) (by omega); have cL := nI_clamp (n := L) (by omega)
  refine hlow _ _ _ _ fun hl => lw_1208 (zCall_m 50) hK (nI k) m ?_
  refine zCall_m 50 _ _ _ _ _ (fun o m1 h => ?_) (ok_undo hR (fun m2 => K 1556 [.ref 0, .ref 20, .ref 113, .int (nI k)] [] m2) hN)
  obtain ⟨x, rfl, h⟩ := h
  refine ⟨x, rfl, hlow _ _ _ _ fun hl1 => lw_1212 (zCall_m 50) hK (nI k) x m1 ?_⟩
  refine zCall_m 50 _ _ _ _ _ (fun o2 m2 h2 => ?_) h
  obtain ⟨y, rfl, e, h3⟩ := h2
  exact ⟨y, rfl, ip e h3⟩
theorem lcs_31 (hK : zKc (zCall 50) 15 (some .boolean) zc_law Q K) (hlow : lwK tb K) (hL : tb 1 0 = nI L) (h2 : L ≤ 3072) (hk : k + 6 ≤ L) (hR : Rel m) (hN : ∀ m2, Rel m2 → K 1556 [.ref 0, .ref 20, .ref 113, .int (nI k)] [] m2) : K 1221 [.ref 0, .ref 20, .ref 113, .int (nI k)] [] m := by
  have c1 := nI_clamp (n := k + 1) (by omega); have c2 := nI_clamp (n := k + 2) (by omega); have c3 := nI_clamp (n := k + 3) (by omega); have c4 := nI_clamp (n := k + 4) (by omega); have c5 := nI_clamp (n := k + 5) (by omega); have cL := nI_clamp (n := L) (by omega)
  refine hlow _ _ _ _ fun hl => lw_1221 (zCall_m 50) hK (nI k) m ?_
  simp only [hl.1, hl.2, hL, nk1, nk2, nk3, nk4, nk5, c1, c2, c3, c4, c5, cL]
  refine ⟨vp_in_nI (by omega) (by omega), ⟨vp_in_nI (by omega) (by omega), ⟨vp_in_nI (by omega) (by omega), ?_⟩⟩⟩
  refine zCall_m 50 _ _ _ _ _ (fun o m1 h => ?_) (ok_act hR _ _ _ (fun m2 => K 1556 [.ref 0, .ref 20, .ref 113, .int (nI k)] [] m2) hN)
  obtain ⟨x, rfl, h⟩ := h
  refine ⟨x, rfl, hlow _ _ _ _ fun hl1 => lw_1240 (zCall_m 50) hK (nI k) x m1 ?_⟩
  simp only [hl1.1, hl1.2, hL, nk1, nk2, nk3, nk4, nk5, c1, c2, c3, c4, c5, cL]
  refine ⟨vp_in_nI (by omega) (by omega), ⟨vp_in_nI (by omega) (by omega), ⟨vp_in_nI (by omega) (by omega), zCall_m 50 _ _ _ _ _ (fun o2 m2 h2 => ?_) h⟩⟩⟩
  obtain ⟨y, rfl, e, h3⟩ := h2
  exact ⟨y, rfl, ip e h3⟩
theorem lcs_32 (hK : zKc (zCall 50) 15 (some .boolean) zc_law Q K) (hlow : lwK tb K) (hL : tb 1 0 = nI L) (h2 : L ≤ 3072) (hk : k + 6 ≤ L) (hR : Rel m) (hN : ∀ m2, Rel m2 → K 1556 [.ref 0, .ref 20, .ref 113, .int (nI k)] [] m2) : K 1264 [.ref 0, .ref 20, .ref 113, .int (nI k)] [] m := by
  have c1 := nI_clamp (n := k + 1) (by omega); have c2 := nI_clamp (n := k + 2) (by omega); have c3 := nI_clamp (n := k + 3) (by omega); have c4 := nI_clamp (n := k + 4) (by omega); have c5 := nI_clamp (n := k + 5) (by omega); have cL := nI_clamp (n := L) (by omega)
  refine hlow _ _ _ _ fun hl => lw_1264 (zCall_m 50) hK (nI k) m ?_
  simp only [hl.1, hl.2, hL, nk1, nk2, nk3, nk4, nk5, c1, c2, c3, c4, c5, cL]
  refine ⟨vp_in_nI (by omega) (by omega), ?_⟩
  refine zCall_m 50 _ _ _ _ _ (fun o m1 h => ?_) (ok_trace hR _ (fun m2 => K 1556 [.ref 0, .ref 20, .ref 113, .int (nI k)] [] m2) hN)
  obtain ⟨x, rfl, h⟩ := h
  refine ⟨x, rfl, hlow _ _ _ _ fun hl1 => lw_1273 (zCall_m 50) hK (nI k) x m1 ?_⟩
  simp only [hl1.1, hl1.2, hL, nk1, nk2, nk3, nk4, nk5, c1, c2, c3, c4, c5, cL]
  refine ⟨vp_in_nI (by omega) (by omega), zCall_m 50 _ _ _ _ _ (fun o2 m2 h2 => ?_) h⟩
  obtain ⟨y, rfl, e, h3⟩ := h2
  exact ⟨y, rfl, ip e h3⟩
theorem lcs_33 (hK : zKc (zCall 50) 15 (some .boolean) zc_law Q K) (hlow : lwK tb K) (hL : tb 1 0 = nI L) (h2 : L ≤ 3072) (hk : k + 6 ≤ L) (hR : Rel m) (hN : ∀ m2, Rel m2 → K 1556 [.ref 0, .ref 20, .ref 113, .int (nI k)] [] m2) : K 1287 [.ref 0, .ref 20, .ref 113, .int (nI k)] [] m := by
  have c1 := nI_clamp (n := k + 1) (by omega); have c2 := nI_clamp (n := k + 2) (by omega); have c3 := nI_clamp (n := k + 3) (by omega); have c4 := nI_clamp (n := k + 4) (by omega); have c5 := nI_clamp (n := k + 5) (by omega); have cL := nI_clamp (n := L) (by omega)
  refine hlow _ _ _ _ fun hl => lw_1287 (zCall_m 50) hK (nI k) m ?_
  simp only [hl.1, hl.2, hL, nk1, nk2, nk3, nk4, nk5, c1, c2, c3, c4, c5, cL]
  refine ⟨vp_in_nI (by omega) (by omega), ⟨vp_in_nI (by omega) (by omega), ?_⟩⟩
  refine zCall_m 50 _ _ _ _ _ (fun o m1 h => ?_) (ok_taken hR _ _ (fun m2 => K 1556 [.ref 0, .ref 20, .ref 113, .int (nI k)] [] m2) hN)
  obtain ⟨x, rfl, h⟩ := h
  refine ⟨x, rfl, hlow _ _ _ _ fun hl1 => lw_1301 (zCall_m 50) hK (nI k) x m1 ?_⟩
  simp only [hl1.1, hl1.2, hL, nk1, nk2, nk3, nk4, nk5, c1, c2, c3, c4, c5, cL]
  refine ⟨vp_in_nI (by omega) (by omega), ⟨vp_in_nI (by omega) (by omega), zCall_m 50 _ _ _ _ _ (fun o2 m2 h2 => ?_) h⟩⟩
  obtain ⟨y, rfl, e, h3⟩ := h2
  exact ⟨y, rfl, ip e h3⟩
theorem lcs_34 (hK : zKc (zCall 50) 15 (some .boolean) zc_law Q K) (hlow : lwK tb K) (hL : tb 1 0 = nI L) (h2 : L ≤ 3072) (hk : k + 6 ≤ L) (hR : Rel m) (hN : ∀ m2, Rel m2 → K 1556 [.ref 0, .ref 20, .ref 113, .int (nI k)] [] m2) : K 1320 [.ref 0, .ref 20, .ref 113, .int (nI k)] [] m := by
  have c1 := nI_clamp (n := k + 1) (by omega); have c2 := nI_clamp (n := k + 2) (by omega); have c3 := nI_clamp (n := k + 3) (by omega); have c4 := nI_clamp (n := k + 4) (by omega); have c5 := nI_clamp (n := k + 5) (by omega); have cL := nI_clamp (n := L) (by omega)
  refine hlow _ _ _ _ fun hl => lw_1320 (zCall_m 50) hK (nI k) m ?_
  simp only [hl.1, hl.2, hL, nk1, nk2, nk3, nk4, nk5, c1, c2, c3, c4, c5, cL]
  refine ⟨vp_in_nI (by omega) (by omega), ?_⟩
  refine zCall_m 50 _ _ _ _ _ (fun o m1 h => ?_) (ok_count hR _ (fun m2 => K 1556 [.ref 0, .ref 20, .ref 113, .int (nI k)] [] m2) hN)
  obtain ⟨x, rfl, h⟩ := h
  refine ⟨x, rfl, hlow _ _ _ _ fun hl1 => lw_1329 (zCall_m 50) hK (nI k) x m1 ?_⟩
  simp only [hl1.1, hl1.2, hL, nk1, nk2, nk3, nk4, nk5, c1, c2, c3, c4, c5, cL]
  refine ⟨vp_in_nI (by omega) (by omega), zCall_m 50 _ _ _ _ _ (fun o2 m2 h2 => ?_) h⟩
  obtain ⟨y, rfl, e, h3⟩ := h2
  exact ⟨y, rfl, ip e h3⟩
theorem lcs_35 (hK : zKc (zCall 50) 15 (some .boolean) zc_law Q K) (hlow : lwK tb K) (hL : tb 1 0 = nI L) (h2 : L ≤ 3072) (hk : k + 6 ≤ L) (hR : Rel m) (hN : ∀ m2, Rel m2 → K 1556 [.ref 0, .ref 20, .ref 113, .int (nI k)] [] m2) : K 1343 [.ref 0, .ref 20, .ref 113, .int (nI k)] [] m := by
  have c1 := nI_clamp (n := k + 1) (by omega); have c2 := nI_clamp (n := k + 2) (by omega); have c3 := nI_clamp (n := k + 3) (by omega); have c4 := nI_clamp (n := k + 4) (by omega); have c5 := nI_clamp (n := k + 5) (by omega); have cL := nI_clamp (n := L) (by omega)
  refine hlow _ _ _ _ fun hl => lw_1343 (zCall_m 50) hK (nI k) m ?_
  simp only [hl.1, hl.2, hL, nk1, nk2, nk3, nk4, nk5, c1, c2, c3, c4, c5, cL]
  refine ⟨vp_in_nI (by omega) (by omega), ⟨vp_in_nI (by omega) (by omega), ⟨vp_in_nI (by omega) (by omega), ?_⟩⟩⟩
  refine zCall_m 50 _ _ _ _ _ (fun o m1 h => ?_) (ok_tape hR _ _ _ (fun m2 => K 1556 [.ref 0, .ref 20, .ref 113, .int (nI k)] [] m2) hN)
  obtain ⟨x, rfl, h⟩ := h
  refine ⟨x, rfl, hlow _ _ _ _ fun hl1 => lw_1362 (zCall_m 50) hK (nI k) x m1 ?_⟩
  simp only [hl1.1, hl1.2, hL, nk1, nk2, nk3, nk4, nk5, c1, c2, c3, c4, c5, cL]
  refine ⟨vp_in_nI (by omega) (by omega), ⟨vp_in_nI (by omega) (by omega), ⟨vp_in_nI (by omega) (by omega), zCall_m 50 _ _ _ _ _ (fun o2 m2 h2 => ?_) h⟩⟩⟩
  obtain ⟨y, rfl, e, h3⟩ := h2
  exact ⟨y, rfl, ip e h3⟩
theorem lcs_36 (hK : zKc (zCall 50) 15 (some .boolean) zc_law Q K) (hlow : lwK tb K) (hL : tb 1 0 = nI L) (h2 : L ≤ 3072) (hk : k + 6 ≤ L) (hR : Rel m) (hN : ∀ m2, Rel m2 → K 1556 [.ref 0, .ref 20, .ref 113, .int (nI k)] [] m2) : K 1386 [.ref 0, .ref 20, .ref 113, .int (nI k)] [] m := by
  have c1 := nI_clamp (n := k + 1) (by omega); have c2 := nI_clamp (n := k + 2) (by omega); have c3 := nI_clamp (n := k + 3) (by omega); have c4 := nI_clamp (n := k + 4) (by omega); have c5 := nI_clamp (n := k + 5) (by omega); have cL := nI_clamp (n := L) (by omega)
  refine hlow _ _ _ _ fun hl => lw_1386 (zCall_m 50) hK (nI k) m ?_
  simp only [hl.1, hl.2, hL, nk1, nk2, nk3, nk4, nk5, c1, c2, c3, c4, c5, cL]
  refine ⟨vp_in_nI (by omega) (by omega), ⟨vp_in_nI (by omega) (by omega), ⟨vp_in_nI (by omega) (by omega), ⟨vp_in_nI (by omega) (by omega), ?_⟩⟩⟩⟩
  refine zCall_m 50 _ _ _ _ _ (fun o m1 h => ?_) (ok_item hR _ _ _ (fun m2 => K 1556 [.ref 0, .ref 20, .ref 113, .int (nI k)] [] m2) hN)
  obtain ⟨x, rfl, h⟩ := h
  refine ⟨x, rfl, hlow _ _ _ _ fun hl1 => lw_1420 (zCall_m 50) hK (nI k) x m1 ?_⟩
  simp only [hl1.1, hl1.2, hL, nk1, nk2, nk3, nk4, nk5, c1, c2, c3, c4, c5, cL]
  refine ⟨vp_in_nI (by omega) (by omega), ⟨vp_in_nI (by omega) (by omega), ⟨vp_in_nI (by omega) (by omega), ⟨vp_in_nI (by omega) (by omega), zCall_m 50 _ _ _ _ _ (fun o2 m2 h2 => ?_) h⟩⟩⟩⟩
  obtain ⟨y, rfl, e, h3⟩ := h2
  exact ⟨y, rfl, ip e h3⟩
theorem lcs_37 (hK : zKc (zCall 50) 15 (some .boolean) zc_law Q K) (hlow : lwK tb K) (hL : tb 1 0 = nI L) (h2 : L ≤ 3072) (hk : k + 6 ≤ L) (hR : Rel m) (hN : ∀ m2, Rel m2 → K 1556 [.ref 0, .ref 20, .ref 113, .int (nI k)] [] m2) : K 1459 [.ref 0, .ref 20, .ref 113, .int (nI k)] [] m := by
  have c1 := nI_clamp (n := k + 1) (by omega); have c2 := nI_clamp (n := k + 2) (by omega); have c3 := nI_clamp (n := k + 3) (by omega); have c4 := nI_clamp (n := k + 4) (by omega); have c5 := nI_clamp (n := k + 5) (by omega); have cL := nI_clamp (n := L) (by omega)
  refine hlow _ _ _ _ fun hl => lw_1459 (zCall_m 50) hK (nI k) m ?_
  simp only [hl.1, hl.2, hL, nk1, nk2, nk3, nk4, nk5, c1, c2, c3, c4, c5, cL]
  refine ⟨vp_in_nI (by omega) (by omega), ⟨vp_in_nI (by omega) (by omega), ?_⟩⟩
  refine zCall_m 50 _ _ _ _ _ (fun o m1 h => ?_) (ok_read hR _ _ (fun m2 => K 1556 [.ref 0, .ref 20, .ref 113, .int (nI k)] [] m2) hN)
  obtain ⟨x, rfl, h⟩ := h
  refine ⟨x, rfl, hlow _ _ _ _ fun hl1 => lw_1473 (zCall_m 50) hK (nI k) x m1 ?_⟩
  simp only [hl1.1, hl1.2, hL, nk1, nk2, nk3, nk4, nk5, c1, c2, c3, c4, c5, cL]
  refine ⟨vp_in_nI (by omega) (by omega), ⟨vp_in_nI (by omega) (by omega), zCall_m 50 _ _ _ _ _ (fun o2 m2 h2 => ?_) h⟩⟩
  obtain ⟨y, rfl, e, h3⟩ := h2
  exact ⟨y, rfl, ip (by rw [e]; exact lg_self y) h3⟩
theorem lcs_38 (hK : zKc (zCall 50) 15 (some .boolean) zc_law Q K) (hlow : lwK tb K) (hL : tb 1 0 = nI L) (h2 : L ≤ 3072) (hk : k + 6 ≤ L) (hR : Rel m) (hN : ∀ m2, Rel m2 → K 1556 [.ref 0, .ref 20, .ref 113, .int (nI k)] [] m2) : K 1493 [.ref 0, .ref 20, .ref 113, .int (nI k)] [] m := by
  have c1 := nI_clamp (n := k + 1) (by omega); have c2 := nI_clamp (n := k + 2) (by omega); have c3 := nI_clamp (n := k + 3) (by omega); have c4 := nI_clamp (n := k + 4) (by omega); have c5 := nI_clamp (n := k + 5) (by omega); have cL := nI_clamp (n := L) (by omega)
  refine hlow _ _ _ _ fun hl => lw_1493 (zCall_m 50) hK (nI k) m ?_
  simp only [hl.1, hl.2, hL, nk1, nk2, nk3, nk4, nk5, c1, c2, c3, c4, c5, cL]
  refine ⟨vp_in_nI (by omega) (by omega), ⟨vp_in_nI (by omega) (by omega), ⟨vp_in_nI (by omega) (by omega), ⟨vp_in_nI (by omega) (by omega), ⟨vp_in_nI (by omega) (by omega), ?_⟩⟩⟩⟩⟩
  refine zCall_m 50 _ _ _ _ _ (fun o m1 h => ?_) (ok_shift hR _ _ _ _ _ (fun m2 => K 1556 [.ref 0, .ref 20, .ref 113, .int (nI k)] [] m2) hN)
  obtain ⟨x, rfl, h⟩ := h
  refine ⟨x, rfl, hlow _ _ _ _ fun hl1 => lw_1522 (zCall_m 50) hK (nI k) x m1 ?_⟩
  simp only [hl1.1, hl1.2, hL, nk1, nk2, nk3, nk4, nk5, c1, c2, c3, c4, c5, cL]
  refine ⟨vp_in_nI (by omega) (by omega), ⟨vp_in_nI (by omega) (by omega), ⟨vp_in_nI (by omega) (by omega), ⟨vp_in_nI (by omega) (by omega), ⟨vp_in_nI (by omega) (by omega), zCall_m 50 _ _ _ _ _ (fun o2 m2 h2 => ?_) h⟩⟩⟩⟩⟩
  obtain ⟨y, rfl, e, h3⟩ := h2
  exact ⟨y, rfl, ip e h3⟩
theorem lw_sw {c : Prop} {i : Decidable c} {A B : Prop} (a : A) (b : B) : @ite Prop c i A B := by
  by_cases q : c
  · exact ip q a
  · exact iq q b
/-- the law's loop, with so much left -/
theorem lw_loop (hK : zKc (zCall 50) 15 (some .boolean) zc_law Q K) (hlow : lwK tb K) (hL : tb 1 0 = nI L) (h2 : L ≤ 3072) (hQ : ∀ m2, Q (some (.int 1)) m2) : ∀ (r k : Nat) (m : zM), L ≤ k + r → k ≤ L → Rel m → K 18 [.ref 0, .ref 20, .ref 113, .int (nI k)] [] m := by
  intro r
  induction r with
  | zero =>
    intro k m h1 h3 hR
    refine hlow _ _ _ _ fun hl => lw_18 (zCall_m 50) hK (nI k) m ?_
    rw [hl.2, hL]
    refine ip (Int32.lt_iff_toInt_lt.mpr ?_) ⟨by decide, hQ m⟩
    rw [show (nI L - 6).toInt = (L : Int) - 6 from pk_sub_toInt (b := 6) (by omega) (by decide), nI_toInt (by omega)]
    omega
  | succ r IH =>
    intro k m h1 h3 hR
    refine hlow _ _ _ _ fun hl => lw_18 (zCall_m 50) hK (nI k) m ?_
    rw [hl.2, hL]
    by_cases hk : k + 6 ≤ L
    · refine iq (fun z => ?_) ?_
      · have z := Int32.lt_iff_toInt_lt.mp z
        rw [show (nI L - 6).toInt = (L : Int) - 6 from pk_sub_toInt (b := 6) (by omega) (by decide), nI_toInt (by omega)] at z
        omega
      · rw [nI_clamp (n := L) (by omega)]
        have hN : ∀ m2, Rel m2 → K 1556 [.ref 0, .ref 20, .ref 113, .int (nI k)] [] m2 := fun m2 hR2 => by
          refine lw_1556 (zCall_m 50) hK (nI k) m2 ?_
          rw [nk6]
          exact IH (k + 6) m2 (by omega) (by omega) hR2
        exact ⟨vp_in_nI (by omega) (by omega), lw_sw (lcs_0 hK hlow hL h2 hk hR hN) (lw_sw (lcs_1 hK hlow hL h2 hk hR hN) (lw_sw (lcs_2 hK hlow hL h2 hk hR hN) (lw_sw (lcs_3 hK hlow hL h2 hk hR hN) (lw_sw (lcs_4 hK hlow hL h2 hk hR hN) (lw_sw (lcs_5 hK hlow hL h2 hk hR hN) (lw_sw (lcs_6 hK hlow hL h2 hk hR hN) (lw_sw (lcs_7 hK hlow hL h2 hk hR hN) (lw_sw (lcs_8 hK hlow hL h2 hk hR hN) (lw_sw (lcs_9 hK hlow hL h2 hk hR hN) (lw_sw (lcs_10 hK hlow hL h2 hk hR hN) (lw_sw (lcs_11 hK hlow hL h2 hk hR hN) (lw_sw (lcs_12 hK hlow hL h2 hk hR hN) (lw_sw (lcs_13 hK hlow hL h2 hk hR hN) (lw_sw (lcs_14 hK hlow hL h2 hk hR hN) (lw_sw (lcs_15 hK hlow hL h2 hk hR hN) (lw_sw (lcs_16 hK hlow hL h2 hk hR hN) (lw_sw (lcs_17 hK hlow hL h2 hk hR hN) (lw_sw (lcs_18 hK hlow hL h2 hk hR hN) (lw_sw (lcs_19 hK hlow hL h2 hk hR hN) (lw_sw (lcs_20 hK hlow hL h2 hk hR hN) (lw_sw (lcs_21 hK hlow hL h2 hk hR hN) (lw_sw (lcs_22 hK hlow hL h2 hk hR hN) (lw_sw (lcs_23 hK hlow hL h2 hk hR hN) (lw_sw (lcs_24 hK hlow hL h2 hk hR hN) (lw_sw (lcs_25 hK hlow hL h2 hk hR hN) (lw_sw (lcs_26 hK hlow hL h2 hk hR hN) (lw_sw (lcs_27 hK hlow hL h2 hk hR hN) (lw_sw (lcs_28 hK hlow hL h2 hk hR hN) (lw_sw (lcs_29 hK hlow hL h2 hk hR hN) (lw_sw (lcs_30 hK hlow hL h2 hk hR hN) (lw_sw (lcs_31 hK hlow hL h2 hk hR hN) (lw_sw (lcs_32 hK hlow hL h2 hk hR hN) (lw_sw (lcs_33 hK hlow hL h2 hk hR hN) (lw_sw (lcs_34 hK hlow hL h2 hk hR hN) (lw_sw (lcs_35 hK hlow hL h2 hk hR hN) (lw_sw (lcs_36 hK hlow hL h2 hk hR hN) (lw_sw (lcs_37 hK hlow hL h2 hk hR hN) (lw_sw (lcs_38 hK hlow hL h2 hk hR hN) (hN m hR)))))))))))))))))))))))))))))))))))))))⟩
    · refine ip (Int32.lt_iff_toInt_lt.mpr ?_) ⟨by decide, hQ m⟩
      rw [show (nI L - 6).toInt = (L : Int) - 6 from pk_sub_toInt (b := 6) (by omega) (by decide), nI_toInt (by omega)]
      omega
end
