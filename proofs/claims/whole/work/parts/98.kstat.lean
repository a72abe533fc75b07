/-! what stands when the law begins: tables, texts, classes -/
def lwtb (L : Nat) (xs : Nat → Int32) (p k : Nat) : Int32 := bif Nat.beq p 0 then xs k else bif Nat.beq p 1 then nI L else bif Nat.beq p 2 then aboveL.getD k 0 else bif Nat.beq p 3 then bodiesL.getD k 0 else bif Nat.ble 11 p && Nat.ble p 17 then (zsby.getD (p - 11) []).getD k 0 else 0
def lwtm (i : Nat) : Term := bif Nat.beq i 0 then .string "BoxHedge$Reader" 39 else bif Nat.beq i 1 then .string "BoxHedge$Reader" 92 else bif Nat.beq i 2 then .string "BoxHedge$Reader" 94 else bif Nat.beq i 3 then .string "BoxHedge$Reader" 71 else bif Nat.beq i 4 then .string "BoxHedge$Reader" 73 else bif Nat.beq i 5 then .string "BoxHedge$Reader" 75 else .string "BoxHedge$Reader" 77
def lwad (b tA tB : Nat) (adK adV : Nat → Nat) (p : Nat) : Nat := bif Nat.beq p 0 then b else bif Nat.beq p 2 then tA else bif Nat.beq p 3 then tB else bif Nat.ble 4 p && Nat.ble p 10 then adK (p - 4) else bif Nat.ble 11 p && Nat.ble p 17 then adV (p - 11) else 0
theorem lwtb_ok {L : Nat} (xs : Nat → Int32) (hL : L ≤ 3072) : zTb (lwtb L xs) := by
  refine ⟨?_, fun i hi j hj => ?_⟩
  · show Int32.ofNat (nI L).toNatClampNeg = nI L
    rw [nI_clamp (by omega)]
    rfl
  · rcases (show i = 0 ∨ i = 1 ∨ i = 2 ∨ i = 3 ∨ i = 4 ∨ i = 5 ∨ i = 6 by omega) with rfl | rfl | rfl | rfl | rfl | rfl | rfl <;> rfl
theorem vk_cg {N : Nat} {len : List Nat} {byt : List (List Int32)} {adK adV adK' adV' : Nat → Nat} {A : Nat → Prop} {U : State} {H : Heap} (hk : ∀ i, i < N → adK' i = adK i) (hv : ∀ i, i < N → adV' i = adV i) (h : vk_S N len byt adK adV A U H) : vk_S N len byt adK' adV' A U H :=
  ⟨fun i hi => by rw [hk i hi, hv i hi]; exact h.1 i hi, fun i j hi hj e => h.2 i j hi hj (by rw [← hk i hi, ← hk j hj]; exact e)⟩
theorem zSt_cg {base : Nat} {ad ad' : Nat → Nat} {w : Value} {tb : Nat → Nat → Int32} {U : State} {H : Heap} (h : ∀ p, p < 20 → ad' p = ad p) (hz : zSt base ad w tb U H) : zSt base ad' w tb U H := by
  obtain ⟨⟨t0, t1, t2⟩, s1, ⟨z1, z2, z3, z4⟩, r1, n1, n2⟩ := hz
  refine ⟨⟨by rw [h 0 (by omega)]; exact t0, by rw [h 2 (by omega)]; exact t1, by rw [h 3 (by omega)]; exact t2⟩, vk_cg (fun i hi => h _ (by omega)) (fun i hi => h _ (by omega)) s1, ⟨by rw [h 3 (by omega)]; exact z1, by rw [h 2 (by omega)]; exact z2, z3, z4⟩, fun o idx q ho hv => ?_, n1, n2⟩
  obtain ⟨tx, hr⟩ := r1 o idx q ho hv
  obtain ⟨wd, hwd⟩ := zlall ho _ (zlv_mem hv)
  have hwd : (Nat.blt 3 q && Nat.blt q 11) = true := hwd
  rw [Bool.and_eq_true] at hwd
  have hq : q < 11 := Nat.le_of_ble_eq_true hwd.2
  exact ⟨tx, by rw [h q (Nat.lt_trans hq (by decide))]; exact hr⟩
theorem lwf_ab : ∀ j, j < 7 → Cond.eq (.elem (.static "BoxHedge" "ABOVE" "[I") (.int (Int32.ofNat j))) (.int (aboveL.getD j 0)) ∈ flatC (Jvm.Cond.and given_1 narrow_1) := by decide +kernel
theorem lwf_bo : ∀ j, j < 21 → Cond.eq (.elem (.static "BoxHedge$Acts" "BODIES" "[I") (.int (Int32.ofNat j))) (.int (bodiesL.getD j 0)) ∈ flatC (Jvm.Cond.and given_1 narrow_1) := by decide +kernel
theorem lwf_ex : ∀ i, i < 7 → Cond.exactly (lwtm i) "java/lang/String" ∈ flatC (Jvm.Cond.and given_1 narrow_1) := by decide +kernel
theorem lwf_co : ∀ i, i < 7 → Cond.eq (.field (lwtm i) "java/lang/String" "coder" "B") (.int 0) ∈ flatC (Jvm.Cond.and given_1 narrow_1) := by decide +kernel
theorem lwf_ar : ∀ i, i < 7 → Cond.arrayOf (.field (lwtm i) "java/lang/String" "value" "[B") .byte ∈ flatC (Jvm.Cond.and given_1 narrow_1) := by decide +kernel
theorem lwf_le : ∀ i, i < 7 → Cond.eq (.length (.field (lwtm i) "java/lang/String" "value" "[B")) (.int (Int32.ofNat (zslen.getD i 0))) ∈ flatC (Jvm.Cond.and given_1 narrow_1) := by decide +kernel
theorem lwf_el : ∀ i, i < 7 → ∀ j, j < zslen.getD i 0 → Cond.eq (.elem (.field (lwtm i) "java/lang/String" "value" "[B") (.int (Int32.ofNat j))) (.int ((zsby.getD i []).getD j 0)) ∈ flatC (Jvm.Cond.and given_1 narrow_1) := by decide +kernel
theorem lwf_ne : ∀ i, i < 7 → ∀ j, j < 7 → i ≠ j → (Cond.not (Cond.eq (lwtm i) (lwtm j)) ∈ flatC (Jvm.Cond.and given_1 narrow_1) ∨ Cond.not (Cond.eq (lwtm j) (lwtm i)) ∈ flatC (Jvm.Cond.and given_1 narrow_1)) := by decide +kernel
theorem lwf_n : ∀ i, i < 7 → zslen.getD i 0 < 2 ^ 31 := by decide +kernel
theorem lwm_1 : Cond.laysStatic "java/lang/String" "COMPACT_STRINGS" "Z" ∈ lw_tbl := List.mem_of_getElem? (i := 136) (by decide +kernel)
theorem lwm_2 : Cond.laysStatic "jdk/internal/util/Preconditions" "SIOOBE_FORMATTER" "Ljava/util/function/BiFunction;" ∈ lw_tbl := List.mem_of_getElem? (i := 542) (by decide +kernel)
theorem lwm_3 : Cond.laysStatic "BoxHedge$Acts" "BODIES" "[I" ∈ lw_tbl := List.mem_of_getElem? (i := 914) (by decide +kernel)
theorem lwm_4 : Cond.laysStatic "BoxHedge" "ABOVE" "[I" ∈ lw_tbl := List.mem_of_getElem? (i := 916) (by decide +kernel)
theorem lwm_5 : Cond.fieldLinkNest "BoxHedge$Acts" 48 "BoxHedge" "ABOVE" "[I" "BoxHedge" ∈ lw_tbl := List.mem_of_getElem? (i := 915) (by decide +kernel)
theorem lwm_6 : Cond.initialized "BoxHedge$Acts" ∈ lw_tbl := List.mem_of_getElem? (i := 81) (by decide +kernel)
theorem lwm_7 : Cond.initialized "BoxHedge" ∈ lw_tbl := List.mem_of_getElem? (i := 72) (by decide +kernel)
theorem lwm_8 : Cond.initialized "java/lang/String" ∈ lw_tbl := List.mem_of_getElem? (i := 76) (by decide +kernel)
theorem lwm_9 : Cond.initialized "jdk/internal/util/Preconditions" ∈ lw_tbl := List.mem_of_getElem? (i := 87) (by decide +kernel)
theorem lwm_s3 : Cond.stringRef "BoxHedge$Hedge" 41 "pkvthd" ∈ lw_tbl := List.mem_of_getElem? (i := 126) (by decide +kernel)
theorem lwm_s39 : Cond.stringRef "BoxHedge$Reader" 39 "sqfl" ∈ lw_tbl := List.mem_of_getElem? (i := 494) (by decide +kernel)
theorem lwm_s71 : Cond.stringRef "BoxHedge$Reader" 71 "slow" ∈ lw_tbl := List.mem_of_getElem? (i := 575) (by decide +kernel)
theorem lwm_s73 : Cond.stringRef "BoxHedge$Reader" 73 "quick" ∈ lw_tbl := List.mem_of_getElem? (i := 576) (by decide +kernel)
theorem lwm_s75 : Cond.stringRef "BoxHedge$Reader" 75 "frost" ∈ lw_tbl := List.mem_of_getElem? (i := 577) (by decide +kernel)
theorem lwm_s77 : Cond.stringRef "BoxHedge$Reader" 77 "lose" ∈ lw_tbl := List.mem_of_getElem? (i := 578) (by decide +kernel)
theorem lwm_s92 : Cond.stringRef "BoxHedge$Reader" 92 "pkvthd" ∈ lw_tbl := List.mem_of_getElem? (i := 632) (by decide +kernel)
theorem lwm_s94 : Cond.stringRef "BoxHedge$Reader" 94 "<=>" ∈ lw_tbl := List.mem_of_getElem? (i := 633) (by decide +kernel)
theorem lwm_o1 : Cond.arrayOver (.object "BoxHedge$Garden") ∈ lw_tbl := List.mem_of_getElem? (i := 199) (by decide +kernel)
theorem lwm_o2 : Cond.arrayOver (.object "BoxHedge$Tape") ∈ lw_tbl := List.mem_of_getElem? (i := 328) (by decide +kernel)
theorem lwm_k : ∀ e ∈ kNl.zip [100, 201, 234, 305, 330, 259, 262], lw_tbl[e.2]? = some (Cond.methodLinkNest e.1.1 e.1.2.1 e.1.2.2 "BoxHedge") := by decide +kernel
def lwN2 : List (Nat × Nat × Nat) := [(3, 76, m_Box_holds), (4, 36, m_Box_bit), (2, 37, m_Box_holds), (2, 52, m_Box_bit), (4, 73, m_Box_holds), (4, 139, m_Box_with)]
theorem lw_n2 : ∀ o, o < 16 → ∀ e ∈ zct o, e.2.1 = 2 → (o, e.1, e.2.2.1) ∈ lwN2 := by decide +kernel
theorem lwm_n1 : Cond.methodLinkNest "BoxHedge$Hedge" 76 ⟨"BoxHedge", "holds", "(II)Z"⟩ "BoxHedge" ∈ lw_tbl := List.mem_of_getElem? (i := 398) (by decide +kernel)
theorem lwm_n2 : Cond.methodLinkNest "BoxHedge$Questions" 36 ⟨"BoxHedge", "bit", "(I)I"⟩ "BoxHedge" ∈ lw_tbl := List.mem_of_getElem? (i := 668) (by decide +kernel)
theorem lwm_n3 : Cond.methodLinkNest "BoxHedge$Hearing" 37 ⟨"BoxHedge", "holds", "(II)Z"⟩ "BoxHedge" ∈ lw_tbl := List.mem_of_getElem? (i := 673) (by decide +kernel)
theorem lwm_n4 : Cond.methodLinkNest "BoxHedge$Hearing" 52 ⟨"BoxHedge", "bit", "(I)I"⟩ "BoxHedge" ∈ lw_tbl := List.mem_of_getElem? (i := 679) (by decide +kernel)
theorem lwm_n5 : Cond.methodLinkNest "BoxHedge$Questions" 73 ⟨"BoxHedge", "holds", "(II)Z"⟩ "BoxHedge" ∈ lw_tbl := List.mem_of_getElem? (i := 730) (by decide +kernel)
theorem lwm_n6 : Cond.methodLinkNest "BoxHedge$Questions" 139 ⟨"BoxHedge", "with", "(IIZ)I"⟩ "BoxHedge" ∈ lw_tbl := List.mem_of_getElem? (i := 861) (by decide +kernel)
theorem lw_kN {s : State} {args : Array Value} (hts : ∀ x ∈ lw_tbl, x.before args s = true) : kNs s := by
  refine ⟨fun q hq => ?_, va_AO.of (A := args) (hts _ lwm_o1), va_AO.of (A := args) (hts _ lwm_o2)⟩
  obtain ⟨i, hi⟩ := List.getElem?_of_mem hq
  have hl : i < 7 := (List.getElem?_eq_some_iff.mp hi).1
  have key : ∃ n, (q, n) ∈ kNl.zip [100, 201, 234, 305, 330, 259, 262] := by
    rcases (show i = 0 ∨ i = 1 ∨ i = 2 ∨ i = 3 ∨ i = 4 ∨ i = 5 ∨ i = 6 by omega) with rfl | rfl | rfl | rfl | rfl | rfl | rfl
    · exact ⟨100, List.mem_of_getElem? (i := 0) (by rw [← Option.some.inj hi]; rfl)⟩
    · exact ⟨201, List.mem_of_getElem? (i := 1) (by rw [← Option.some.inj hi]; rfl)⟩
    · exact ⟨234, List.mem_of_getElem? (i := 2) (by rw [← Option.some.inj hi]; rfl)⟩
    · exact ⟨305, List.mem_of_getElem? (i := 3) (by rw [← Option.some.inj hi]; rfl)⟩
    · exact ⟨330, List.mem_of_getElem? (i := 4) (by rw [← Option.some.inj hi]; rfl)⟩
    · exact ⟨259, List.mem_of_getElem? (i := 5) (by rw [← Option.some.inj hi]; rfl)⟩
    · exact ⟨262, List.mem_of_getElem? (i := 6) (by rw [← Option.some.inj hi]; rfl)⟩
  obtain ⟨n, hn⟩ := key
  exact va_Nw.of (A := args) rfl (hts _ (List.mem_of_getElem? (lwm_k _ hn)))
theorem lw_y {mi : Nat} {y y' : MethodName} {b : ByteArray} {ml own : Nat} {ret : Option FieldType} {st : Bool} {cd : List (Nat × Instr)} (h : zmt mi = some (y, b, ml, ret, own, st, cd)) (h2 : (zmt mi).map Prod.fst = some y') : y = y' := by
  rw [h] at h2
  exact Option.some.inj h2
set_option maxHeartbeats 2000000 in
theorem lw_stat {s : State} {b L : Nat} {xs : Nat → Int32} (hts : ∀ x ∈ lw_tbl, x.before #[Value.ref b] s = true) (hX : va_X b L xs s s.heap) (hbl : b < s.heap.size) (hgv : (Jvm.Cond.and given_1 narrow_1).before #[Value.ref b] s = true) (hL : L ≤ 3072) :
    ∃ (ad : Nat → Nat) (w : Value), zWv w ∧ ad 0 = b ∧ zSt s.heap.size ad w (lwtb L xs) s s.heap := by
  have hs := flat_of_before _ hgv
  have hA : ∀ a : Nat, a < s.heap.size → ¬ zA s.heap.size a := fun a h z => absurd h (Nat.not_lt.mpr z)
  obtain ⟨tA, eA, TA⟩ := va_Tof (args := #[Value.ref b]) (tm := .static "BoxHedge" "ABOVE" "[I") (ty := .int) (N := 7) (f := fun j => .int (aboveL.getD j 0)) (A := zA s.heap.size) (by decide) (hs _ (by decide +kernel)) (va_eqt (hs _ (by decide +kernel))) (fun j hj => va_eqt (hs _ (lwf_ab j hj))) hA
  obtain ⟨tB, eB, TB⟩ := va_Tof (args := #[Value.ref b]) (tm := .static "BoxHedge$Acts" "BODIES" "[I") (ty := .int) (N := 21) (f := fun j => .int (bodiesL.getD j 0)) (A := zA s.heap.size) (by decide) (hs _ (by decide +kernel)) (va_eqt (hs _ (by decide +kernel))) (fun j hj => va_eqt (hs _ (lwf_bo j hj))) hA
  obtain ⟨adK, adV, hV, hE⟩ := vk_Sof (args := #[Value.ref b]) (N := 7) (tm := lwtm) (len := zslen) (byt := zsby) (A := zA s.heap.size) lwf_n (fun i hi => hs _ (lwf_ex i hi)) (fun i hi => hs _ (lwf_co i hi)) (fun i hi => hs _ (lwf_ar i hi)) (fun i hi => hs _ (lwf_le i hi)) (fun i hi j hj => hs _ (lwf_el i hi j hj)) (fun i j hi hj hij => (lwf_ne i hi j hj hij).elim (fun z => Or.inl (hs _ z)) (fun z => Or.inr (hs _ z))) hA
  have hZ : va_Zq "jdk/internal/util/Preconditions" "SIOOBE_FORMATTER" "Ljava/util/function/BiFunction;" (zA s.heap.size) s s.heap := va_Zqof (hts _ lwm_2) (hts _ lwm_9) (hs _ (by decide +kernel)) hA
  obtain ⟨w, hw, zw⟩ : ∃ w, zWv w ∧ va_Z "jdk/internal/util/Preconditions" "SIOOBE_FORMATTER" "Ljava/util/function/BiFunction;" w (zA s.heap.size) s s.heap := by
    rcases hZ with h | ⟨t, h⟩
    · exact ⟨.null, Or.inl rfl, h⟩
    · exact ⟨.ref t, Or.inr ⟨t, rfl⟩, h⟩
  have e5 : (Term.string "BoxHedge$Hedge" 41).eval #[Value.ref b] s none [] s = some (.ref (adK 1)) := va_eqv (u := .string "BoxHedge$Reader" 92) (hs _ (by decide +kernel)) (hE 1 (by decide))
  have T0 : va_T .int b L (fun j => .int (xs j)) (zA s.heap.size) s s.heap := by
    obtain ⟨scr, x1, x2, x3, x4, x5⟩ := hX
    exact ⟨scr, x1, x2, x3, Nat.le_of_eq x4.symm, by rw [x4] <;> rfl, x5, hA b hbl⟩
  refine ⟨lwad b tA tB adK adV, w, hw, rfl, ⟨⟨?_, TA, TB⟩, vk_cg (fun i hi => ?_) (fun i hi => ?_) hV, ⟨va_Zref (hts _ lwm_3) (hts _ lwm_6) eB hA, va_Zref (hts _ lwm_4) (hts _ lwm_7) eA hA, va_Zof (hts _ lwm_1) (hts _ lwm_8) (va_eqt (hs _ (by decide +kernel))) hA, zw⟩, fun o idx q ho hv => ?_, fun o idx mi n rk y c ml ret own st cd ho hz hr => ?_, va_Nw.of (A := #[Value.ref b]) rfl (hts _ lwm_5)⟩⟩
  · have e : (lwtb L xs 1 0).toNatClampNeg = L := nI_clamp (by omega)
    rw [e]
    exact T0
  · rcases (show i = 0 ∨ i = 1 ∨ i = 2 ∨ i = 3 ∨ i = 4 ∨ i = 5 ∨ i = 6 by omega) with rfl | rfl | rfl | rfl | rfl | rfl | rfl <;> rfl
  · rcases (show i = 0 ∨ i = 1 ∨ i = 2 ∨ i = 3 ∨ i = 4 ∨ i = 5 ∨ i = 6 by omega) with rfl | rfl | rfl | rfl | rfl | rfl | rfl <;> rfl
  · have hm := zlv_mem hv
    match o, ho, hm with
    | 3, _, hm =>
      rcases List.mem_cons.mp hm with e | hm
      · cases e
        exact ⟨_, vk_R.of (hts _ lwm_s3) e5⟩
      · cases hm
    | 5, _, hm =>
      rcases List.mem_cons.mp hm with e | hm
      · cases e
        exact ⟨_, vk_R.of (hts _ lwm_s39) (hE 0 (by decide))⟩
      rcases List.mem_cons.mp hm with e | hm
      · cases e
        exact ⟨_, vk_R.of (hts _ lwm_s71) (hE 3 (by decide))⟩
      rcases List.mem_cons.mp hm with e | hm
      · cases e
        exact ⟨_, vk_R.of (hts _ lwm_s73) (hE 4 (by decide))⟩
      rcases List.mem_cons.mp hm with e | hm
      · cases e
        exact ⟨_, vk_R.of (hts _ lwm_s75) (hE 5 (by decide))⟩
      rcases List.mem_cons.mp hm with e | hm
      · cases e
        exact ⟨_, vk_R.of (hts _ lwm_s77) (hE 6 (by decide))⟩
      rcases List.mem_cons.mp hm with e | hm
      · cases e
        exact ⟨_, vk_R.of (hts _ lwm_s92) (hE 1 (by decide))⟩
      rcases List.mem_cons.mp hm with e | hm
      · cases e
        exact ⟨_, vk_R.of (hts _ lwm_s94) (hE 2 (by decide))⟩
      · cases hm
    | 4, _, hm =>
      rcases List.mem_cons.mp hm with e | hm
      · cases e
      · cases hm
    | 8, _, hm =>
      rcases List.mem_cons.mp hm with e | hm
      · cases e
      · cases hm
    | 9, _, hm =>
      rcases List.mem_cons.mp hm with e | hm
      · cases e
      · cases hm
    | 15, _, hm =>
      rcases List.mem_cons.mp hm with e | hm
      · cases e
      · cases hm
    | 13, _, hm =>
      rcases List.mem_cons.mp hm with e | hm
      · cases e
      rcases List.mem_cons.mp hm with e | hm
      · cases e
      rcases List.mem_cons.mp hm with e | hm
      · cases e
      · cases hm
    | 0, _, hm => cases hm
    | 1, _, hm => cases hm
    | 2, _, hm => cases hm
    | 6, _, hm => cases hm
    | 7, _, hm => cases hm
    | 10, _, hm => cases hm
    | 11, _, hm => cases hm
    | 12, _, hm => cases hm
    | 14, _, hm => cases hm
  · have h2 := lw_n2 o ho _ (zl5_mem hz) rfl
    unfold lwN2 at h2
    simp only [List.mem_cons, List.not_mem_nil, or_false, Prod.mk.injEq] at h2
    rcases h2 with ⟨rfl, rfl, rfl⟩ | ⟨rfl, rfl, rfl⟩ | ⟨rfl, rfl, rfl⟩ | ⟨rfl, rfl, rfl⟩ | ⟨rfl, rfl, rfl⟩ | ⟨rfl, rfl, rfl⟩
    · rw [lw_y hr (y' := ⟨"BoxHedge", "holds", "(II)Z"⟩) rfl]
      exact va_Nw.of (A := #[Value.ref b]) rfl (hts _ lwm_n1)
    · rw [lw_y hr (y' := ⟨"BoxHedge", "bit", "(I)I"⟩) rfl]
      exact va_Nw.of (A := #[Value.ref b]) rfl (hts _ lwm_n2)
    · rw [lw_y hr (y' := ⟨"BoxHedge", "holds", "(II)Z"⟩) rfl]
      exact va_Nw.of (A := #[Value.ref b]) rfl (hts _ lwm_n3)
    · rw [lw_y hr (y' := ⟨"BoxHedge", "bit", "(I)I"⟩) rfl]
      exact va_Nw.of (A := #[Value.ref b]) rfl (hts _ lwm_n4)
    · rw [lw_y hr (y' := ⟨"BoxHedge", "holds", "(II)Z"⟩) rfl]
      exact va_Nw.of (A := #[Value.ref b]) rfl (hts _ lwm_n5)
    · rw [lw_y hr (y' := ⟨"BoxHedge", "with", "(IIZ)I"⟩) rfl]
      exact va_Nw.of (A := #[Value.ref b]) rfl (hts _ lwm_n6)
theorem lw_arr {s : State} {args : Array Value} {ty : FieldType} (h : (Cond.arrayClass ty).before args s = true) : ∃ c : ClassId, ArrOfT s c ty ∧ s.vm.findClass ("[" ++ ty.toString) = some c := by
  obtain ⟨c, k, comp, h1, h2, h3⟩ := Cond.arrayClass_spec h
  exact ⟨c, fun n z => ⟨fun k h => (by cases h), k, h2, comp, h3⟩, h1⟩
theorem lw_arrO {s : State} {C : String} (h : va_AO C s) : ∃ c : ClassId, ArrOfT s c (.object C) ∧ va_RA s c (.object C) := by
  obtain ⟨comp, c, k, h1, h2, h3, h4, h5⟩ := Cond.arrayOver_spec h
  exact ⟨c, fun n z => ⟨fun k h => (by cases h), k, h3, comp, h4⟩, k, comp, h3, h4, h1, h5⟩
theorem lw_K {s : State} {args : Array Value} (hts : ∀ x ∈ zgood, x.before args s = true) (hN : kNs s) : ∃ (D : va_G) (cA : Nat → ClassId), va_K D vwCl (ztys cA) s := by
  obtain ⟨c0, i0, k0⟩ := u_known (n := 5) hts zlay_0 (hts (Cond.instantiable RX0 5) (zhas_in (i := 304) (by decide +kernel)))
  obtain ⟨c1, i1, k1⟩ := u_known (n := 8) hts zlay_1 (hts (Cond.instantiable RX1 8) (zhas_in (i := 200) (by decide +kernel)))
  obtain ⟨c2, i2, k2⟩ := u_known (n := 6) hts zlay_2 (hts (Cond.instantiable RX2 6) (zhas_in (i := 261) (by decide +kernel)))
  obtain ⟨c3, i3, k3⟩ := u_known (n := 12) hts zlay_3 (hts (Cond.instantiable RX3 12) (zhas_in (i := 99) (by decide +kernel)))
  obtain ⟨c4, i4, k4⟩ := u_known (n := 4) hts zlay_4 (hts (Cond.instantiable RX4 4) (zhas_in (i := 253) (by decide +kernel)))
  obtain ⟨c5, i5, k5⟩ := u_known (n := 4) hts zlay_5 (hts (Cond.instantiable RX5 4) (zhas_in (i := 233) (by decide +kernel)))
  obtain ⟨c6, i6, k6⟩ := u_known (n := 3) hts zlay_6 (hts (Cond.instantiable RX6 3) (zhas_in (i := 105) (by decide +kernel)))
  obtain ⟨c7, i7, k7⟩ := u_known (n := 3) hts zlay_7 (hts (Cond.instantiable RX7 3) (zhas_in (i := 329) (by decide +kernel)))
  obtain ⟨c8, i8, k8⟩ := u_known (n := 9) hts zlay_8 (hts (Cond.instantiable RX8 9) (zhas_in (i := 91) (by decide +kernel)))
  obtain ⟨c9, i9, k9⟩ := u_known (n := 70) hts zlay_9 (hts (Cond.instantiable RX9 70) (zhas_in (i := 967) (by decide +kernel)))
  obtain ⟨a0, h0, g0⟩ := lw_arr (hts (Cond.arrayClass .int) (zhas_in (i := 125) (by decide +kernel)))
  obtain ⟨a1, h1, g1⟩ := lw_arr (hts (Cond.arrayClass .boolean) (zhas_in (i := 1183) (by decide +kernel)))
  obtain ⟨a2, h2, g2⟩ := lw_arr (hts (Cond.arrayClass .long) (zhas_in (i := 349) (by decide +kernel)))
  obtain ⟨a3, h3, g3⟩ := lw_arrO hN.2.1
  obtain ⟨a4, h4, g4⟩ := lw_arrO hN.2.2
  refine ⟨(fun k => match k with | 0 => c0 | 1 => c1 | 2 => c2 | 3 => c3 | 4 => c4 | 5 => c5 | 6 => c6 | 7 => c7 | 8 => c8 | _ => c9, fun k => match k with | 0 => i0 | 1 => i1 | 2 => i2 | 3 => i3 | 4 => i4 | 5 => i5 | 6 => i6 | 7 => i7 | 8 => i8 | _ => i9), fun k => match k with | 0 => a0 | 1 => a1 | 2 => a2 | 3 => a3 | _ => a4, fun c q hq => ?_, fun k q hk => ?_⟩
  · have hl : c < 10 := (List.getElem?_eq_some_iff.mp hq).1
    rcases (show c = 0 ∨ c = 1 ∨ c = 2 ∨ c = 3 ∨ c = 4 ∨ c = 5 ∨ c = 6 ∨ c = 7 ∨ c = 8 ∨ c = 9 by omega) with rfl | rfl | rfl | rfl | rfl | rfl | rfl | rfl | rfl | rfl
    · cases hq; exact k0
    · cases hq; exact k1
    · cases hq; exact k2
    · cases hq; exact k3
    · cases hq; exact k4
    · cases hq; exact k5
    · cases hq; exact k6
    · cases hq; exact k7
    · cases hq; exact k8
    · cases hq; exact k9
  · have hl : k < 5 := (List.getElem?_eq_some_iff.mp hk).1
    rcases (show k = 0 ∨ k = 1 ∨ k = 2 ∨ k = 3 ∨ k = 4 by omega) with rfl | rfl | rfl | rfl | rfl
    · cases hk; exact ⟨h0, g0⟩
    · cases hk; exact ⟨h1, g1⟩
    · cases hk; exact ⟨h2, g2⟩
    · cases hk; exact ⟨h3, g3⟩
    · cases hk; exact ⟨h4, g4⟩
