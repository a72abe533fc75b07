/-! the length of a text, while there is no hedge yet -/
def kPs (base : Nat) (ad : Nat → Nat) (w : Value) (tb : Nat → Nat → Int32) : Array Value → State → Prop := fun v U => v = ([.ref (ad 5)] : List Value).toArray ∧ zSt base ad w tb U U.heap ∧ base ≤ U.heap.size
def kQs (r : Int32) : Array Value → State → Outcome → State → Prop := va_Qi (fun x (_ : Unit) => x = r) (fun _ _ => True) (fun _ => False)
theorem kblindS {base : Nat} {ad : Nat → Nat} {w : Value} {tb : Nat → Nat → Int32} : FrameBlind (kPs base ad w tb) := by
  intro a U g mk ⟨q1, q2, q3⟩
  exact ⟨q1, zSt.same (u := U) q2 rfl, q3⟩
theorem kd_c0 : decode prog_15_method_152_code 0 = .ok (.getstatic 38, 3) := by decide +kernel
theorem kd_c3 : decode prog_15_method_152_code 3 = .ok (.ifCond .eq 10, 3) := by decide +kernel
theorem kd_c6 : decode prog_15_method_152_code 6 = .ok (.aload_n 0, 1) := by decide +kernel
theorem kd_c7 : decode prog_15_method_152_code 7 = .ok (.getfield 15, 3) := by decide +kernel
theorem kd_c10 : decode prog_15_method_152_code 10 = .ok (.goto 4, 3) := by decide +kernel
theorem kd_c14 : decode prog_15_method_152_code 14 = .ok (.ireturn, 1) := by decide +kernel
theorem kd_l0 : decode prog_15_method_54_code 0 = .ok (.aload_n 0, 1) := by decide +kernel
theorem kd_l1 : decode prog_15_method_54_code 1 = .ok (.getfield 9, 3) := by decide +kernel
theorem kd_l4 : decode prog_15_method_54_code 4 = .ok (.arraylength, 1) := by decide +kernel
theorem kd_l5 : decode prog_15_method_54_code 5 = .ok (.aload_n 0, 1) := by decide +kernel
theorem kd_l6 : decode prog_15_method_54_code 6 = .ok (.invokevirtual 335, 3) := by decide +kernel
theorem kd_l9 : decode prog_15_method_54_code 9 = .ok (.ishr, 1) := by decide +kernel
theorem kd_l10 : decode prog_15_method_54_code 10 = .ok (.ireturn, 1) := by decide +kernel
theorem kw_15 : Cond.fieldLink "java/lang/String" 15 "java/lang/String" "coder" "B" ∈ zgood := zhas_in (i := 1543) (by decide +kernel)
theorem kw_9 : Cond.fieldLink "java/lang/String" 9 "java/lang/String" "value" "[B" ∈ zgood := zhas_in (i := 1542) (by decide +kernel)
theorem kw_335 : Cond.methodLink "java/lang/String" 335 ⟨"java/lang/String", "coder", "()B"⟩ ∈ zgood := zhas_in (i := 131) (by decide +kernel)
theorem kw_43 : Cond.methodLink "BoxHedge$Hedge" 43 ⟨"java/lang/String", "length", "()I"⟩ ∈ zgood := zhas_in (i := 127) (by decide +kernel)
abbrev kyc : MethodName := ⟨"java/lang/String", "coder", "()B"⟩
abbrev kyl : MethodName := ⟨"java/lang/String", "length", "()I"⟩
set_option maxHeartbeats 1000000 in
theorem k_coder (l : Launch) (base : Nat) (ad : Nat → Nat) (w : Value) (tb : Nat → Nat → Int32) : Met l kyc (Cond.code kyc prog_15_method_152_code 1 (some .byte) :: zgood) { frames := 0, cells := 0, slots := 0, locals := 20 } (kPs base ad w tb) (kQs 0) 0 0 (fun _ => False) := by
  refine Met.ofW (cc := prog_15_method_152_code) (maxL := 1) (ret := some .byte) (by decide) rfl ?_
  intro p e s m args below meth c s₁ B hml hv
  obtain ⟨rfl, hSt, hbs⟩ := hv
  have hx := B.exec
  have hb := B.bytes
  have hr := B.returns
  have hts0 := atoms_spec (ws := Cond.code kyc prog_15_method_152_code 1 (some .byte) :: zgood) B.pre
  have hts : ∀ x ∈ zgood, x.before ([.ref (ad 5)] : List Value).toArray s = true := fun x h => hts0 x (List.mem_cons_of_mem _ h)
  have hown : s.vm.findClass "java/lang/String" = some m.cls := findClass_of_methodNamed B.named
  have hlocks := B.notSynchronized
  have hS : va_S (fun _ => False) s.heap s.heap [] := va_S.rf
  have hS2 : va_S (zA base) s.heap s.heap [] := va_S.rf
  obtain ⟨-, ⟨hV, -⟩, ⟨-, -, z3, -⟩, -, -, -⟩ := hSt
  obtain ⟨-, v2, v3, -⟩ := hV 1 (by decide)
  have hl := lv_entry ([.ref (ad 5)]) (n := 1) (Nat.le_of_ble_eq_true rfl)
  rw [lg_entry_eq]
  generalize (lg_sl ([.ref (ad 5)]) ++ List.replicate (1 - (lg_sl ([.ref (ad 5)])).length) Slot.unset).toArray = ls at hl ⊢
  have hl : lv_has ls 1 [(0, .ref (ad 5))] := hl
  refine va_gets (ref := "java/lang/String") hx hb z3 hS2 hown (hts _ zgl_2) (fun _ h9 => h9) kd_c0 ?_
  refine lv_if_eq (tgt := 13) hx hb kd_c3 (by decide) (fun z => absurd z (by decide)) (fun _ => ?_)
  refine lv_aload_n hx hb kd_c6 rfl (lv_at hl 0 rfl) ?_
  refine vk_getf hx hb v2 hS2 hown (hts _ kw_15) (fun _ h9 => h9) kd_c7 ?_
  refine lv_goto (tgt := 14) hx hb kd_c10 (by decide) ?_
  exact W.zret (ty := .byte) (v := 0) hx hb hr rfl (fun t ht hW => ⟨⟨0, (), rfl, rfl, trivial⟩, hS.F ht⟩) hS.2.2 kd_c14 hlocks
set_option maxHeartbeats 1000000 in
theorem k_length (l : Launch) (base : Nat) (ad : Nat → Nat) (w : Value) (tb : Nat → Nat → Int32) : Met l kyl (Cond.code kyl prog_15_method_54_code 1 (some .int) :: zgood) { frames := 1, cells := 0, slots := 0, locals := 60 } (kPs base ad w tb) (kQs 6) 0 0 (fun _ => False) := by
  refine Met.ofW (cc := prog_15_method_54_code) (maxL := 1) (ret := some .int) (by decide) rfl ?_
  intro p e s m args below meth c s₁ B hml hv
  obtain ⟨rfl, hSt, hbs⟩ := hv
  have hx := B.exec
  have hb := B.bytes
  have hr := B.returns
  have hts0 := atoms_spec (ws := Cond.code kyl prog_15_method_54_code 1 (some .int) :: zgood) B.pre
  have hts : ∀ x ∈ zgood, x.before ([.ref (ad 5)] : List Value).toArray s = true := fun x h => hts0 x (List.mem_cons_of_mem _ h)
  have hown : s.vm.findClass "java/lang/String" = some m.cls := findClass_of_methodNamed B.named
  have hlocks := B.notSynchronized
  have hS : va_S (fun _ => False) s.heap s.heap [] := va_S.rf
  have hS2 : va_S (zA base) s.heap s.heap [] := va_S.rf
  have hSt2 := hSt
  obtain ⟨-, hE, -, -, -, -⟩ := hSt2
  obtain ⟨-, v2, v3, v4⟩ := hE.1 1 (by decide)
  have hl := lv_entry ([.ref (ad 5)]) (n := 1) (Nat.le_of_ble_eq_true rfl)
  rw [lg_entry_eq]
  generalize (lg_sl ([.ref (ad 5)]) ++ List.replicate (1 - (lg_sl ([.ref (ad 5)])).length) Slot.unset).toArray = ls at hl ⊢
  have hl : lv_has ls 1 [(0, .ref (ad 5))] := hl
  refine lv_aload_n hx hb kd_l0 rfl (lv_at hl 0 rfl) ?_
  refine vk_getf hx hb v3 hS2 hown (hts _ kw_9) (fun _ h9 => h9) kd_l1 ?_
  refine va_tlen (v := 6) hx hb v4 hS2 rfl kd_l4 ?_
  refine lv_aload_n hx hb kd_l5 rfl (lv_at hl 0 rfl) ?_
  obtain ⟨z1, z2, z3, z4, z5, z6, z7, z8⟩ := zrow (i := m_Str_coder) rfl
  refine va_calli (va_runV (C := "java/lang/String") (b := ad 5) (As := []) (rest := [.int 6]) (n := 0) ⟨hx, hb, hml, hown, hts⟩ (k_coder l base ad w tb) (cwV 0 hts (zgoodIn _ (fun x hx => ?_)) rfl rfl rfl ⟨rfl, z7.1, z7.2, rfl⟩ ⟨Nat.le_of_ble_eq_true rfl, Nat.le_of_ble_eq_true rfl⟩) ⟨kblindS, vk_recv (i := 1) hE (by decide) hS2, fun U hU hW => ⟨rfl, hSt.warm hW (fun a _ _ => by rw [hU]), by rw [hU]; exact hbs⟩⟩ rfl rfl hl.1 rfl (lv_room (Nat.le_of_ble_eq_true rfl)) kd_l6 ⟨Nat.le_of_ble_eq_true rfl, Nat.le_of_ble_eq_true rfl⟩) hS (fun q _ h => h) (fun q h => h) (fun r u t H1 locs1 ht hvm hw hB hz1 hk1 hS1 => ?_)
  · rcases List.mem_append.mp hx with hx | hx
    · simp only [List.mem_cons, List.not_mem_nil, or_false] at hx
      rcases hx with rfl | rfl | rfl | rfl
      · exact kw_335
      · exact (z4 rfl).1
      · exact (z4 rfl).2
      · exact z2
    · rcases List.mem_cons.mp hx with rfl | hx
      · exact z1
      · exact hx
  · subst hw
    refine lv_ishr hx hb kd_l9 ?_
    exact W.iret (v := 6) hx hb hr (fun t ht hW => ⟨⟨6, (), rfl, rfl, trivial⟩, hS1.F ht⟩) hS1.2.2 kd_l10 hlocks
section KL
variable {p : Program} {l : Launch} {e : Env} {R : Room} {s : State} {m : MethodId} {args : Array Value} {below : List Frame} {meth : Method} {c : Code} {H : Heap} {locs : List Loc} {cells slots : Nat} {Q : State → Prop}
variable {cc : ByteArray} {ml : Nat} {pc : Nat} {ls : Array Slot} {rest : List Value} {base : Nat} {ad : Nat → Nat} {w : Value} {tb : Nat → Nat → Int32} {D : va_G} {cA : Nat → ClassId} {A : Nat → Prop} {ws : va_W}
theorem kn_len (X : kEn p s m args c cc ml "BoxHedge$Hedge" base ad w tb D cA A) (S : kS D A s ws H locs) (hls : ls.size = ml) (hst : (rest.map fun v => v.category).sum ≤ 8) (hR : 2 ≤ R.frames ∧ 80 ≤ R.locals) (hf : cells ≤ R.cells ∧ slots ≤ R.slots) (hdg : decode cc pc = .ok (.invokevirtual 43, 3))
    (kk : ∀ (H1 : Heap) (locs1 : List Loc), kS D A s ws H1 locs1 → W p l e R s m args below meth c H1 locs1 cells slots Q (F0 m (pc + 3) ls (.int 6 :: rest))) : W p l e R s m args below meth c H locs cells slots Q (F0 m pc ls (.ref (ad 5) :: rest)) := by
  obtain ⟨⟨hx, hb, hml, hown⟩, hts, hK, hSt, hN, hbs, hA, hAb⟩ := X
  obtain ⟨hP, hD, hS⟩ := S
  have hS2 : va_S (zA base) s.heap H locs := ⟨hS.1, fun q h1 h2 => hS.2.1 q h1 (fun z => h2 (hAb q z)), fun q hq => hAb _ (hS.2.2 q hq)⟩
  obtain ⟨z1, z2, z3, z4, z5, z6, z7, z8⟩ := zrow (i := m_Str_length) rfl
  refine va_calli (va_runV (C := "java/lang/String") (b := ad 5) (As := []) (rest := rest) (n := 0) ⟨hx, hb, hml, hown, hts⟩ (k_length l base ad w tb) (cwV 0 hts (zgoodIn _ (fun x hx => ?_)) rfl rfl rfl ⟨rfl, z7.1, z7.2, rfl⟩ ⟨hR.1, hR.2⟩) ⟨kblindS, vk_recv (i := 1) hSt.2.1 (by decide) hS2, fun U hU hW => ⟨rfl, hSt.warm hW (fun a h1 h2 => by rw [hU]; exact hS2.2.1 a h1 h2), by rw [hU]; exact Nat.le_trans hbs hS.1⟩⟩ rfl rfl hls rfl (lv_room hst) hdg ⟨hf.1, hf.2⟩) hS (fun q _ h => h.elim) (fun q h => h.elim) (fun r u t H1 locs1 ht hvm hw hB hz1 hk1 hS1 => ?_)
  · rcases List.mem_append.mp hx with hx | hx
    · simp only [List.mem_cons, List.not_mem_nil, or_false] at hx
      rcases hx with rfl | rfl | rfl | rfl
      · exact kw_43
      · exact (z4 rfl).1
      · exact (z4 rfl).2
      · exact z2
    · rcases List.mem_cons.mp hx with rfl | hx
      · exact z1
      · exact hx
  · subst hw
    exact kk H1 locs1 ⟨hP.kept (fun k q hq => hk1 q.1 ((hP k q hq).lt) (fun z => z)), hD, hS1⟩
end KL
