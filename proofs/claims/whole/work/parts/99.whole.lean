/-! the claim (began as the kit's skeleton, its lower half) -/
theorem lww_1 : Cond.classLink "BoxHedgeLaw" 7 RX8 ∈ zgood := zhas_in (i := 90) (by decide +kernel)
theorem lww_2 : Cond.instantiable RX8 9 ∈ zgood := zhas_in (i := 91) (by decide +kernel)
theorem lww_3 : Cond.initialized RX8 ∈ zgood := zhas_in (i := 72) (by decide +kernel)
theorem lww_4 : Cond.methodLink "BoxHedgeLaw" 9 ky_Box ∈ zgood := zhas_in (i := 92) (by decide +kernel)
theorem lww_5 : Cond.classLink "BoxHedgeLaw" 10 RX9 ∈ zgood := zhas_in (i := 966) (by decide +kernel)
theorem lww_6 : Cond.instantiable RX9 70 ∈ zgood := zhas_in (i := 967) (by decide +kernel)
theorem lww_7 : Cond.initialized RX9 ∈ zgood := zhas_in (i := 83) (by decide +kernel)
theorem lww_8 : Cond.methodLink "BoxHedgeLaw" 12 ky_Mod ∈ zgood := zhas_in (i := 968) (by decide +kernel)
theorem kd_law_0 : decode code 0 = .ok (.new 7, 3) := by decide +kernel
theorem kd_law_3 : decode code 3 = .ok (.dup, 1) := by decide +kernel
theorem kd_law_4 : decode code 4 = .ok (.invokespecial 9, 3) := by decide +kernel
theorem kd_law_7 : decode code 7 = .ok (.astore_n 1, 1) := by decide +kernel
theorem kd_law_8 : decode code 8 = .ok (.new 10, 3) := by decide +kernel
theorem kd_law_11 : decode code 11 = .ok (.dup, 1) := by decide +kernel
theorem kd_law_12 : decode code 12 = .ok (.invokespecial 12, 3) := by decide +kernel
theorem kd_law_15 : decode code 15 = .ok (.astore_n 2, 1) := by decide +kernel
theorem kd_law_16 : decode code 16 = .ok (.iconst 0, 1) := by decide +kernel
theorem kd_law_17 : decode code 17 = .ok (.istore_n 3, 1) := by decide +kernel
-- ===== end of PART A; then your names; then what follows =====
/-! THE CLAIM OUT OF ONE WALK OF THE LAW'S BODY. Your part is whole_start (and what it stands on); all else here is the same for every law, but numbers. -/
def R_law : String := "BoxHedgeLaw"
def lw_P (b : Addr) (xs : List Int32) (args : Array Value) (s : State) : Prop := args = #[.ref b] ∧ s.IntsAt b xs ∧ xs.length ≤ 3072 ∧ (Jvm.Cond.and given_1 narrow_1).before args s = true
def lw_Q (_ : Array Value) (s : State) (o : Outcome) (t : State) : Prop := o = .returned (some (.int 1)) ∧ Framed s o t [] 600000 7302250
def lw_Z (below : List Frame) (a : Array Value) (s : State) : State → Prop := fun t => ∃ o, t.status = .running ∧ Ended t below o ∧ lw_Q a s o t
/-- the law's own end, with 1 on the stack, nothing written that was there before, its room as the claim has it -/
theorem lw_ret {p : Program} {l : Launch} {e : Env} {s : State} {m : MethodId} {below : List Frame} {meth : Method} {c : Code} {b : Nat} (hx : p.tables.exec = Jvm.exec) (hb : c.code = code) (hr : meth.sig.returnType = ret) (hlocks : meth.locks = false) {pc : Nat} {H : Heap} {ls : Array Slot} (hdg : decode code pc = .ok (.ireturn, 1)) : W p l e room_1 s m #[Value.ref b] below meth c H [] 600000 7302250 (lw_Z below #[Value.ref b] s) (F0 m pc ls [.int 1]) := by
  intro T hT X
  obtain ⟨fs, hret, hrun, hended, hW, hframe⟩ := X.leave (v := some (.int 1)) (hlocks := hlocks) (fun h => by rw [hr] at h; cases h)
  have hmeth' : T.vm.method? m = some meth := X.method'
  refine ⟨T.setFrames fs, ?_, .returned (some (.int 1)), hrun, hended, rfl, ⟨_, rfl⟩, hW, hframe⟩
  jvm_step X.here [X.here.top, hx, hb, hdg, hmeth', hr, ret, narrow_b1]
  (try refine ⟨rfl, ?_⟩); (try refine ⟨rfl, ?_⟩)
  first | (intro acts; rw [hret _ acts rfl rfl rfl]) | rw [hret _ _ rfl rfl rfl]
  exact Steps.refl _
/-- what holds at the law's entry: the machine, the code, the tables' words (any of lw_tbl by 'hts w (by decide +kernel)'), the script of L ints xs at the cell b, what the Statement gives of the start (any of its parts by flat_of_before) -/
def lw_At (p : Program) (s : State) (m : MethodId) (meth : Method) (c : Code) (b L : Nat) (xs : Nat → Int32) : Prop :=
  p.tables.exec = Jvm.exec ∧ c.code = code ∧ meth.sig.returnType = ret ∧ c.maxLocals = 4 ∧ s.vm.findClass R_law = some m.cls ∧ (∀ w ∈ lw_tbl, w.before #[Value.ref b] s = true) ∧ va_X b L xs s s.heap ∧ b < s.heap.size ∧ meth.locks = false ∧ (Jvm.Cond.and given_1 narrow_1).before #[Value.ref b] s = true
set_option maxHeartbeats 4000000 in
theorem law_go {p : Program} {e : Env} {s : State} {m : MethodId} {below : List Frame} {meth : Method} {c : Code} (l : Launch) {b L : Nat} {xs : Nat → Int32} (hL : L ≤ 3072) (C0 : lw_At p s m meth c b L xs) {adS a a' : Nat → Nat} {w : Value} {D : va_G} {cA : Nat → ClassId} (hw : zWv w) (e0 : adS 0 = b) (hSt : zSt s.heap.size adS w (lwtb L xs) s s.heap) (hK : va_K D vwCl (ztys cA) s) {H : Heap} {locs : List Loc} (S : kS D (zA s.heap.size) s (kw_Box cA a ++ kw_Mod cA a') H locs) {ls : Array Slot} (hl : lv_has ls 4 [(3, .int 0), (2, .ref (a' 0)), (1, .ref (a 0)), (0, .ref b)]) : W p l e room_1 s m #[Value.ref b] below meth c H locs 600000 7302250 (lw_Z below #[Value.ref b] s) (F0 m 18 ls []) := by
  obtain ⟨hx, hb, hr, hml, hown, hts, hX, hbl, hlocks, hgv⟩ := id C0
  have htg : ∀ x ∈ zgood, x.before #[Value.ref b] s = true := fun x h => hts x (List.mem_filter.mp h).1
  have hAd : zAd s.heap.size (lwA adS a a') := lw_ad S.2.1
  have hWo : zWo D cA (lwA adS a a') (zm0 (lwtb L xs)) H := lw_world S.1
  have hSt2 : zSt s.heap.size (lwA adS a a') w (lwtb L xs) s s.heap := zSt_cg lwA_low hSt
  have XC : zCx p l room_1 s m #[Value.ref b] c 600000 7302250 15 4 code zc_law s.heap.size (lwA adS a a') w (lwtb L xs) D cA 50 :=
    ⟨⟨hx, hb, hml, hown, by decide⟩, htg, hK, hSt2, hAd, Nat.le_refl _, zdk_law, lwtb_ok xs hL, hw, ⟨(Nat.le_of_ble_eq_true rfl), (Nat.le_of_ble_eq_true rfl), (Nat.le_of_ble_eq_true rfl), (Nat.le_of_ble_eq_true rfl)⟩, zCon_all hAd (lwtb_ok xs hL) hw 50⟩
  have T : zRt p l e room_1 s m #[Value.ref b] below meth c 600000 7302250 (lw_Z below #[Value.ref b] s) code s.heap.size (lwA adS a a') w (lwtb L xs) D cA (some .boolean) (fun o _ => o = some (.int 1)) := by
    intro pc la mm H locs hWo2 hS2 hLw2
    refine ⟨fun x hd h => ?_, fun x hd h => h.elim, fun x hd h => h.elim, fun hd h => h.elim⟩
    have e1 : x = 1 := Value.int.inj (Option.some.inj h.2)
    subst e1
    exact va_forget hS2.2.2 (lw_ret hx hb hr hlocks hd)
  have hKc : zKc (zCall 50) 15 (some .boolean) zc_law (fun o _ => o = some (.int 1)) (fun pc ls st mm => ∀ la H locs, zSim s s.heap.size (lwA adS a a') w (lwtb L xs) D cA 4 ls mm la H locs → W p l e room_1 s m #[Value.ref b] below meth c H locs 600000 7302250 (lw_Z below #[Value.ref b] s) (F0 m pc la (st.map (zcv (lwA adS a a') w)))) := by
    intro pc ls st mm hs la H locs Sm
    unfold zstep at hs
    split at hs
    · exact hs.elim
    · rename_i k i r hf
      exact zwp_ok XC Sm (fun _ _ _ _ _ _ _ h S => h _ _ _ S) T zof_law (zfind_mem hf) hs
  have main := lw_loop (L := L) (tb := lwtb L xs) hKc (fun pc ls st mm h la H locs Sm => h ⟨fun j => Sm.2.2.2.2.1 0 (by decide) j, fun j => Sm.2.2.2.2.1 1 (by decide) j⟩ la H locs Sm) rfl hL (fun _ => rfl) L 0 (zm0 (lwtb L xs)) (by omega) (Nat.zero_le _) (zm0_rel L xs)
  refine main ls H locs ⟨⟨hl.1, hl.2.1, fun i hi => ?_⟩, rfl, hWo, S.2.2, zm0_low _⟩
  match i, hi with
  | 0, _ =>
    show ls[0]? = some (.val (.ref (adS 0)))
    rw [e0]
    exact lv_at hl 3 rfl
  | 1, _ => exact lv_at hl 2 rfl
  | 2, _ => exact lv_at hl 1 rfl
  | 3, _ =>
    show ls[3]? = some (.val (.int (nI 0)))
    rw [nI_0]
    exact lv_at hl 0 rfl
  | i + 4, h => cases h
set_option maxHeartbeats 4000000 in
set_option maxRecDepth 100000 in
theorem whole_start {p : Program} {e : Env} {s : State} {m : MethodId} {below : List Frame} {meth : Method} {c : Code} (l : Launch) (hflags : l.flags = flags0) {b L : Nat} {xs : Nat → Int32} (hL : L ≤ 3072) (C0 : lw_At p s m meth c b L xs) : W p l e room_1 s m #[Value.ref b] below meth c s.heap [] 0 0 (lw_Z below #[Value.ref b] s) (entryFrame m ([Value.ref b] : List Value).toArray 4) := by
  obtain ⟨hx, hb, hr, hml, hown, hts, hX, hbl, hlocks, hgv⟩ := id C0
  have htg : ∀ x ∈ zgood, x.before #[Value.ref b] s = true := fun x h => hts x (List.mem_filter.mp h).1
  obtain ⟨adS, w, hw, e0, hSt⟩ := lw_stat hts hX hbl hgv hL
  have hN := lw_kN hts
  obtain ⟨D, cA, hK⟩ := lw_K htg hN
  have X : kEn p s m #[Value.ref b] c code 4 "BoxHedgeLaw" s.heap.size adS w (lwtb L xs) D cA (zA s.heap.size) := ⟨⟨hx, hb, hml, hown⟩, htg, hK, hSt, hN, Nat.le_refl _, fun q h => h, fun q h => h⟩
  have S : kS D (zA s.heap.size) s [] s.heap [] := ⟨fun k q h => by simp at h, ⟨fun i j p q h => by simp at h, fun k q h => by simp at h⟩, va_S.rf⟩
  have hl := lv_entry ([.ref b]) (n := 4) (Nat.le_of_ble_eq_true rfl)
  rw [lg_entry_eq]
  generalize (lg_sl ([.ref b]) ++ List.replicate (4 - (lg_sl ([.ref b])).length) Slot.unset).toArray = ls at hl ⊢
  have hl : lv_has ls 4 [(0, .ref b)] := hl
  refine kn_new X zlay_8 tyX8 tyX8_ok lww_1 lww_2 lww_3 (ci := 8) rfl S (fs := kz_Box) rfl (Nat.le_of_ble_eq_true rfl) (Nat.le_of_ble_eq_true rfl) kd_law_0 (fun q H S => ?_)
  refine lv_dup hx hb kd_law_3 rfl ?_
  refine kn_callI (wr := []) (q := q) (as := []) (rest := [.ref q]) X (k_Box l s.heap.size adS w (lwtb L xs) D cA) kcd_Box kini_Box lww_4 kim_Box rfl ⟨by decide, by decide, rfl⟩ ⟨(Nat.le_of_ble_eq_true rfl), (Nat.le_of_ble_eq_true rfl)⟩ S hl.1 (Nat.le_of_ble_eq_true rfl) kd_law_4 ⟨(Nat.le_of_ble_eq_true rfl), (Nat.le_of_ble_eq_true rfl)⟩ (fun a H locs ea T => ?_)
  subst ea
  have S : kS D (zA s.heap.size) s (kw_Box cA a) H locs := T
  clear T
  refine lv_astore_n (lv' := [(1, .ref (a 0)), (0, .ref b)]) hx hb kd_law_7 rfl hl (by decide) rfl (fun ls hl => ?_)
  refine kn_new X zlay_9 tyX9 tyX9_ok lww_5 lww_6 lww_7 (ci := 9) rfl S (fs := kz_Mod) rfl (Nat.le_of_ble_eq_true rfl) (Nat.le_of_ble_eq_true rfl) kd_law_8 (fun q H S => ?_)
  refine lv_dup hx hb kd_law_11 rfl ?_
  refine kn_callI (wr := kw_Box cA a) (q := q) (as := []) (rest := [.ref q]) X (k_Mod l s.heap.size adS w (lwtb L xs) D cA) kcd_Mod kini_Mod lww_8 kim_Mod rfl ⟨by decide, by decide, rfl⟩ ⟨(Nat.le_of_ble_eq_true rfl), (Nat.le_of_ble_eq_true rfl)⟩ S hl.1 (Nat.le_of_ble_eq_true rfl) kd_law_12 ⟨(Nat.le_of_ble_eq_true rfl), (Nat.le_of_ble_eq_true rfl)⟩ (fun a' H locs ea T => ?_)
  subst ea
  have S : kS D (zA s.heap.size) s (kw_Box cA a ++ kw_Mod cA a') H locs := T
  clear T
  refine lv_astore_n (lv' := [(2, .ref (a' 0)), (1, .ref (a 0)), (0, .ref b)]) hx hb kd_law_15 rfl hl (by decide) rfl (fun ls hl => ?_)
  refine lv_iconst (v := 0) hx hb kd_law_16 (by decide) ?_
  refine lv_istore_n (lv' := [(3, .int 0), (2, .ref (a' 0)), (1, .ref (a 0)), (0, .ref b)]) hx hb kd_law_17 rfl hl (by decide) rfl (fun ls hl => ?_)
  refine W.widen (k := 600000) (n := 7302250) (Nat.le_of_ble_eq_true rfl) (Nat.le_of_ble_eq_true rfl) ?_
  exact law_go l hL C0 hw e0 hSt hK S hl
-- ===== YOUR PART ENDS =====
set_option maxHeartbeats 4000000 in
theorem lw_walk (l : Launch) (hflags : l.flags = flags0) (b : Addr) (xs : List Int32) : MetFree l x (headSpec (Jvm.Cond.code x code maxLocals ret :: tables_1) room_1) (lw_P b xs) (fun _ _ _ _ _ => True) lw_Q := by
  refine MetFree.of_bodyS (code := code) (maxLocals := maxLocals) (ret := ret) (by decide) ?_ ?_
  · intro args s m h hn
    obtain ⟨meth, c, h1, h2, h3, h4, h5, h6, -, -⟩ := Cond.code_spec hn (atoms_spec (ws := Jvm.Cond.code x code maxLocals ret :: tables_1) h _ List.mem_cons_self)
    exact ⟨meth, c, h1, h2, h3, h4, h5, h6⟩
  · intro p e s m args below meth c s₁ B hml0 hP _
    obtain ⟨rfl, hx, hbd, hgv⟩ := hP
    obtain ⟨scr, harrAt, hlist, hof, hsmall⟩ := hx
    obtain ⟨hcb, hkn, -, -⟩ := State.arrayAt?_spec harrAt
    have hown : s.vm.findClass R_law = some m.cls := findClass_of_methodNamed B.named
    have hts0 : ∀ c ∈ (Jvm.Cond.code x code maxLocals ret :: tables_1), c.before #[Value.ref b] s = true := atoms_spec (ws := Jvm.Cond.code x code maxLocals ret :: tables_1) B.pre
    have hts : ∀ w ∈ lw_tbl, w.before #[Value.ref b] s = true := k2_hts_sels lw_privs (fun w hw => hts0 w (List.mem_cons_of_mem _ hw)) lw_privs_ok
    have hml : c.maxLocals = 4 := B.maxLocals_eq (hts0 _ List.mem_cons_self)
    have X₀ : Stand p l e room_1 s m #[Value.ref b] below meth c s₁ [] 0 0 := Stand.of_body B
    have hh0 : s₁.heap = s.heap := by rw [B.state]; rfl
    have hsz : scr.slots.size = xs.length := by rw [← Array.length_toList, hlist, List.length_map]
    have hval : ∀ j : Nat, j < xs.length → scr.slots[j]? = some (.int (xs.getD j 0)) := fun j hj => by
      rw [← Array.getElem?_toList, hlist]
      simp [hj]
    have hbl : b < s.heap.size := (Array.getElem?_eq_some_iff.mp hcb).1
    have hX : va_X b xs.length (fun j => xs.getD j 0) s s.heap := ⟨scr, hcb, hof, hkn, hsz, hval⟩
    have K : W p l e room_1 s m #[Value.ref b] below meth c s₁.heap [] 0 0 (lw_Z below #[Value.ref b] s) (entryFrame m ([Value.ref b] : List Value).toArray 4) := by
      rw [hh0]
      exact whole_start l hflags hbd ⟨B.exec, B.bytes, B.returns, hml, hown, hts, hX, hbl, B.notSynchronized, hgv⟩
    obtain ⟨t, a1, o, b1, b2, b3⟩ := K s₁ rfl X₀
    exact ⟨t, o, a1, b1, b2, b3⟩
theorem lw_pre_spec {args : Array Value} {s : State} (h : (Jvm.Cond.and given_1 narrow_1).before args s = true) (hr : rest_1_c.before args s = true) : ∃ (b : Addr) (xs : List Int32), lw_P b xs args s := by
  have hs := flat_of_before _ h
  have hq := flat_of_before _ hr
  have hc : (Cond.count 1).before args s = true := hs _ (by decide +kernel)
  have harr : (Cond.arrayOf (.arg 0) .int).before args s = true := hs _ (by decide +kernel)
  have hle : (Cond.le (.length (.arg 0)) (.int 3072)).before args s = true := hs _ (by decide +kernel)
  have hlen : (Cond.isInt (.length (.arg 0))).before args s = true := hq _ (by decide +kernel)
  have hall : (Cond.all (.arg 0) (.isInt (.elem (.arg 0) (.index 0)))).before args s = true := hq _ (by decide +kernel)
  obtain ⟨b, xs, hb, hx⟩ := State.ints_of_pre rfl harr hlen hall
  have hsm : xs.length < 2 ^ 31 := hx.choose_spec.2.2.2
  have hev : (Term.length (.arg 0)).eval args s none [] s = some (.int xs.length.toInt32) := hx.length_eval hb
  have hv := Cond.le_ints hev (show (Term.int 3072).eval args s none [] s = some (.int 3072) from rfl)
  have hd : xs.length.toInt32 ≤ 3072 := by
    simpa [Cond.before, Cond.holds, hv] using hle
  have hN : xs.length ≤ 3072 := (Int32.ofNat_le_ofNat hsm (by decide)).mp (show Int32.ofNat xs.length ≤ Int32.ofNat 3072 from hd)
  exact ⟨b, xs, Cond.one_arg hc (show args[0]? = some (.ref b) from hb), hx, hN, h⟩
theorem lw_comes (l : Launch) (hflags : l.flags = flags0) : Comes l x (Jvm.Cond.code x code maxLocals ret :: tables_1) room_1 (fun tb e args s => Calls_1 tb e args s ∧ rest_1 tb e args s ∧ Pre_1 tb e args s)
    (fun _ _ args s o t => lw_Q args s o t) := by
  intro p e ha hc hk s m args below hf hfit hheap happ hpre
  obtain ⟨b, xs, hP⟩ := lw_pre_spec hpre.2.2 hpre.2.1
  obtain ⟨k, o, h1, h2, h3, hQ⟩ := lw_walk l hflags b xs p e ha hc hk s m args below hf ((Spec.applies_iff_loose hf).mp happ).1 hP trivial
  exact ⟨k, o, h1, h2, h3, hQ⟩
theorem lw_frame {s t : State} {o : Outcome} {args : Array Value} (h : Framed s o t [] 600000 7302250) :
    Framed s o t (fieldLocs frame_1_writes args s ++ arrayLocs frame_1_arrays args s ++ staticLocs frame_1_statics s) 600000 7302250 := h
theorem lw_limb (L : Cond) (hL : ∀ (args : Array Value) (s t : State), L.after args s (.returned (some (.int 1))) t = true) :
    ArmFor flags0 classFile x code maxLocals ret World_1 tables_1 room_1 Calls_1 rest_1 Pre_1
      (fun tb e a s o t => postC L tb e a s o t ∧ Framed s o t (fieldLocs frame_1_writes a s ++ arrayLocs frame_1_arrays a s ++ staticLocs frame_1_statics s) 600000 7302250) := by
  intro l hflags _ _ p e ha hc hk s m args below hf hfit hheap happ hpre
  obtain ⟨k, o, h1, h2, h3, rfl, hF⟩ := lw_comes l hflags p e ha hc hk s m args below hf hfit hheap happ hpre
  exact ⟨k, _, h1, h2, h3, hL args s _, lw_frame hF⟩
theorem i_vc : Claimed_1_1 ∧ Claimed_1_2 := ⟨lw_limb limb_1_1 (fun args s t => by simp [limb_1_1, Cond.after, Cond.holds, Cond.value]), lw_limb limb_1_2 (fun args s t => Cond.after_iff.mpr (by
  first | (rw [show limb_1_2 = Cond.eq .result (.int 1) from rfl, Cond.eq_ints (x := 1) (y := 1) rfl rfl]; simp; done) | (simp [limb_1_2, Cond.value, Term.eval]; done)))⟩
