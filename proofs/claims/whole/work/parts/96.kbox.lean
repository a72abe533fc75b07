/-! the constructors of the questions and of the whole (gen95.py) -/
section
variable {D : va_G} {H : Heap} {ws : va_W} {q n : Nat} {k : ClassId}
theorem kP_set (i : Nat) {x y : va_E} (hx : ws[i]? = some (q, x)) (he : va_at D vwCl (q, x) H → va_at D vwCl (q, y) H) (h : va_P D vwCl ws H) : va_P D vwCl (ws.set i (q, y)) H := by
  intro k2 z hz
  have hl := (List.getElem?_eq_some_iff.mp hx).1
  by_cases e : k2 = i
  · rw [e, List.getElem?_set_self hl] at hz
    rw [← Option.some.inj hz]
    exact he (h i _ hx)
  · rw [List.getElem?_set_ne (fun t => e t.symm)] at hz
    exact h k2 z hz
end
section
variable {p : Program} {l : Launch} {e : Env} {R : Room} {s : State} {m : MethodId} {args : Array Value} {below : List Frame} {meth : Method} {c : Code} {locs : List Loc} {cells slots : Nat} {Q : State → Prop}
variable {cc : ByteArray} {ml : Nat} {own : String} {pc : Nat} {ls : Array Slot} {rest : List Value} {base : Nat} {ad : Nat → Nat} {w : Value} {tb : Nat → Nat → Int32} {cA : Nat → ClassId} {A : Nat → Prop} {L M N N2 : va_W} {h0 : Nat} {o : va_E} {D : va_G} {H : Heap} {ws : va_W} {q n : Nat} {k : ClassId}
theorem kfl {fs : List Value} {z : Nat} (h : fs.length = z) (i : Nat) (v : Value) : (fs.set i v).length = z := by rw [List.length_set]; exact h
theorem kmid {α : Type} (M N : List α) (x : α) : (M ++ (x :: N))[M.length]? = some x := by rw [List.getElem?_append_right (Nat.le_refl _), Nat.sub_self]; rfl
theorem kmids {α : Type} (M N : List α) (x y : α) : (M ++ (x :: N)).set M.length y = M ++ (y :: N) := by rw [List.set_append_right _ _ (Nat.le_refl _), Nat.sub_self]; rfl
theorem kS_set (S : kS D A s ws H locs) (i : Nat) {x y : va_E} (hx : ws[i]? = some (q, x)) (he : va_at D vwCl (q, x) H → va_at D vwCl (q, y) H) : kS D A s (ws.set i (q, y)) H locs := ⟨kP_set i hx he S.1, S.2.1.set hx, S.2.2⟩
/-- an array's elements, told anew -/
theorem kn_convI {f : Nat → Int32} (S : kS D A s ((h0, o) :: (L ++ [(q, .inl (k, n, .inl f))])) H locs) (g : Nat → Int32) (hfg : ∀ j, j < n → f j = g j) : kS D A s ((h0, o) :: (L ++ [(q, .inl (k, n, .inl g))])) H locs := by
  have h := kS_set (y := .inl (k, n, .inl g)) S (L.length + 1) (kat L _) (fun t => by
    have t : H[q]? = some (vp_cell k (n, .inl f)) := t
    show H[q]? = some (vp_cell k (n, .inl g))
    rw [← kcell hfg]
    exact t)
  rw [List.set_cons_succ, kset] at h
  exact h
theorem kn_convR {f : Nat → Option Nat} (S : kS D A s ((h0, o) :: (M ++ ((q, .inl (k, n, .inr (.inr (.inr (.inr f))))) :: N))) H locs) (g : Nat → Option Nat) (hfg : ∀ j, j < n → f j = g j) : kS D A s ((h0, o) :: (M ++ ((q, .inl (k, n, .inr (.inr (.inr (.inr g))))) :: N))) H locs := by
  have h := kS_set (y := .inl (k, n, .inr (.inr (.inr (.inr g))))) S (M.length + 1) (kmid M N _) (fun t => by
    have t : H[q]? = some (vp_cell k (n, .inr (.inr (.inr (.inr f))))) := t
    show H[q]? = some (vp_cell k (n, .inr (.inr (.inr (.inr g)))))
    rw [← kcellR hfg]
    exact t)
  rw [List.set_cons_succ, kmids] at h
  exact h
theorem kn_callNh {q ci : Nat} {fs0 as : List Value} {y : MethodName} {c2 : ByteArray} {ml2 fr lo mc ms index : Nat} {W1 : (Nat → Nat) → va_W} (X : kEn p s m args c cc ml own base ad w tb D cA A) (hM : kMet l base ad w tb D cA ci fs0 y c2 ml2 as fr lo mc ms W1) (hcd : Cond.code y c2 ml2 none ∈ zgood) (hini : Cond.initialized y.cls ∈ zgood) (hlk : (own, index, y) ∈ kNl) (him : Cond.instanceMethod y ∈ zgood) (hy : y.name = "<init>")
    (hd : y.cls ≠ "java/lang/invoke/MethodHandle" ∧ y.cls ≠ "java/lang/invoke/VarHandle" ∧ (parseMethodDescriptor y.desc).map (fun d => d.parameters.length) = some as.length) (hR : fr + 1 ≤ R.frames ∧ 8 + (ml2 + 11) + lo ≤ R.locals) (S : kS D A s (((h0, o) :: L) ++ [(q, .inr (ci, fs0))]) H locs) (hls : ls.size = ml) (hst : (rest.map fun v => v.category).sum ≤ 8) (hdg : decode cc pc = .ok (.invokespecial index, 3)) (hf : cells + mc ≤ R.cells ∧ slots + ms ≤ R.slots)
    (kk : ∀ (a : Nat → Nat) (H1 : Heap) (locs1 : List Loc), a 0 = q → kS D A s ((h0, o) :: (L ++ W1 a)) H1 locs1 → W p l e R s m args below meth c H1 locs1 (cells + mc) (slots + ms) Q (F0 m (pc + 3) ls rest)) : W p l e R s m args below meth c H locs cells slots Q (F0 m pc ls (as.reverse ++ .ref q :: rest)) :=
  kn_callN X hM hcd hini hlk him hy hd hR S hls hst hdg hf kk
theorem kn_callIh {q ci : Nat} {fs0 as : List Value} {y : MethodName} {c2 : ByteArray} {ml2 fr lo mc ms index : Nat} {W1 : (Nat → Nat) → va_W} (X : kEn p s m args c cc ml own base ad w tb D cA A) (hM : kMet l base ad w tb D cA ci fs0 y c2 ml2 as fr lo mc ms W1) (hcd : Cond.code y c2 ml2 none ∈ zgood) (hini : Cond.initialized y.cls ∈ zgood) (hlk : Cond.methodLink own index y ∈ zgood) (him : Cond.instanceMethod y ∈ zgood) (hy : y.name = "<init>")
    (hd : y.cls ≠ "java/lang/invoke/MethodHandle" ∧ y.cls ≠ "java/lang/invoke/VarHandle" ∧ (parseMethodDescriptor y.desc).map (fun d => d.parameters.length) = some as.length) (hR : fr + 1 ≤ R.frames ∧ 8 + (ml2 + 11) + lo ≤ R.locals) (S : kS D A s (((h0, o) :: L) ++ [(q, .inr (ci, fs0))]) H locs) (hls : ls.size = ml) (hst : (rest.map fun v => v.category).sum ≤ 8) (hdg : decode cc pc = .ok (.invokespecial index, 3)) (hf : cells + mc ≤ R.cells ∧ slots + ms ≤ R.slots)
    (kk : ∀ (a : Nat → Nat) (H1 : Heap) (locs1 : List Loc), a 0 = q → kS D A s ((h0, o) :: (L ++ W1 a)) H1 locs1 → W p l e R s m args below meth c H1 locs1 (cells + mc) (slots + ms) Q (F0 m (pc + 3) ls rest)) : W p l e R s m args below meth c H locs cells slots Q (F0 m pc ls (as.reverse ++ .ref q :: rest)) :=
  kn_callI X hM hcd hini hlk him hy hd hR S hls hst hdg hf kk
/-- a new object into an array of references -/
theorem kn_astqE (X : kEn p s m args c cc ml own base ad w tb D cA A) (t0 ci : Nat) {r : vw_C} {g v : Nat} {vs : List Value} {f : Nat → Option Nat} (S : kS D A s ((h0, o) :: ((M ++ ((g, .inl (cA t0, n, .inr (.inr (.inr (.inr f))))) :: N)) ++ ((v, .inr (ci, vs)) :: N2))) H locs) (ht : (ztys cA)[t0]? = some (cA t0, .object r.1)) (hc : vwCl[ci]? = some r) {i : Int32} (hi : vp_in i n) (hdg : decode cc pc = .ok (.aastore, 1))
    (kk : ∀ (H1 : Heap) (locs1 : List Loc), kS D A s ((h0, o) :: (M ++ ((g, .inl (cA t0, n, .inr (.inr (.inr (.inr (va_up f i.toNatClampNeg (some v))))))) :: (N ++ ((v, .inr (ci, vs)) :: N2))))) H1 locs1 → W p l e R s m args below meth c H1 locs1 cells slots Q (F0 m (pc + 1) ls rest)) : W p l e R s m args below meth c H locs cells slots Q (F0 m pc ls (.ref v :: .int i :: .ref g :: rest)) := by
  have e1 : ∀ x : Nat × va_E, (M ++ (x :: N)) ++ ((v, .inr (ci, vs)) :: N2) = M ++ (x :: (N ++ ((v, .inr (ci, vs)) :: N2))) := fun x => by rw [List.append_assoc, List.cons_append]
  refine kn_astq X S M.length t0 (M ++ ((g, .inl (cA t0, n, .inr (.inr (.inr (.inr f))))) :: N)).length ci (by rw [e1]; exact kmid M _ _) ht (kmid _ N2 _) hc hi hdg (fun H1 locs1 T => kk H1 locs1 ?_)
  rw [e1, kmids] at T
  exact T
/-- a constructor ends -/
theorem kn_retE (X : kEn p s m args c cc ml own base ad w tb D cA A) (hr : meth.sig.returnType = none) (hlocks : meth.locks = false) {w0 : va_W} {sz : Nat} {W1 : (Nat → Nat) → va_W} (hAe : va_A w0 sz = A) (S : kS D A s ws H locs) (a : Nat → Nat) (ha : a 0 = h0) (hw : ws = W1 a) {mc ms : Nat} (hc : cells ≤ mc) (hs : slots ≤ ms) (hdg : decode cc pc = .ok (.return_, 1)) :
    W p l e R s m args below meth c H locs cells slots (MQ below (kQc D w0 sz W1 h0) args s mc ms (va_A w0 sz)) (F0 m pc ls []) := kn_ret X hr hlocks hAe S a ha (fun h => hw ▸ h) (by rw [hw]) hc hs hdg
end
abbrev ky_Qu : MethodName := ⟨"BoxHedge$Questions", "<init>", "(LBoxHedge$Hedge;)V"⟩
theorem kcd_Qu : Cond.code ky_Qu prog_6_method_1_code 2 none ∈ zgood := zgood_in1 (List.mem_of_getElem? (i := 185) rfl) rfl
theorem kd_Qu_0 : decode prog_6_method_1_code 0 = .ok (.aload_n 0, 1) := by decide +kernel
theorem kd_Qu_1 : decode prog_6_method_1_code 1 = .ok (.invokespecial 3, 3) := by decide +kernel
theorem kd_Qu_4 : decode prog_6_method_1_code 4 = .ok (.aload_n 0, 1) := by decide +kernel
theorem kd_Qu_5 : decode prog_6_method_1_code 5 = .ok (.new 9, 3) := by decide +kernel
theorem kd_Qu_8 : decode prog_6_method_1_code 8 = .ok (.dup, 1) := by decide +kernel
theorem kd_Qu_9 : decode prog_6_method_1_code 9 = .ok (.invokespecial 11, 3) := by decide +kernel
theorem kd_Qu_12 : decode prog_6_method_1_code 12 = .ok (.putfield 12, 3) := by decide +kernel
theorem kd_Qu_15 : decode prog_6_method_1_code 15 = .ok (.aload_n 0, 1) := by decide +kernel
theorem kd_Qu_16 : decode prog_6_method_1_code 16 = .ok (.new 18, 3) := by decide +kernel
theorem kd_Qu_19 : decode prog_6_method_1_code 19 = .ok (.dup, 1) := by decide +kernel
theorem kd_Qu_20 : decode prog_6_method_1_code 20 = .ok (.invokespecial 20, 3) := by decide +kernel
theorem kd_Qu_23 : decode prog_6_method_1_code 23 = .ok (.putfield 21, 3) := by decide +kernel
theorem kd_Qu_26 : decode prog_6_method_1_code 26 = .ok (.aload_n 0, 1) := by decide +kernel
theorem kd_Qu_27 : decode prog_6_method_1_code 27 = .ok (.bipush 64, 2) := by decide +kernel
theorem kd_Qu_29 : decode prog_6_method_1_code 29 = .ok (.newarray .int, 2) := by decide +kernel
theorem kd_Qu_31 : decode prog_6_method_1_code 31 = .ok (.putfield 25, 3) := by decide +kernel
theorem kd_Qu_34 : decode prog_6_method_1_code 34 = .ok (.aload_n 0, 1) := by decide +kernel
theorem kd_Qu_35 : decode prog_6_method_1_code 35 = .ok (.aload_n 1, 1) := by decide +kernel
theorem kd_Qu_36 : decode prog_6_method_1_code 36 = .ok (.putfield 29, 3) := by decide +kernel
theorem kd_Qu_39 : decode prog_6_method_1_code 39 = .ok (.return_, 1) := by decide +kernel
theorem kini_Qu : Cond.initialized ky_Qu.cls ∈ zgood := zhas_in (i := 79) (by decide +kernel)
theorem kim_Qu : Cond.instanceMethod ky_Qu ∈ zgood := zhas_in (i := 255) (by decide +kernel)
abbrev kz_Qu : List Value := [.null, .null, .null, .null]
theorem kw257 : Cond.methodLink "BoxHedge$Questions" 3 Lib.objectInit ∈ zgood := zhas_in (i := 257) (by decide +kernel)
theorem kw258 : Cond.classLink "BoxHedge$Questions" 9 "BoxHedge$Hedge" ∈ zgood := zhas_in (i := 258) (by decide +kernel)
theorem kw99 : Cond.instantiable "BoxHedge$Hedge" 12 ∈ zgood := zhas_in (i := 99) (by decide +kernel)
theorem kw73 : Cond.initialized "BoxHedge$Hedge" ∈ zgood := zhas_in (i := 73) (by decide +kernel)
theorem kw291 : Cond.fieldLink "BoxHedge$Questions" 12 "BoxHedge$Questions" "trial" "LBoxHedge$Hedge;" ∈ zgood := zhas_in (i := 291) (by decide +kernel)
theorem kw260 : Cond.classLink "BoxHedge$Questions" 18 "BoxHedge$Hearing" ∈ zgood := zhas_in (i := 260) (by decide +kernel)
theorem kw261 : Cond.instantiable "BoxHedge$Hearing" 6 ∈ zgood := zhas_in (i := 261) (by decide +kernel)
theorem kw80 : Cond.initialized "BoxHedge$Hearing" ∈ zgood := zhas_in (i := 80) (by decide +kernel)
theorem kw292 : Cond.fieldLink "BoxHedge$Questions" 21 "BoxHedge$Questions" "hearing" "LBoxHedge$Hearing;" ∈ zgood := zhas_in (i := 292) (by decide +kernel)
theorem kw293 : Cond.fieldLink "BoxHedge$Questions" 25 "BoxHedge$Questions" "hearings" "[I" ∈ zgood := zhas_in (i := 293) (by decide +kernel)
theorem kw290 : Cond.fieldLink "BoxHedge$Questions" 29 "BoxHedge$Questions" "hedge" "LBoxHedge$Hedge;" ∈ zgood := zhas_in (i := 290) (by decide +kernel)
abbrev ky_Box : MethodName := ⟨"BoxHedge", "<init>", "()V"⟩
theorem kcd_Box : Cond.code ky_Box prog_1_method_1_code 2 none ∈ zgood := zgood_in1 (List.mem_of_getElem? (i := 23) rfl) rfl
theorem kd_Box_0 : decode prog_1_method_1_code 0 = .ok (.aload_n 0, 1) := by decide +kernel
theorem kd_Box_1 : decode prog_1_method_1_code 1 = .ok (.invokespecial 3, 3) := by decide +kernel
theorem kd_Box_4 : decode prog_1_method_1_code 4 = .ok (.aload_n 0, 1) := by decide +kernel
theorem kd_Box_5 : decode prog_1_method_1_code 5 = .ok (.new 9, 3) := by decide +kernel
theorem kd_Box_8 : decode prog_1_method_1_code 8 = .ok (.dup, 1) := by decide +kernel
theorem kd_Box_9 : decode prog_1_method_1_code 9 = .ok (.invokespecial 11, 3) := by decide +kernel
theorem kd_Box_12 : decode prog_1_method_1_code 12 = .ok (.putfield 12, 3) := by decide +kernel
theorem kd_Box_15 : decode prog_1_method_1_code 15 = .ok (.aload_n 0, 1) := by decide +kernel
theorem kd_Box_16 : decode prog_1_method_1_code 16 = .ok (.new 9, 3) := by decide +kernel
theorem kd_Box_19 : decode prog_1_method_1_code 19 = .ok (.dup, 1) := by decide +kernel
theorem kd_Box_20 : decode prog_1_method_1_code 20 = .ok (.invokespecial 11, 3) := by decide +kernel
theorem kd_Box_23 : decode prog_1_method_1_code 23 = .ok (.putfield 18, 3) := by decide +kernel
theorem kd_Box_26 : decode prog_1_method_1_code 26 = .ok (.aload_n 0, 1) := by decide +kernel
theorem kd_Box_27 : decode prog_1_method_1_code 27 = .ok (.bipush 6, 2) := by decide +kernel
theorem kd_Box_29 : decode prog_1_method_1_code 29 = .ok (.anewarray 21, 3) := by decide +kernel
theorem kd_Box_32 : decode prog_1_method_1_code 32 = .ok (.putfield 23, 3) := by decide +kernel
theorem kd_Box_35 : decode prog_1_method_1_code 35 = .ok (.iconst 0, 1) := by decide +kernel
theorem kd_Box_36 : decode prog_1_method_1_code 36 = .ok (.istore_n 1, 1) := by decide +kernel
theorem kd_Box_37 : decode prog_1_method_1_code 37 = .ok (.iload_n 1, 1) := by decide +kernel
theorem kd_Box_38 : decode prog_1_method_1_code 38 = .ok (.bipush 6, 2) := by decide +kernel
theorem kd_Box_40 : decode prog_1_method_1_code 40 = .ok (.if_icmp .ge 22, 3) := by decide +kernel
theorem kd_Box_43 : decode prog_1_method_1_code 43 = .ok (.aload_n 0, 1) := by decide +kernel
theorem kd_Box_44 : decode prog_1_method_1_code 44 = .ok (.getfield 23, 3) := by decide +kernel
theorem kd_Box_47 : decode prog_1_method_1_code 47 = .ok (.iload_n 1, 1) := by decide +kernel
theorem kd_Box_48 : decode prog_1_method_1_code 48 = .ok (.new 21, 3) := by decide +kernel
theorem kd_Box_51 : decode prog_1_method_1_code 51 = .ok (.dup, 1) := by decide +kernel
theorem kd_Box_52 : decode prog_1_method_1_code 52 = .ok (.invokespecial 27, 3) := by decide +kernel
theorem kd_Box_55 : decode prog_1_method_1_code 55 = .ok (.aastore, 1) := by decide +kernel
theorem kd_Box_56 : decode prog_1_method_1_code 56 = .ok (.iinc 1 1, 3) := by decide +kernel
theorem kd_Box_59 : decode prog_1_method_1_code 59 = .ok (.goto (-22), 3) := by decide +kernel
theorem kd_Box_62 : decode prog_1_method_1_code 62 = .ok (.aload_n 0, 1) := by decide +kernel
theorem kd_Box_63 : decode prog_1_method_1_code 63 = .ok (.new 28, 3) := by decide +kernel
theorem kd_Box_66 : decode prog_1_method_1_code 66 = .ok (.dup, 1) := by decide +kernel
theorem kd_Box_67 : decode prog_1_method_1_code 67 = .ok (.invokespecial 30, 3) := by decide +kernel
theorem kd_Box_70 : decode prog_1_method_1_code 70 = .ok (.putfield 31, 3) := by decide +kernel
theorem kd_Box_73 : decode prog_1_method_1_code 73 = .ok (.aload_n 0, 1) := by decide +kernel
theorem kd_Box_74 : decode prog_1_method_1_code 74 = .ok (.new 35, 3) := by decide +kernel
theorem kd_Box_77 : decode prog_1_method_1_code 77 = .ok (.dup, 1) := by decide +kernel
theorem kd_Box_78 : decode prog_1_method_1_code 78 = .ok (.aload_n 0, 1) := by decide +kernel
theorem kd_Box_79 : decode prog_1_method_1_code 79 = .ok (.getfield 12, 3) := by decide +kernel
theorem kd_Box_82 : decode prog_1_method_1_code 82 = .ok (.invokespecial 37, 3) := by decide +kernel
theorem kd_Box_85 : decode prog_1_method_1_code 85 = .ok (.putfield 40, 3) := by decide +kernel
theorem kd_Box_88 : decode prog_1_method_1_code 88 = .ok (.aload_n 0, 1) := by decide +kernel
theorem kd_Box_89 : decode prog_1_method_1_code 89 = .ok (.new 44, 3) := by decide +kernel
theorem kd_Box_92 : decode prog_1_method_1_code 92 = .ok (.dup, 1) := by decide +kernel
theorem kd_Box_93 : decode prog_1_method_1_code 93 = .ok (.invokespecial 46, 3) := by decide +kernel
theorem kd_Box_96 : decode prog_1_method_1_code 96 = .ok (.putfield 47, 3) := by decide +kernel
theorem kd_Box_99 : decode prog_1_method_1_code 99 = .ok (.aload_n 0, 1) := by decide +kernel
theorem kd_Box_100 : decode prog_1_method_1_code 100 = .ok (.bipush 6, 2) := by decide +kernel
theorem kd_Box_102 : decode prog_1_method_1_code 102 = .ok (.anewarray 51, 3) := by decide +kernel
theorem kd_Box_105 : decode prog_1_method_1_code 105 = .ok (.putfield 53, 3) := by decide +kernel
theorem kd_Box_108 : decode prog_1_method_1_code 108 = .ok (.iconst 0, 1) := by decide +kernel
theorem kd_Box_109 : decode prog_1_method_1_code 109 = .ok (.istore_n 1, 1) := by decide +kernel
theorem kd_Box_110 : decode prog_1_method_1_code 110 = .ok (.iload_n 1, 1) := by decide +kernel
theorem kd_Box_111 : decode prog_1_method_1_code 111 = .ok (.bipush 6, 2) := by decide +kernel
theorem kd_Box_113 : decode prog_1_method_1_code 113 = .ok (.if_icmp .ge 22, 3) := by decide +kernel
theorem kd_Box_116 : decode prog_1_method_1_code 116 = .ok (.aload_n 0, 1) := by decide +kernel
theorem kd_Box_117 : decode prog_1_method_1_code 117 = .ok (.getfield 53, 3) := by decide +kernel
theorem kd_Box_120 : decode prog_1_method_1_code 120 = .ok (.iload_n 1, 1) := by decide +kernel
theorem kd_Box_121 : decode prog_1_method_1_code 121 = .ok (.new 51, 3) := by decide +kernel
theorem kd_Box_124 : decode prog_1_method_1_code 124 = .ok (.dup, 1) := by decide +kernel
theorem kd_Box_125 : decode prog_1_method_1_code 125 = .ok (.invokespecial 57, 3) := by decide +kernel
theorem kd_Box_128 : decode prog_1_method_1_code 128 = .ok (.aastore, 1) := by decide +kernel
theorem kd_Box_129 : decode prog_1_method_1_code 129 = .ok (.iinc 1 1, 3) := by decide +kernel
theorem kd_Box_132 : decode prog_1_method_1_code 132 = .ok (.goto (-22), 3) := by decide +kernel
theorem kd_Box_135 : decode prog_1_method_1_code 135 = .ok (.return_, 1) := by decide +kernel
theorem kini_Box : Cond.initialized ky_Box.cls ∈ zgood := zhas_in (i := 72) (by decide +kernel)
theorem kim_Box : Cond.instanceMethod ky_Box ∈ zgood := zhas_in (i := 93) (by decide +kernel)
abbrev kz_Box : List Value := [.null, .null, .int 0, .null, .int 0, .null, .null, .null, .null]
theorem kw95 : Cond.methodLink "BoxHedge" 3 Lib.objectInit ∈ zgood := zhas_in (i := 95) (by decide +kernel)
theorem kw98 : Cond.classLink "BoxHedge" 9 "BoxHedge$Hedge" ∈ zgood := zhas_in (i := 98) (by decide +kernel)
theorem kw350 : Cond.fieldLink "BoxHedge" 12 "BoxHedge" "hedge" "LBoxHedge$Hedge;" ∈ zgood := zhas_in (i := 350) (by decide +kernel)
theorem kw351 : Cond.fieldLink "BoxHedge" 18 "BoxHedge" "picture" "LBoxHedge$Hedge;" ∈ zgood := zhas_in (i := 351) (by decide +kernel)
theorem kw198 : Cond.classLink "BoxHedge" 21 "BoxHedge$Garden" ∈ zgood := zhas_in (i := 198) (by decide +kernel)
theorem kw353 : Cond.fieldLink "BoxHedge" 23 "BoxHedge" "gardens" "[LBoxHedge$Garden;" ∈ zgood := zhas_in (i := 353) (by decide +kernel)
theorem kw200 : Cond.instantiable "BoxHedge$Garden" 8 ∈ zgood := zhas_in (i := 200) (by decide +kernel)
theorem kw77 : Cond.initialized "BoxHedge$Garden" ∈ zgood := zhas_in (i := 77) (by decide +kernel)
theorem kw232 : Cond.classLink "BoxHedge" 28 "BoxHedge$Reader" ∈ zgood := zhas_in (i := 232) (by decide +kernel)
theorem kw233 : Cond.instantiable "BoxHedge$Reader" 4 ∈ zgood := zhas_in (i := 233) (by decide +kernel)
theorem kw78 : Cond.initialized "BoxHedge$Reader" ∈ zgood := zhas_in (i := 78) (by decide +kernel)
theorem kw355 : Cond.fieldLink "BoxHedge" 31 "BoxHedge" "reader" "LBoxHedge$Reader;" ∈ zgood := zhas_in (i := 355) (by decide +kernel)
theorem kw252 : Cond.classLink "BoxHedge" 35 "BoxHedge$Questions" ∈ zgood := zhas_in (i := 252) (by decide +kernel)
theorem kw253 : Cond.instantiable "BoxHedge$Questions" 4 ∈ zgood := zhas_in (i := 253) (by decide +kernel)
theorem kw79 : Cond.initialized "BoxHedge$Questions" ∈ zgood := zhas_in (i := 79) (by decide +kernel)
theorem kw254 : Cond.methodLink "BoxHedge" 37 ky_Qu ∈ zgood := zhas_in (i := 254) (by decide +kernel)
theorem kw356 : Cond.fieldLink "BoxHedge" 40 "BoxHedge" "questions" "LBoxHedge$Questions;" ∈ zgood := zhas_in (i := 356) (by decide +kernel)
theorem kw303 : Cond.classLink "BoxHedge" 44 "BoxHedge$Acts" ∈ zgood := zhas_in (i := 303) (by decide +kernel)
theorem kw304 : Cond.instantiable "BoxHedge$Acts" 5 ∈ zgood := zhas_in (i := 304) (by decide +kernel)
theorem kw81 : Cond.initialized "BoxHedge$Acts" ∈ zgood := zhas_in (i := 81) (by decide +kernel)
theorem kw357 : Cond.fieldLink "BoxHedge" 47 "BoxHedge" "acts" "LBoxHedge$Acts;" ∈ zgood := zhas_in (i := 357) (by decide +kernel)
theorem kw327 : Cond.classLink "BoxHedge" 51 "BoxHedge$Tape" ∈ zgood := zhas_in (i := 327) (by decide +kernel)
theorem kw358 : Cond.fieldLink "BoxHedge" 53 "BoxHedge" "tapes" "[LBoxHedge$Tape;" ∈ zgood := zhas_in (i := 358) (by decide +kernel)
theorem kw329 : Cond.instantiable "BoxHedge$Tape" 3 ∈ zgood := zhas_in (i := 329) (by decide +kernel)
theorem kw82 : Cond.initialized "BoxHedge$Tape" ∈ zgood := zhas_in (i := 82) (by decide +kernel)
def kw_Qu (cA : Nat → ClassId) (hh : Nat) (a : Nat → Nat) : va_W := (a 0, .inr (4, [.ref hh, .ref (a 1), .ref (a 13), .ref (a 19)])) :: (kw_Hedge cA (fun i => a (1 + i)) ++ (kw_Hearing cA (fun i => a (13 + i)) ++ ([(a 19, .inl (cA 0, (64, .inl fun _ => 0)))])))
set_option maxHeartbeats 4000000 in
set_option maxRecDepth 100000 in
theorem k_Qu (l : Launch) (base : Nat) (ad : Nat → Nat) (w : Value) (tb : Nat → Nat → Int32) (D : va_G) (cA : Nat → ClassId) (hh : Nat) : kMet l base ad w tb D cA 4 kz_Qu ky_Qu prog_6_method_1_code 2 [.ref hh] 4 170 19 256 (kw_Qu cA hh) := by
  intro h0 sz
  refine Met.ofW (cc := prog_6_method_1_code) (maxL := 2) (ret := none) (by decide) rfl ?_
  intro p e s m args below meth c s₁ B hml hv
  obtain ⟨rfl, X, S, hr, hlocks, hin⟩ := kstart B hml hv
  have X : kEn p s m ([.ref h0, .ref hh] : List Value).toArray c prog_6_method_1_code 2 "BoxHedge$Questions" base ad w tb D cA (va_A [(h0, .inr (4, kz_Qu))] sz) := X
  have hx := X.1.1
  have hb := X.1.2.1
  have hl := lv_entry ([.ref h0, .ref hh]) (n := 2) (Nat.le_of_ble_eq_true rfl)
  rw [lg_entry_eq]
  generalize (lg_sl ([.ref h0, .ref hh]) ++ List.replicate (2 - (lg_sl ([.ref h0, .ref hh])).length) Slot.unset).toArray = ls at hl ⊢
  have hl : lv_has ls 2 [(0, .ref h0), (1, .ref hh)] := hl
  change W p l e _ s m _ below meth c s.heap [] 0 0 _ _
  refine lv_aload_n hx hb kd_Qu_0 rfl (lv_at hl 0 rfl) ?_
  refine kn_obj X kw257 kw96 kw97 hl.1 kd_Qu_1 (Nat.le_of_ble_eq_true rfl) (Nat.le_of_ble_eq_true rfl) ?_
  refine lv_aload_n hx hb kd_Qu_4 rfl (lv_at hl 0 rfl) ?_
  refine kn_new X zlay_3 tyX3 tyX3_ok kw258 kw99 kw73 (ci := 3) rfl S (fs := kz_Hedge) rfl (Nat.le_of_ble_eq_true rfl) (Nat.le_of_ble_eq_true rfl) kd_Qu_5 (fun q1 H S => ?_)
  refine lv_dup hx hb kd_Qu_8 rfl ?_
  refine kn_callNh (q := q1) (as := []) (rest := [.ref q1, .ref h0]) X (k_Hedge l base ad w tb D cA) kcd_Hedge kini_Hedge (List.mem_of_getElem? (i := 5) rfl) kim_Hedge rfl ⟨by decide, by decide, rfl⟩ ⟨(Nat.le_of_ble_eq_true rfl), (Nat.le_of_ble_eq_true rfl)⟩ S hl.1 (Nat.le_of_ble_eq_true rfl) kd_Qu_9 ⟨(Nat.le_of_ble_eq_true rfl), (Nat.le_of_ble_eq_true rfl)⟩ (fun a1 H locs ea T => ?_)
  subst ea
  have S := T
  clear T
  refine kn_putF X hin zlay_4 tyX4 tyX4_ok nmX4 (ci := 4) (v := .ref (a1 0)) rfl S 1 (by decide) kw291 rfl rfl rfl rfl (Nat.le_of_ble_eq_true rfl) kd_Qu_12 (fun H locs S => ?_)
  refine lv_aload_n hx hb kd_Qu_15 rfl (lv_at hl 0 rfl) ?_
  refine kn_new X zlay_2 tyX2 tyX2_ok kw260 kw261 kw80 (ci := 2) rfl S (fs := kz_Hearing) rfl (Nat.le_of_ble_eq_true rfl) (Nat.le_of_ble_eq_true rfl) kd_Qu_16 (fun q13 H S => ?_)
  refine lv_dup hx hb kd_Qu_19 rfl ?_
  refine kn_callNh (q := q13) (as := []) (rest := [.ref q13, .ref h0]) X (k_Hearing l base ad w tb D cA) kcd_Hearing kini_Hearing (List.mem_of_getElem? (i := 6) rfl) kim_Hearing rfl ⟨by decide, by decide, rfl⟩ ⟨(Nat.le_of_ble_eq_true rfl), (Nat.le_of_ble_eq_true rfl)⟩ S hl.1 (Nat.le_of_ble_eq_true rfl) kd_Qu_20 ⟨(Nat.le_of_ble_eq_true rfl), (Nat.le_of_ble_eq_true rfl)⟩ (fun a13 H locs ea T => ?_)
  subst ea
  have S := T
  clear T
  refine kn_putF X hin zlay_4 tyX4 tyX4_ok nmX4 (ci := 4) (v := .ref (a13 0)) rfl S 2 (by decide) kw292 rfl rfl rfl rfl (Nat.le_of_ble_eq_true rfl) kd_Qu_23 (fun H locs S => ?_)
  refine lv_aload_n hx hb kd_Qu_26 rfl (lv_at hl 0 rfl) ?_
  refine lv_bipush (v := 64) hx hb kd_Qu_27 (by decide) ?_
  refine kn_newa X 0 (ty := .int) (a0 := (64, .inl fun _ => 0)) (N := 64) rfl kw125 rfl (fun _ _ h => h) S (fun _ => rfl) (by decide) (by decide) (Nat.le_of_ble_eq_true rfl) (Nat.le_of_ble_eq_true rfl) (Nat.le_of_ble_eq_true rfl) kd_Qu_29 (fun q19 H S => ?_)
  refine kn_putF X hin zlay_4 tyX4 tyX4_ok nmX4 (ci := 4) (v := .ref q19) rfl S 3 (by decide) kw293 rfl rfl rfl rfl (Nat.le_of_ble_eq_true rfl) kd_Qu_31 (fun H locs S => ?_)
  refine lv_aload_n hx hb kd_Qu_34 rfl (lv_at hl 0 rfl) ?_
  refine lv_aload_n hx hb kd_Qu_35 rfl (lv_at hl 1 rfl) ?_
  refine kn_putF X hin zlay_4 tyX4 tyX4_ok nmX4 (ci := 4) (v := .ref hh) rfl S 0 (by decide) kw290 rfl rfl rfl rfl (Nat.le_of_ble_eq_true rfl) kd_Qu_36 (fun H locs S => ?_)
  exact kn_retE X hr hlocks rfl S (fun i => zln [h0, a1 0, a1 1, a1 2, a1 3, a1 4, a1 5, a1 6, a1 7, a1 8, a1 9, a1 10, a1 11, a13 0, a13 1, a13 2, a13 3, a13 4, a13 5, q19] i) rfl rfl (Nat.le_of_ble_eq_true rfl) (Nat.le_of_ble_eq_true rfl) kd_Qu_39
def kw_Box (cA : Nat → ClassId) (a : Nat → Nat) : va_W := (a 0, .inr (8, [.ref (a 1), .ref (a 13), .int 0, .ref (a 25), .int 0, .ref (a 56), .ref (a 58), .ref (a 78), .ref (a 80)])) :: (kw_Hedge cA (fun i => a (1 + i)) ++ (kw_Hedge cA (fun i => a (13 + i)) ++ ([(a 25, .inl (cA 3, 6, .inr (.inr (.inr (.inr (fun j => some (zln [a 26, a 31, a 36, a 41, a 46, a 51] j)))))))] ++ (kw_Garden cA (fun i => a (26 + i)) ++ (kw_Garden cA (fun i => a (31 + i)) ++ (kw_Garden cA (fun i => a (36 + i)) ++ (kw_Garden cA (fun i => a (41 + i)) ++ (kw_Garden cA (fun i => a (46 + i)) ++ (kw_Garden cA (fun i => a (51 + i)) ++ (kw_Reader cA (fun i => a (56 + i)) ++ (kw_Qu cA (a 1) (fun i => a (58 + i)) ++ (kw_Acts cA (fun i => a (78 + i)) ++ ([(a 80, .inl (cA 4, 6, .inr (.inr (.inr (.inr (fun j => some (zln [a 81, a 83, a 85, a 87, a 89, a 91] j)))))))] ++ (kw_Tape cA (fun i => a (81 + i)) ++ (kw_Tape cA (fun i => a (83 + i)) ++ (kw_Tape cA (fun i => a (85 + i)) ++ (kw_Tape cA (fun i => a (87 + i)) ++ (kw_Tape cA (fun i => a (89 + i)) ++ (kw_Tape cA (fun i => a (91 + i)))))))))))))))))))))
set_option maxHeartbeats 4000000 in
set_option maxRecDepth 100000 in
theorem k_Box (l : Launch) (base : Nat) (ad : Nat → Nat) (w : Value) (tb : Nat → Nat → Int32) (D : va_G) (cA : Nat → ClassId) : kMet l base ad w tb D cA 8 kz_Box ky_Box prog_1_method_1_code 2 [] 5 230 92 1899 (kw_Box cA) := by
  intro h0 sz
  refine Met.ofW (cc := prog_1_method_1_code) (maxL := 2) (ret := none) (by decide) rfl ?_
  intro p e s m args below meth c s₁ B hml hv
  obtain ⟨rfl, X, S, hr, hlocks, hin⟩ := kstart B hml hv
  have X : kEn p s m ([.ref h0] : List Value).toArray c prog_1_method_1_code 2 "BoxHedge" base ad w tb D cA (va_A [(h0, .inr (8, kz_Box))] sz) := X
  have hx := X.1.1
  have hb := X.1.2.1
  have hl := lv_entry ([.ref h0]) (n := 2) (Nat.le_of_ble_eq_true rfl)
  rw [lg_entry_eq]
  generalize (lg_sl ([.ref h0]) ++ List.replicate (2 - (lg_sl ([.ref h0])).length) Slot.unset).toArray = ls at hl ⊢
  have hl : lv_has ls 2 [(0, .ref h0)] := hl
  change W p l e _ s m _ below meth c s.heap [] 0 0 _ _
  refine lv_aload_n hx hb kd_Box_0 rfl (lv_at hl 0 rfl) ?_
  refine kn_obj X kw95 kw96 kw97 hl.1 kd_Box_1 (Nat.le_of_ble_eq_true rfl) (Nat.le_of_ble_eq_true rfl) ?_
  refine lv_aload_n hx hb kd_Box_4 rfl (lv_at hl 0 rfl) ?_
  refine kn_new X zlay_3 tyX3 tyX3_ok kw98 kw99 kw73 (ci := 3) rfl S (fs := kz_Hedge) rfl (Nat.le_of_ble_eq_true rfl) (Nat.le_of_ble_eq_true rfl) kd_Box_5 (fun q1 H S => ?_)
  refine lv_dup hx hb kd_Box_8 rfl ?_
  refine kn_callNh (q := q1) (as := []) (rest := [.ref q1, .ref h0]) X (k_Hedge l base ad w tb D cA) kcd_Hedge kini_Hedge (List.mem_of_getElem? (i := 0) rfl) kim_Hedge rfl ⟨by decide, by decide, rfl⟩ ⟨(Nat.le_of_ble_eq_true rfl), (Nat.le_of_ble_eq_true rfl)⟩ S hl.1 (Nat.le_of_ble_eq_true rfl) kd_Box_9 ⟨(Nat.le_of_ble_eq_true rfl), (Nat.le_of_ble_eq_true rfl)⟩ (fun a1 H locs ea T => ?_)
  subst ea
  have S := T
  clear T
  refine kn_putF X hin zlay_8 tyX8 tyX8_ok nmX8 (ci := 8) (v := .ref (a1 0)) rfl S 0 (by decide) kw350 rfl rfl rfl rfl (Nat.le_of_ble_eq_true rfl) kd_Box_12 (fun H locs S => ?_)
  refine lv_aload_n hx hb kd_Box_15 rfl (lv_at hl 0 rfl) ?_
  refine kn_new X zlay_3 tyX3 tyX3_ok kw98 kw99 kw73 (ci := 3) rfl S (fs := kz_Hedge) rfl (Nat.le_of_ble_eq_true rfl) (Nat.le_of_ble_eq_true rfl) kd_Box_16 (fun q13 H S => ?_)
  refine lv_dup hx hb kd_Box_19 rfl ?_
  refine kn_callNh (q := q13) (as := []) (rest := [.ref q13, .ref h0]) X (k_Hedge l base ad w tb D cA) kcd_Hedge kini_Hedge (List.mem_of_getElem? (i := 0) rfl) kim_Hedge rfl ⟨by decide, by decide, rfl⟩ ⟨(Nat.le_of_ble_eq_true rfl), (Nat.le_of_ble_eq_true rfl)⟩ S hl.1 (Nat.le_of_ble_eq_true rfl) kd_Box_20 ⟨(Nat.le_of_ble_eq_true rfl), (Nat.le_of_ble_eq_true rfl)⟩ (fun a13 H locs ea T => ?_)
  subst ea
  have S := T
  clear T
  refine kn_putF X hin zlay_8 tyX8 tyX8_ok nmX8 (ci := 8) (v := .ref (a13 0)) rfl S 1 (by decide) kw351 rfl rfl rfl rfl (Nat.le_of_ble_eq_true rfl) kd_Box_23 (fun H locs S => ?_)
  refine lv_aload_n hx hb kd_Box_26 rfl (lv_at hl 0 rfl) ?_
  refine lv_bipush (v := 6) hx hb kd_Box_27 (by decide) ?_
  refine kn_newq X 3 (C := "BoxHedge$Garden") (N := 6) kw198 X.2.2.2.2.1.2.1 rfl S (by decide) (by decide) (Nat.le_of_ble_eq_true rfl) (Nat.le_of_ble_eq_true rfl) (Nat.le_of_ble_eq_true rfl) kd_Box_29 (fun q25 H S => ?_)
  refine kn_putF X hin zlay_8 tyX8 tyX8_ok nmX8 (ci := 8) (v := .ref q25) rfl S 3 (by decide) kw353 rfl rfl rfl rfl (Nat.le_of_ble_eq_true rfl) kd_Box_32 (fun H locs S => ?_)
  refine lv_iconst (v := 0) hx hb kd_Box_35 (by decide) ?_
  refine lv_istore_n (lv' := [(1, .int 0), (0, .ref h0)]) hx hb kd_Box_36 rfl hl (by decide) rfl (fun ls hl => ?_)
  refine lv_iload_n hx hb kd_Box_37 rfl (lv_at hl 0 rfl) ?_
  refine lv_bipush (v := 6) hx hb kd_Box_38 (by decide) ?_
  refine lv_icmp_ge (tgt := 62) hx hb kd_Box_40 (by decide) (fun z => absurd z (by decide)) (fun _ => ?_)
  refine lv_aload_n hx hb kd_Box_43 rfl (lv_at hl 1 rfl) ?_
  refine kn_get X zlay_8 (ci := 8) (C := RX8) (T := TX8) (N := 9) rfl S 3 (by decide) kw353 (v := .ref q25) rfl kd_Box_44 ?_
  refine lv_iload_n hx hb kd_Box_47 rfl (lv_at hl 0 rfl) ?_
  refine kn_new X zlay_1 tyX1 tyX1_ok kw198 kw200 kw77 (ci := 1) rfl S (fs := kz_Garden) rfl (Nat.le_of_ble_eq_true rfl) (Nat.le_of_ble_eq_true rfl) kd_Box_48 (fun q26 H S => ?_)
  refine lv_dup hx hb kd_Box_51 rfl ?_
  refine kn_callNh (q := q26) (as := []) (rest := [.ref q26, .int 0, .ref q25]) X (k_Garden l base ad w tb D cA) kcd_Garden kini_Garden (List.mem_of_getElem? (i := 1) rfl) kim_Garden rfl ⟨by decide, by decide, rfl⟩ ⟨(Nat.le_of_ble_eq_true rfl), (Nat.le_of_ble_eq_true rfl)⟩ S hl.1 (Nat.le_of_ble_eq_true rfl) kd_Box_52 ⟨(Nat.le_of_ble_eq_true rfl), (Nat.le_of_ble_eq_true rfl)⟩ (fun a26 H locs ea T => ?_)
  subst ea
  have S := T
  clear T
  refine kn_astqE X 3 1 (r := (RX1, TX1, 8)) S rfl rfl (by unfold vp_in; decide) kd_Box_55 (fun H locs S => ?_)
  refine lv_iinc (k := 0) (v := 1) (lv' := [(1, .int 1), (0, .ref h0)]) hx hb kd_Box_56 hl rfl (by decide) (by decide) rfl (fun ls hl => ?_)
  refine lv_goto (tgt := 37) hx hb kd_Box_59 (by decide) ?_
  refine lv_iload_n hx hb kd_Box_37 rfl (lv_at hl 0 rfl) ?_
  refine lv_bipush (v := 6) hx hb kd_Box_38 (by decide) ?_
  refine lv_icmp_ge (tgt := 62) hx hb kd_Box_40 (by decide) (fun z => absurd z (by decide)) (fun _ => ?_)
  refine lv_aload_n hx hb kd_Box_43 rfl (lv_at hl 1 rfl) ?_
  refine kn_get X zlay_8 (ci := 8) (C := RX8) (T := TX8) (N := 9) rfl S 3 (by decide) kw353 (v := .ref q25) rfl kd_Box_44 ?_
  refine lv_iload_n hx hb kd_Box_47 rfl (lv_at hl 0 rfl) ?_
  refine kn_new X zlay_1 tyX1 tyX1_ok kw198 kw200 kw77 (ci := 1) rfl S (fs := kz_Garden) rfl (Nat.le_of_ble_eq_true rfl) (Nat.le_of_ble_eq_true rfl) kd_Box_48 (fun q31 H S => ?_)
  refine lv_dup hx hb kd_Box_51 rfl ?_
  refine kn_callNh (q := q31) (as := []) (rest := [.ref q31, .int 1, .ref q25]) X (k_Garden l base ad w tb D cA) kcd_Garden kini_Garden (List.mem_of_getElem? (i := 1) rfl) kim_Garden rfl ⟨by decide, by decide, rfl⟩ ⟨(Nat.le_of_ble_eq_true rfl), (Nat.le_of_ble_eq_true rfl)⟩ S hl.1 (Nat.le_of_ble_eq_true rfl) kd_Box_52 ⟨(Nat.le_of_ble_eq_true rfl), (Nat.le_of_ble_eq_true rfl)⟩ (fun a31 H locs ea T => ?_)
  subst ea
  have S := T
  clear T
  refine kn_astqE X 3 1 (r := (RX1, TX1, 8)) S rfl rfl (by unfold vp_in; decide) kd_Box_55 (fun H locs S => ?_)
  refine lv_iinc (k := 0) (v := 2) (lv' := [(1, .int 2), (0, .ref h0)]) hx hb kd_Box_56 hl rfl (by decide) (by decide) rfl (fun ls hl => ?_)
  refine lv_goto (tgt := 37) hx hb kd_Box_59 (by decide) ?_
  refine lv_iload_n hx hb kd_Box_37 rfl (lv_at hl 0 rfl) ?_
  refine lv_bipush (v := 6) hx hb kd_Box_38 (by decide) ?_
  refine lv_icmp_ge (tgt := 62) hx hb kd_Box_40 (by decide) (fun z => absurd z (by decide)) (fun _ => ?_)
  refine lv_aload_n hx hb kd_Box_43 rfl (lv_at hl 1 rfl) ?_
  refine kn_get X zlay_8 (ci := 8) (C := RX8) (T := TX8) (N := 9) rfl S 3 (by decide) kw353 (v := .ref q25) rfl kd_Box_44 ?_
  refine lv_iload_n hx hb kd_Box_47 rfl (lv_at hl 0 rfl) ?_
  refine kn_new X zlay_1 tyX1 tyX1_ok kw198 kw200 kw77 (ci := 1) rfl S (fs := kz_Garden) rfl (Nat.le_of_ble_eq_true rfl) (Nat.le_of_ble_eq_true rfl) kd_Box_48 (fun q36 H S => ?_)
  refine lv_dup hx hb kd_Box_51 rfl ?_
  refine kn_callNh (q := q36) (as := []) (rest := [.ref q36, .int 2, .ref q25]) X (k_Garden l base ad w tb D cA) kcd_Garden kini_Garden (List.mem_of_getElem? (i := 1) rfl) kim_Garden rfl ⟨by decide, by decide, rfl⟩ ⟨(Nat.le_of_ble_eq_true rfl), (Nat.le_of_ble_eq_true rfl)⟩ S hl.1 (Nat.le_of_ble_eq_true rfl) kd_Box_52 ⟨(Nat.le_of_ble_eq_true rfl), (Nat.le_of_ble_eq_true rfl)⟩ (fun a36 H locs ea T => ?_)
  subst ea
  have S := T
  clear T
  refine kn_astqE X 3 1 (r := (RX1, TX1, 8)) S rfl rfl (by unfold vp_in; decide) kd_Box_55 (fun H locs S => ?_)
  refine lv_iinc (k := 0) (v := 3) (lv' := [(1, .int 3), (0, .ref h0)]) hx hb kd_Box_56 hl rfl (by decide) (by decide) rfl (fun ls hl => ?_)
  refine lv_goto (tgt := 37) hx hb kd_Box_59 (by decide) ?_
  refine lv_iload_n hx hb kd_Box_37 rfl (lv_at hl 0 rfl) ?_
  refine lv_bipush (v := 6) hx hb kd_Box_38 (by decide) ?_
  refine lv_icmp_ge (tgt := 62) hx hb kd_Box_40 (by decide) (fun z => absurd z (by decide)) (fun _ => ?_)
  refine lv_aload_n hx hb kd_Box_43 rfl (lv_at hl 1 rfl) ?_
  refine kn_get X zlay_8 (ci := 8) (C := RX8) (T := TX8) (N := 9) rfl S 3 (by decide) kw353 (v := .ref q25) rfl kd_Box_44 ?_
  refine lv_iload_n hx hb kd_Box_47 rfl (lv_at hl 0 rfl) ?_
  refine kn_new X zlay_1 tyX1 tyX1_ok kw198 kw200 kw77 (ci := 1) rfl S (fs := kz_Garden) rfl (Nat.le_of_ble_eq_true rfl) (Nat.le_of_ble_eq_true rfl) kd_Box_48 (fun q41 H S => ?_)
  refine lv_dup hx hb kd_Box_51 rfl ?_
  refine kn_callNh (q := q41) (as := []) (rest := [.ref q41, .int 3, .ref q25]) X (k_Garden l base ad w tb D cA) kcd_Garden kini_Garden (List.mem_of_getElem? (i := 1) rfl) kim_Garden rfl ⟨by decide, by decide, rfl⟩ ⟨(Nat.le_of_ble_eq_true rfl), (Nat.le_of_ble_eq_true rfl)⟩ S hl.1 (Nat.le_of_ble_eq_true rfl) kd_Box_52 ⟨(Nat.le_of_ble_eq_true rfl), (Nat.le_of_ble_eq_true rfl)⟩ (fun a41 H locs ea T => ?_)
  subst ea
  have S := T
  clear T
  refine kn_astqE X 3 1 (r := (RX1, TX1, 8)) S rfl rfl (by unfold vp_in; decide) kd_Box_55 (fun H locs S => ?_)
  refine lv_iinc (k := 0) (v := 4) (lv' := [(1, .int 4), (0, .ref h0)]) hx hb kd_Box_56 hl rfl (by decide) (by decide) rfl (fun ls hl => ?_)
  refine lv_goto (tgt := 37) hx hb kd_Box_59 (by decide) ?_
  refine lv_iload_n hx hb kd_Box_37 rfl (lv_at hl 0 rfl) ?_
  refine lv_bipush (v := 6) hx hb kd_Box_38 (by decide) ?_
  refine lv_icmp_ge (tgt := 62) hx hb kd_Box_40 (by decide) (fun z => absurd z (by decide)) (fun _ => ?_)
  refine lv_aload_n hx hb kd_Box_43 rfl (lv_at hl 1 rfl) ?_
  refine kn_get X zlay_8 (ci := 8) (C := RX8) (T := TX8) (N := 9) rfl S 3 (by decide) kw353 (v := .ref q25) rfl kd_Box_44 ?_
  refine lv_iload_n hx hb kd_Box_47 rfl (lv_at hl 0 rfl) ?_
  refine kn_new X zlay_1 tyX1 tyX1_ok kw198 kw200 kw77 (ci := 1) rfl S (fs := kz_Garden) rfl (Nat.le_of_ble_eq_true rfl) (Nat.le_of_ble_eq_true rfl) kd_Box_48 (fun q46 H S => ?_)
  refine lv_dup hx hb kd_Box_51 rfl ?_
  refine kn_callNh (q := q46) (as := []) (rest := [.ref q46, .int 4, .ref q25]) X (k_Garden l base ad w tb D cA) kcd_Garden kini_Garden (List.mem_of_getElem? (i := 1) rfl) kim_Garden rfl ⟨by decide, by decide, rfl⟩ ⟨(Nat.le_of_ble_eq_true rfl), (Nat.le_of_ble_eq_true rfl)⟩ S hl.1 (Nat.le_of_ble_eq_true rfl) kd_Box_52 ⟨(Nat.le_of_ble_eq_true rfl), (Nat.le_of_ble_eq_true rfl)⟩ (fun a46 H locs ea T => ?_)
  subst ea
  have S := T
  clear T
  refine kn_astqE X 3 1 (r := (RX1, TX1, 8)) S rfl rfl (by unfold vp_in; decide) kd_Box_55 (fun H locs S => ?_)
  refine lv_iinc (k := 0) (v := 5) (lv' := [(1, .int 5), (0, .ref h0)]) hx hb kd_Box_56 hl rfl (by decide) (by decide) rfl (fun ls hl => ?_)
  refine lv_goto (tgt := 37) hx hb kd_Box_59 (by decide) ?_
  refine lv_iload_n hx hb kd_Box_37 rfl (lv_at hl 0 rfl) ?_
  refine lv_bipush (v := 6) hx hb kd_Box_38 (by decide) ?_
  refine lv_icmp_ge (tgt := 62) hx hb kd_Box_40 (by decide) (fun z => absurd z (by decide)) (fun _ => ?_)
  refine lv_aload_n hx hb kd_Box_43 rfl (lv_at hl 1 rfl) ?_
  refine kn_get X zlay_8 (ci := 8) (C := RX8) (T := TX8) (N := 9) rfl S 3 (by decide) kw353 (v := .ref q25) rfl kd_Box_44 ?_
  refine lv_iload_n hx hb kd_Box_47 rfl (lv_at hl 0 rfl) ?_
  refine kn_new X zlay_1 tyX1 tyX1_ok kw198 kw200 kw77 (ci := 1) rfl S (fs := kz_Garden) rfl (Nat.le_of_ble_eq_true rfl) (Nat.le_of_ble_eq_true rfl) kd_Box_48 (fun q51 H S => ?_)
  refine lv_dup hx hb kd_Box_51 rfl ?_
  refine kn_callNh (q := q51) (as := []) (rest := [.ref q51, .int 5, .ref q25]) X (k_Garden l base ad w tb D cA) kcd_Garden kini_Garden (List.mem_of_getElem? (i := 1) rfl) kim_Garden rfl ⟨by decide, by decide, rfl⟩ ⟨(Nat.le_of_ble_eq_true rfl), (Nat.le_of_ble_eq_true rfl)⟩ S hl.1 (Nat.le_of_ble_eq_true rfl) kd_Box_52 ⟨(Nat.le_of_ble_eq_true rfl), (Nat.le_of_ble_eq_true rfl)⟩ (fun a51 H locs ea T => ?_)
  subst ea
  have S := T
  clear T
  refine kn_astqE X 3 1 (r := (RX1, TX1, 8)) S rfl rfl (by unfold vp_in; decide) kd_Box_55 (fun H locs S => ?_)
  have S := kn_convR S (fun j => some (zln [a26 0, a31 0, a36 0, a41 0, a46 0, a51 0] j)) (fun j hj => by rcases (show j = 0 ∨ j = 1 ∨ j = 2 ∨ j = 3 ∨ j = 4 ∨ j = 5 by omega) with rfl | rfl | rfl | rfl | rfl | rfl <;> rfl)
  refine lv_iinc (k := 0) (v := 6) (lv' := [(1, .int 6), (0, .ref h0)]) hx hb kd_Box_56 hl rfl (by decide) (by decide) rfl (fun ls hl => ?_)
  refine lv_goto (tgt := 37) hx hb kd_Box_59 (by decide) ?_
  refine lv_iload_n hx hb kd_Box_37 rfl (lv_at hl 0 rfl) ?_
  refine lv_bipush (v := 6) hx hb kd_Box_38 (by decide) ?_
  refine lv_icmp_ge (tgt := 62) hx hb kd_Box_40 (by decide) (fun _ => ?_) (fun z => absurd (by decide) z)
  refine lv_aload_n hx hb kd_Box_62 rfl (lv_at hl 1 rfl) ?_
  refine kn_new X zlay_5 tyX5 tyX5_ok kw232 kw233 kw78 (ci := 5) rfl S (fs := kz_Reader) rfl (Nat.le_of_ble_eq_true rfl) (Nat.le_of_ble_eq_true rfl) kd_Box_63 (fun q56 H S => ?_)
  refine lv_dup hx hb kd_Box_66 rfl ?_
  refine kn_callNh (q := q56) (as := []) (rest := [.ref q56, .ref h0]) X (k_Reader l base ad w tb D cA) kcd_Reader kini_Reader (List.mem_of_getElem? (i := 2) rfl) kim_Reader rfl ⟨by decide, by decide, rfl⟩ ⟨(Nat.le_of_ble_eq_true rfl), (Nat.le_of_ble_eq_true rfl)⟩ S hl.1 (Nat.le_of_ble_eq_true rfl) kd_Box_67 ⟨(Nat.le_of_ble_eq_true rfl), (Nat.le_of_ble_eq_true rfl)⟩ (fun a56 H locs ea T => ?_)
  subst ea
  have S := T
  clear T
  refine kn_putF X hin zlay_8 tyX8 tyX8_ok nmX8 (ci := 8) (v := .ref (a56 0)) rfl S 5 (by decide) kw355 rfl rfl rfl rfl (Nat.le_of_ble_eq_true rfl) kd_Box_70 (fun H locs S => ?_)
  refine lv_aload_n hx hb kd_Box_73 rfl (lv_at hl 1 rfl) ?_
  refine kn_new X zlay_4 tyX4 tyX4_ok kw252 kw253 kw79 (ci := 4) rfl S (fs := kz_Qu) rfl (Nat.le_of_ble_eq_true rfl) (Nat.le_of_ble_eq_true rfl) kd_Box_74 (fun q58 H S => ?_)
  refine lv_dup hx hb kd_Box_77 rfl ?_
  refine lv_aload_n hx hb kd_Box_78 rfl (lv_at hl 1 rfl) ?_
  refine kn_get X zlay_8 (ci := 8) (C := RX8) (T := TX8) (N := 9) rfl S 0 (by decide) kw350 (v := .ref (a1 0)) rfl kd_Box_79 ?_
  refine kn_callIh (q := q58) (as := [.ref (a1 0)]) (rest := [.ref q58, .ref h0]) X (k_Qu l base ad w tb D cA (a1 0)) kcd_Qu kini_Qu kw254 kim_Qu rfl ⟨by decide, by decide, rfl⟩ ⟨(Nat.le_of_ble_eq_true rfl), (Nat.le_of_ble_eq_true rfl)⟩ S hl.1 (Nat.le_of_ble_eq_true rfl) kd_Box_82 ⟨(Nat.le_of_ble_eq_true rfl), (Nat.le_of_ble_eq_true rfl)⟩ (fun a58 H locs ea T => ?_)
  subst ea
  have S := T
  clear T
  refine kn_putF X hin zlay_8 tyX8 tyX8_ok nmX8 (ci := 8) (v := .ref (a58 0)) rfl S 6 (by decide) kw356 rfl rfl rfl rfl (Nat.le_of_ble_eq_true rfl) kd_Box_85 (fun H locs S => ?_)
  refine lv_aload_n hx hb kd_Box_88 rfl (lv_at hl 1 rfl) ?_
  refine kn_new X zlay_0 tyX0 tyX0_ok kw303 kw304 kw81 (ci := 0) rfl S (fs := kz_Acts) rfl (Nat.le_of_ble_eq_true rfl) (Nat.le_of_ble_eq_true rfl) kd_Box_89 (fun q78 H S => ?_)
  refine lv_dup hx hb kd_Box_92 rfl ?_
  refine kn_callNh (q := q78) (as := []) (rest := [.ref q78, .ref h0]) X (k_Acts l base ad w tb D cA) kcd_Acts kini_Acts (List.mem_of_getElem? (i := 3) rfl) kim_Acts rfl ⟨by decide, by decide, rfl⟩ ⟨(Nat.le_of_ble_eq_true rfl), (Nat.le_of_ble_eq_true rfl)⟩ S hl.1 (Nat.le_of_ble_eq_true rfl) kd_Box_93 ⟨(Nat.le_of_ble_eq_true rfl), (Nat.le_of_ble_eq_true rfl)⟩ (fun a78 H locs ea T => ?_)
  subst ea
  have S := T
  clear T
  refine kn_putF X hin zlay_8 tyX8 tyX8_ok nmX8 (ci := 8) (v := .ref (a78 0)) rfl S 7 (by decide) kw357 rfl rfl rfl rfl (Nat.le_of_ble_eq_true rfl) kd_Box_96 (fun H locs S => ?_)
  refine lv_aload_n hx hb kd_Box_99 rfl (lv_at hl 1 rfl) ?_
  refine lv_bipush (v := 6) hx hb kd_Box_100 (by decide) ?_
  refine kn_newq X 4 (C := "BoxHedge$Tape") (N := 6) kw327 X.2.2.2.2.1.2.2 rfl S (by decide) (by decide) (Nat.le_of_ble_eq_true rfl) (Nat.le_of_ble_eq_true rfl) (Nat.le_of_ble_eq_true rfl) kd_Box_102 (fun q80 H S => ?_)
  refine kn_putF X hin zlay_8 tyX8 tyX8_ok nmX8 (ci := 8) (v := .ref q80) rfl S 8 (by decide) kw358 rfl rfl rfl rfl (Nat.le_of_ble_eq_true rfl) kd_Box_105 (fun H locs S => ?_)
  refine lv_iconst (v := 0) hx hb kd_Box_108 (by decide) ?_
  refine lv_istore_n (lv' := [(1, .int 0), (0, .ref h0)]) hx hb kd_Box_109 rfl hl (by decide) rfl (fun ls hl => ?_)
  refine lv_iload_n hx hb kd_Box_110 rfl (lv_at hl 0 rfl) ?_
  refine lv_bipush (v := 6) hx hb kd_Box_111 (by decide) ?_
  refine lv_icmp_ge (tgt := 135) hx hb kd_Box_113 (by decide) (fun z => absurd z (by decide)) (fun _ => ?_)
  refine lv_aload_n hx hb kd_Box_116 rfl (lv_at hl 1 rfl) ?_
  refine kn_get X zlay_8 (ci := 8) (C := RX8) (T := TX8) (N := 9) rfl S 8 (by decide) kw358 (v := .ref q80) rfl kd_Box_117 ?_
  refine lv_iload_n hx hb kd_Box_120 rfl (lv_at hl 0 rfl) ?_
  refine kn_new X zlay_7 tyX7 tyX7_ok kw327 kw329 kw82 (ci := 7) rfl S (fs := kz_Tape) rfl (Nat.le_of_ble_eq_true rfl) (Nat.le_of_ble_eq_true rfl) kd_Box_121 (fun q81 H S => ?_)
  refine lv_dup hx hb kd_Box_124 rfl ?_
  refine kn_callNh (q := q81) (as := []) (rest := [.ref q81, .int 0, .ref q80]) X (k_Tape l base ad w tb D cA) kcd_Tape kini_Tape (List.mem_of_getElem? (i := 4) rfl) kim_Tape rfl ⟨by decide, by decide, rfl⟩ ⟨(Nat.le_of_ble_eq_true rfl), (Nat.le_of_ble_eq_true rfl)⟩ S hl.1 (Nat.le_of_ble_eq_true rfl) kd_Box_125 ⟨(Nat.le_of_ble_eq_true rfl), (Nat.le_of_ble_eq_true rfl)⟩ (fun a81 H locs ea T => ?_)
  subst ea
  have S := T
  clear T
  refine kn_astqE X 4 7 (r := (RX7, TX7, 3)) S rfl rfl (by unfold vp_in; decide) kd_Box_128 (fun H locs S => ?_)
  refine lv_iinc (k := 0) (v := 1) (lv' := [(1, .int 1), (0, .ref h0)]) hx hb kd_Box_129 hl rfl (by decide) (by decide) rfl (fun ls hl => ?_)
  refine lv_goto (tgt := 110) hx hb kd_Box_132 (by decide) ?_
  refine lv_iload_n hx hb kd_Box_110 rfl (lv_at hl 0 rfl) ?_
  refine lv_bipush (v := 6) hx hb kd_Box_111 (by decide) ?_
  refine lv_icmp_ge (tgt := 135) hx hb kd_Box_113 (by decide) (fun z => absurd z (by decide)) (fun _ => ?_)
  refine lv_aload_n hx hb kd_Box_116 rfl (lv_at hl 1 rfl) ?_
  refine kn_get X zlay_8 (ci := 8) (C := RX8) (T := TX8) (N := 9) rfl S 8 (by decide) kw358 (v := .ref q80) rfl kd_Box_117 ?_
  refine lv_iload_n hx hb kd_Box_120 rfl (lv_at hl 0 rfl) ?_
  refine kn_new X zlay_7 tyX7 tyX7_ok kw327 kw329 kw82 (ci := 7) rfl S (fs := kz_Tape) rfl (Nat.le_of_ble_eq_true rfl) (Nat.le_of_ble_eq_true rfl) kd_Box_121 (fun q83 H S => ?_)
  refine lv_dup hx hb kd_Box_124 rfl ?_
  refine kn_callNh (q := q83) (as := []) (rest := [.ref q83, .int 1, .ref q80]) X (k_Tape l base ad w tb D cA) kcd_Tape kini_Tape (List.mem_of_getElem? (i := 4) rfl) kim_Tape rfl ⟨by decide, by decide, rfl⟩ ⟨(Nat.le_of_ble_eq_true rfl), (Nat.le_of_ble_eq_true rfl)⟩ S hl.1 (Nat.le_of_ble_eq_true rfl) kd_Box_125 ⟨(Nat.le_of_ble_eq_true rfl), (Nat.le_of_ble_eq_true rfl)⟩ (fun a83 H locs ea T => ?_)
  subst ea
  have S := T
  clear T
  refine kn_astqE X 4 7 (r := (RX7, TX7, 3)) S rfl rfl (by unfold vp_in; decide) kd_Box_128 (fun H locs S => ?_)
  refine lv_iinc (k := 0) (v := 2) (lv' := [(1, .int 2), (0, .ref h0)]) hx hb kd_Box_129 hl rfl (by decide) (by decide) rfl (fun ls hl => ?_)
  refine lv_goto (tgt := 110) hx hb kd_Box_132 (by decide) ?_
  refine lv_iload_n hx hb kd_Box_110 rfl (lv_at hl 0 rfl) ?_
  refine lv_bipush (v := 6) hx hb kd_Box_111 (by decide) ?_
  refine lv_icmp_ge (tgt := 135) hx hb kd_Box_113 (by decide) (fun z => absurd z (by decide)) (fun _ => ?_)
  refine lv_aload_n hx hb kd_Box_116 rfl (lv_at hl 1 rfl) ?_
  refine kn_get X zlay_8 (ci := 8) (C := RX8) (T := TX8) (N := 9) rfl S 8 (by decide) kw358 (v := .ref q80) rfl kd_Box_117 ?_
  refine lv_iload_n hx hb kd_Box_120 rfl (lv_at hl 0 rfl) ?_
  refine kn_new X zlay_7 tyX7 tyX7_ok kw327 kw329 kw82 (ci := 7) rfl S (fs := kz_Tape) rfl (Nat.le_of_ble_eq_true rfl) (Nat.le_of_ble_eq_true rfl) kd_Box_121 (fun q85 H S => ?_)
  refine lv_dup hx hb kd_Box_124 rfl ?_
  refine kn_callNh (q := q85) (as := []) (rest := [.ref q85, .int 2, .ref q80]) X (k_Tape l base ad w tb D cA) kcd_Tape kini_Tape (List.mem_of_getElem? (i := 4) rfl) kim_Tape rfl ⟨by decide, by decide, rfl⟩ ⟨(Nat.le_of_ble_eq_true rfl), (Nat.le_of_ble_eq_true rfl)⟩ S hl.1 (Nat.le_of_ble_eq_true rfl) kd_Box_125 ⟨(Nat.le_of_ble_eq_true rfl), (Nat.le_of_ble_eq_true rfl)⟩ (fun a85 H locs ea T => ?_)
  subst ea
  have S := T
  clear T
  refine kn_astqE X 4 7 (r := (RX7, TX7, 3)) S rfl rfl (by unfold vp_in; decide) kd_Box_128 (fun H locs S => ?_)
  refine lv_iinc (k := 0) (v := 3) (lv' := [(1, .int 3), (0, .ref h0)]) hx hb kd_Box_129 hl rfl (by decide) (by decide) rfl (fun ls hl => ?_)
  refine lv_goto (tgt := 110) hx hb kd_Box_132 (by decide) ?_
  refine lv_iload_n hx hb kd_Box_110 rfl (lv_at hl 0 rfl) ?_
  refine lv_bipush (v := 6) hx hb kd_Box_111 (by decide) ?_
  refine lv_icmp_ge (tgt := 135) hx hb kd_Box_113 (by decide) (fun z => absurd z (by decide)) (fun _ => ?_)
  refine lv_aload_n hx hb kd_Box_116 rfl (lv_at hl 1 rfl) ?_
  refine kn_get X zlay_8 (ci := 8) (C := RX8) (T := TX8) (N := 9) rfl S 8 (by decide) kw358 (v := .ref q80) rfl kd_Box_117 ?_
  refine lv_iload_n hx hb kd_Box_120 rfl (lv_at hl 0 rfl) ?_
  refine kn_new X zlay_7 tyX7 tyX7_ok kw327 kw329 kw82 (ci := 7) rfl S (fs := kz_Tape) rfl (Nat.le_of_ble_eq_true rfl) (Nat.le_of_ble_eq_true rfl) kd_Box_121 (fun q87 H S => ?_)
  refine lv_dup hx hb kd_Box_124 rfl ?_
  refine kn_callNh (q := q87) (as := []) (rest := [.ref q87, .int 3, .ref q80]) X (k_Tape l base ad w tb D cA) kcd_Tape kini_Tape (List.mem_of_getElem? (i := 4) rfl) kim_Tape rfl ⟨by decide, by decide, rfl⟩ ⟨(Nat.le_of_ble_eq_true rfl), (Nat.le_of_ble_eq_true rfl)⟩ S hl.1 (Nat.le_of_ble_eq_true rfl) kd_Box_125 ⟨(Nat.le_of_ble_eq_true rfl), (Nat.le_of_ble_eq_true rfl)⟩ (fun a87 H locs ea T => ?_)
  subst ea
  have S := T
  clear T
  refine kn_astqE X 4 7 (r := (RX7, TX7, 3)) S rfl rfl (by unfold vp_in; decide) kd_Box_128 (fun H locs S => ?_)
  refine lv_iinc (k := 0) (v := 4) (lv' := [(1, .int 4), (0, .ref h0)]) hx hb kd_Box_129 hl rfl (by decide) (by decide) rfl (fun ls hl => ?_)
  refine lv_goto (tgt := 110) hx hb kd_Box_132 (by decide) ?_
  refine lv_iload_n hx hb kd_Box_110 rfl (lv_at hl 0 rfl) ?_
  refine lv_bipush (v := 6) hx hb kd_Box_111 (by decide) ?_
  refine lv_icmp_ge (tgt := 135) hx hb kd_Box_113 (by decide) (fun z => absurd z (by decide)) (fun _ => ?_)
  refine lv_aload_n hx hb kd_Box_116 rfl (lv_at hl 1 rfl) ?_
  refine kn_get X zlay_8 (ci := 8) (C := RX8) (T := TX8) (N := 9) rfl S 8 (by decide) kw358 (v := .ref q80) rfl kd_Box_117 ?_
  refine lv_iload_n hx hb kd_Box_120 rfl (lv_at hl 0 rfl) ?_
  refine kn_new X zlay_7 tyX7 tyX7_ok kw327 kw329 kw82 (ci := 7) rfl S (fs := kz_Tape) rfl (Nat.le_of_ble_eq_true rfl) (Nat.le_of_ble_eq_true rfl) kd_Box_121 (fun q89 H S => ?_)
  refine lv_dup hx hb kd_Box_124 rfl ?_
  refine kn_callNh (q := q89) (as := []) (rest := [.ref q89, .int 4, .ref q80]) X (k_Tape l base ad w tb D cA) kcd_Tape kini_Tape (List.mem_of_getElem? (i := 4) rfl) kim_Tape rfl ⟨by decide, by decide, rfl⟩ ⟨(Nat.le_of_ble_eq_true rfl), (Nat.le_of_ble_eq_true rfl)⟩ S hl.1 (Nat.le_of_ble_eq_true rfl) kd_Box_125 ⟨(Nat.le_of_ble_eq_true rfl), (Nat.le_of_ble_eq_true rfl)⟩ (fun a89 H locs ea T => ?_)
  subst ea
  have S := T
  clear T
  refine kn_astqE X 4 7 (r := (RX7, TX7, 3)) S rfl rfl (by unfold vp_in; decide) kd_Box_128 (fun H locs S => ?_)
  refine lv_iinc (k := 0) (v := 5) (lv' := [(1, .int 5), (0, .ref h0)]) hx hb kd_Box_129 hl rfl (by decide) (by decide) rfl (fun ls hl => ?_)
  refine lv_goto (tgt := 110) hx hb kd_Box_132 (by decide) ?_
  refine lv_iload_n hx hb kd_Box_110 rfl (lv_at hl 0 rfl) ?_
  refine lv_bipush (v := 6) hx hb kd_Box_111 (by decide) ?_
  refine lv_icmp_ge (tgt := 135) hx hb kd_Box_113 (by decide) (fun z => absurd z (by decide)) (fun _ => ?_)
  refine lv_aload_n hx hb kd_Box_116 rfl (lv_at hl 1 rfl) ?_
  refine kn_get X zlay_8 (ci := 8) (C := RX8) (T := TX8) (N := 9) rfl S 8 (by decide) kw358 (v := .ref q80) rfl kd_Box_117 ?_
  refine lv_iload_n hx hb kd_Box_120 rfl (lv_at hl 0 rfl) ?_
  refine kn_new X zlay_7 tyX7 tyX7_ok kw327 kw329 kw82 (ci := 7) rfl S (fs := kz_Tape) rfl (Nat.le_of_ble_eq_true rfl) (Nat.le_of_ble_eq_true rfl) kd_Box_121 (fun q91 H S => ?_)
  refine lv_dup hx hb kd_Box_124 rfl ?_
  refine kn_callNh (q := q91) (as := []) (rest := [.ref q91, .int 5, .ref q80]) X (k_Tape l base ad w tb D cA) kcd_Tape kini_Tape (List.mem_of_getElem? (i := 4) rfl) kim_Tape rfl ⟨by decide, by decide, rfl⟩ ⟨(Nat.le_of_ble_eq_true rfl), (Nat.le_of_ble_eq_true rfl)⟩ S hl.1 (Nat.le_of_ble_eq_true rfl) kd_Box_125 ⟨(Nat.le_of_ble_eq_true rfl), (Nat.le_of_ble_eq_true rfl)⟩ (fun a91 H locs ea T => ?_)
  subst ea
  have S := T
  clear T
  refine kn_astqE X 4 7 (r := (RX7, TX7, 3)) S rfl rfl (by unfold vp_in; decide) kd_Box_128 (fun H locs S => ?_)
  have S := kn_convR S (fun j => some (zln [a81 0, a83 0, a85 0, a87 0, a89 0, a91 0] j)) (fun j hj => by rcases (show j = 0 ∨ j = 1 ∨ j = 2 ∨ j = 3 ∨ j = 4 ∨ j = 5 by omega) with rfl | rfl | rfl | rfl | rfl | rfl <;> rfl)
  refine lv_iinc (k := 0) (v := 6) (lv' := [(1, .int 6), (0, .ref h0)]) hx hb kd_Box_129 hl rfl (by decide) (by decide) rfl (fun ls hl => ?_)
  refine lv_goto (tgt := 110) hx hb kd_Box_132 (by decide) ?_
  refine lv_iload_n hx hb kd_Box_110 rfl (lv_at hl 0 rfl) ?_
  refine lv_bipush (v := 6) hx hb kd_Box_111 (by decide) ?_
  refine lv_icmp_ge (tgt := 135) hx hb kd_Box_113 (by decide) (fun _ => ?_) (fun z => absurd (by decide) z)
  exact kn_retE X hr hlocks rfl S (fun i => zln [h0, a1 0, a1 1, a1 2, a1 3, a1 4, a1 5, a1 6, a1 7, a1 8, a1 9, a1 10, a1 11, a13 0, a13 1, a13 2, a13 3, a13 4, a13 5, a13 6, a13 7, a13 8, a13 9, a13 10, a13 11, q25, a26 0, a26 1, a26 2, a26 3, a26 4, a31 0, a31 1, a31 2, a31 3, a31 4, a36 0, a36 1, a36 2, a36 3, a36 4, a41 0, a41 1, a41 2, a41 3, a41 4, a46 0, a46 1, a46 2, a46 3, a46 4, a51 0, a51 1, a51 2, a51 3, a51 4, a56 0, a56 1, a58 0, a58 1, a58 2, a58 3, a58 4, a58 5, a58 6, a58 7, a58 8, a58 9, a58 10, a58 11, a58 12, a58 13, a58 14, a58 15, a58 16, a58 17, a58 18, a58 19, a78 0, a78 1, q80, a81 0, a81 1, a83 0, a83 1, a85 0, a85 1, a87 0, a87 1, a89 0, a89 1, a91 0, a91 1] i) rfl rfl (Nat.le_of_ble_eq_true rfl) (Nat.le_of_ble_eq_true rfl) kd_Box_135
