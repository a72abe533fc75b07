/-! what a local that nothing knows may hold as well: the same run (gen19.py) -/
section ZN
variable {C : zC} {own : Nat} {ret : Option FieldType} {pc : Nat} {ls ls' st : List Value} {m : zM} {Q : zQ} {K K' : zK}
def zle (ls ls' : List Value) : Prop := zsz ls' = zsz ls ∧ ∀ i, zget ls' i = zget ls i ∨ (zget ls i = .retAddr 0 ∧ zlong (zget ls' i) = false)
theorem zle_get (h : zle ls ls') {k : Nat} (hk : zget ls k ≠ .retAddr 0) : zget ls' k = zget ls k := by
  rcases h.2 k with e | ⟨e, _⟩
  · exact e
  · exact absurd e hk
theorem zle_ok (h : zle ls ls') {i : Nat} (a : zok ls i = true) : zok ls' i = true := by
  unfold zok at a ⊢
  rw [h.1]
  cases i with
  | zero => exact a
  | succ k =>
    dsimp only at a ⊢
    rcases h.2 k with e | ⟨_, e⟩
    · rw [e]; exact a
    · rw [e]
      rw [Bool.and_eq_true] at a ⊢
      exact ⟨a.1, rfl⟩
theorem zle_set (h : zle ls ls') {i : Nat} (hi : i < zsz ls) (v : Value) : zle (zset ls i v) (zset ls' i v) := by
  refine ⟨by rw [zset_sz, zset_sz, h.1], fun j => ?_⟩
  rw [zget_set v hi, zget_set v (by rw [h.1]; exact hi)]
  by_cases e : j = i
  · rw [if_pos e, if_pos e]; exact Or.inl rfl
  · rw [if_neg e, if_neg e]; exact h.2 j
theorem zldA_n (hz : zle ls ls') {k : Nat} {f g : Value → Prop} (h : ∀ v, f v → g v) (a : zldA (zget ls k) f) : zldA (zget ls' k) g := by
  have e : zget ls' k = zget ls k := zle_get hz (fun z => by rw [z] at a; exact a.elim)
  rw [e]; exact zldA_m h a
theorem zldI_n (hz : zle ls ls') {k : Nat} {f g : Value → Prop} (h : ∀ v, f v → g v) (a : zldI (zget ls k) f) : zldI (zget ls' k) g := by
  have e : zget ls' k = zget ls k := zle_get hz (fun z => by rw [z] at a; exact a.elim)
  rw [e]; exact zldI_m h a
theorem zldL_n (hz : zle ls ls') {k : Nat} {f g : Value → Prop} (h : ∀ v, f v → g v) (a : zldL (zget ls k) f) : zldL (zget ls' k) g := by
  have e : zget ls' k = zget ls k := zle_get hz (fun z => by rw [z] at a; exact a.elim)
  rw [e]; exact zldL_m h a
theorem zstI_n (hz : zle ls ls') (h : ∀ pc ls ls' st m, zle ls ls' → K pc ls st m → K' pc ls' st m) {i n : Nat} (a : zstI i n pc ls st m K) : zstI i n pc ls' st m K' := by
  unfold zstI at a ⊢
  have a' := a
  clear a
  match st, a' with
  | .int x :: r, a =>
    dsimp only at a ⊢
    cases hs : zok ls i with
    | false => rw [hs] at a; exact a.elim
    | true => rw [hs] at a; rw [zle_ok hz hs]; exact h _ _ _ _ _ (zle_set hz (zok_lt hs) _) a
theorem zstA_n (hz : zle ls ls') (h : ∀ pc ls ls' st m, zle ls ls' → K pc ls st m → K' pc ls' st m) {i n : Nat} (a : zstA i n pc ls st m K) : zstA i n pc ls' st m K' := by
  unfold zstA at a ⊢
  have a' := a
  clear a
  match st, a' with
  | .ref x :: r, a =>
    dsimp only at a ⊢
    cases hs : zok ls i with
    | false => rw [hs] at a; exact a.elim
    | true => rw [hs] at a; rw [zle_ok hz hs]; exact h _ _ _ _ _ (zle_set hz (zok_lt hs) _) a
  | .null :: r, a =>
    dsimp only at a ⊢
    cases hs : zok ls i with
    | false => rw [hs] at a; exact a.elim
    | true => rw [hs] at a; rw [zle_ok hz hs]; exact h _ _ _ _ _ (zle_set hz (zok_lt hs) _) a
theorem zlk_n (h : ∀ pc st m, K pc ls st m → K' pc ls' st m) {x : Int32} {d : Int} {r : List Value} : ∀ l, zlk pc x d ls r m K l → zlk pc x d ls' r m K' l
  | [], a => h _ _ _ a
  | (b, _) :: l, a => by
    unfold zlk at a ⊢
    by_cases e : x = Int32.ofInt b
    · rw [if_pos e] at a ⊢
      exact h _ _ _ a
    · rw [if_neg e] at a ⊢
      exact zlk_n h l a
theorem zgf_n (h : ∀ pc st m, K pc ls st m → K' pc ls' st m) {idx : Nat} (a : zgf own idx pc ls st m K) : zgf own idx pc ls' st m K' := by
  unfold zgf at a ⊢
  cases hf : zl4 (zft own) idx with
  | none => rw [hf] at a; exact a.elim
  | some t =>
    obtain ⟨ci, k, ty⟩ := t
    rw [hf] at a
    have a' := a
    clear a
    match st, a' with
    | .ref p :: r, a =>
      dsimp only at a ⊢
      cases hs : Nat.beq (zsh p) ci with
      | false => rw [hs] at a; exact a.elim
      | true =>
        rw [hs] at a
        simp only [cond_true] at a ⊢
        split at a
        · exact h _ _ _ a
        · exact h _ _ _ a
        · exact ⟨fun q e => h _ _ _ (a.1 q e), fun e => h _ _ _ (a.2 e)⟩
        · exact h _ _ _ a
        · exact h _ _ _ a
        · exact h _ _ _ a
        · exact a.elim
theorem zpf_n (h : ∀ pc st m, K pc ls st m → K' pc ls' st m) {idx : Nat} (a : zpf own idx pc ls st m K) : zpf own idx pc ls' st m K' := by
  unfold zpf at a ⊢
  cases hf : zl4 (zft own) idx with
  | none => rw [hf] at a; exact a.elim
  | some t =>
    obtain ⟨ci, k, ty⟩ := t
    rw [hf] at a
    have a' := a
    clear a
    match st, a' with
    | .int x :: .ref p :: r, a =>
      dsimp only at a ⊢
      cases hs : Nat.beq (zsh p) ci with
      | false => rw [hs] at a; exact a.elim
      | true =>
        rw [hs] at a
        simp only [cond_true] at a ⊢
        split at a
        · exact h _ _ _ a
        · exact a.elim
        · exact a.elim
        · exact ⟨a.1, h _ _ _ a.2⟩
        · exact a.elim
    | .ref q :: .ref p :: r, a =>
      dsimp only at a ⊢
      cases hs : Nat.beq (zsh p) ci with
      | false => rw [hs] at a; exact a.elim
      | true =>
        rw [hs] at a
        simp only [cond_true] at a ⊢
        cases ht : Nat.beq ty 2 && Nat.beq (zsh q) 1 with
        | false => rw [ht] at a; exact a.elim
        | true => rw [ht] at a; exact h _ _ _ a
    | .null :: .ref p :: r, a =>
      dsimp only at a ⊢
      cases hs : Nat.beq (zsh p) ci with
      | false => rw [hs] at a; exact a.elim
      | true =>
        rw [hs] at a
        simp only [cond_true] at a ⊢
        cases ht : Nat.beq ty 2 with
        | false => rw [ht] at a; exact a.elim
        | true => rw [ht] at a; exact h _ _ _ a
theorem zinv_n (hC : zCm C) (h : ∀ pc st m, K pc ls st m → K' pc ls' st m) {virt : Bool} {idx : Nat} (a : zinv C own virt idx pc ls st m K) : zinv C own virt idx pc ls' st m K' := by
  unfold zinv at a ⊢
  cases hf : zl5 (zct own) idx with
  | none => rw [hf] at a; exact a.elim
  | some t =>
    obtain ⟨kind, mi, n, rk⟩ := t
    rw [hf] at a
    dsimp only at a ⊢
    split at a
    · cases hc : zrc mi (zrv (ztk n st) []) && (Nat.ble (zcat (zdr n st)) 8 && Nat.ble n (zsz st)) with
      | false => rw [hc] at a; exact a.elim
      | true => rw [hc] at a; exact hC _ _ _ _ _ (fun o m' q => zrt_m (fun v => h _ _ _) q) a
    · cases hc : Nat.ble (zcat (zdr n st)) 8 && Nat.ble n (zsz st) with
      | false => rw [hc] at a; exact a.elim
      | true => rw [hc] at a; exact hC _ _ _ _ _ (fun o m' q => zrt_m (fun v => h _ _ _) q) a
    · cases hc : Nat.ble (zcat (zdr n st)) 8 && Nat.ble n (zsz st) with
      | false => rw [hc] at a; exact a.elim
      | true => rw [hc] at a; exact hC _ _ _ _ _ (fun o m' q => zrt_m (fun v => h _ _ _) q) a
    · have a' := a
      clear a
      match st, a' with
      | .int nn :: .int j :: .ref b2 :: .int i :: .ref a2 :: r, a =>
        dsimp only at a ⊢
        cases hc : Nat.ble (zcat r) 8 with
        | false => rw [hc] at a; exact a.elim
        | true =>
          rw [hc] at a
          simp only [cond_true] at a ⊢
          cases hq1 : Nat.beq (zsh a2) 20 && Nat.beq (zsh b2) 20 with
          | true => rw [hq1] at a; exact ⟨a.1, h _ _ _ a.2⟩
          | false =>
            rw [hq1] at a
            simp only [cond_false] at a ⊢
            cases hq2 : Nat.beq (zsh a2) 22 && Nat.beq (zsh b2) 22 with
            | true => rw [hq2] at a; exact ⟨a.1, h _ _ _ a.2⟩
            | false => rw [hq2] at a; exact a.elim
    · obtain ⟨x, y, r, rfl, b⟩ := zi2_ok a
      show bif Nat.ble (zcat r) 8 then _ else False
      cases hc : Nat.ble (zcat r) 8 with
      | false => rw [hc] at b; exact b.elim
      | true => rw [hc] at b; exact h _ _ _ b
    · obtain ⟨x, y, r, rfl, b⟩ := zi2_ok a
      show bif Nat.ble (zcat r) 8 then _ else False
      cases hc : Nat.ble (zcat r) 8 with
      | false => rw [hc] at b; exact b.elim
      | true => rw [hc] at b; exact h _ _ _ b
    · exact a.elim
theorem zald_n (h : ∀ pc st m, K pc ls st m → K' pc ls' st m) (a : zald pc ls st m K) : zald pc ls' st m K' := by
  unfold zald at a ⊢
  have a' := a
  clear a
  match st, a' with
  | .int i :: .ref p :: r, a =>
    dsimp only at a ⊢
    split at a
    · exact ⟨a.1, h _ _ _ a.2⟩
    · exact ⟨a.1, h _ _ _ a.2⟩
    · exact ⟨a.1, h _ _ _ a.2⟩
    · exact a.elim
theorem zbld_n (h : ∀ pc st m, K pc ls st m → K' pc ls' st m) (a : zbld pc ls st m K) : zbld pc ls' st m K' := by
  unfold zbld at a ⊢
  have a' := a
  clear a
  match st, a' with
  | .int i :: .ref p :: r, a =>
    dsimp only at a ⊢
    split at a
    · exact ⟨a.1, h _ _ _ a.2⟩
    · exact ⟨a.1, h _ _ _ a.2⟩
    · exact a.elim
theorem zqld_n (h : ∀ pc st m, K pc ls st m → K' pc ls' st m) (a : zqld pc ls st m K) : zqld pc ls' st m K' := by
  unfold zqld at a ⊢
  have a' := a
  clear a
  match st, a' with
  | .int i :: .ref p :: r, a =>
    dsimp only at a ⊢
    split at a
    · exact ⟨a.1, h _ _ _ a.2⟩
    · exact ⟨a.1, h _ _ _ a.2⟩
    · exact a.elim
theorem zaln_n (h : ∀ pc st m, K pc ls st m → K' pc ls' st m) (a : zaln pc ls st m K) : zaln pc ls' st m K' := by
  unfold zaln at a ⊢
  have a' := a
  clear a
  match st, a' with
  | .ref p :: r, a =>
    dsimp only at a ⊢
    split at a
    · exact h _ _ _ a
    · exact h _ _ _ a
    · exact h _ _ _ a
    · exact a.elim
theorem zast_n (h : ∀ pc st m, K pc ls st m → K' pc ls' st m) (a : zast pc ls st m K) : zast pc ls' st m K' := by
  unfold zast at a ⊢
  have a' := a
  clear a
  match st, a' with
  | .int x :: .int i :: .ref p :: r, a =>
    dsimp only at a ⊢
    cases hs : Nat.beq (zsh p) 20 with
    | false => rw [hs] at a; exact a.elim
    | true => rw [hs] at a; exact ⟨a.1, h _ _ _ a.2⟩
theorem zbst_n (h : ∀ pc st m, K pc ls st m → K' pc ls' st m) (a : zbst pc ls st m K) : zbst pc ls' st m K' := by
  unfold zbst at a ⊢
  have a' := a
  clear a
  match st, a' with
  | .int x :: .int i :: .ref p :: r, a =>
    dsimp only at a ⊢
    cases hs : Nat.beq (zsh p) 21 with
    | false => rw [hs] at a; exact a.elim
    | true => rw [hs] at a; exact ⟨a.1, h _ _ _ a.2⟩
theorem zlld_n (h : ∀ pc st m, K pc ls st m → K' pc ls' st m) (a : zlld pc ls st m K) : zlld pc ls' st m K' := by
  unfold zlld at a ⊢
  have a' := a
  clear a
  match st, a' with
  | .int i :: .ref p :: r, a =>
    dsimp only at a ⊢
    cases hs : Nat.beq (zsh p) 22 with
    | false => rw [hs] at a; exact a.elim
    | true => rw [hs] at a; exact ⟨a.1, h _ _ _ a.2⟩
theorem zlst_n (h : ∀ pc st m, K pc ls st m → K' pc ls' st m) (a : zlst pc ls st m K) : zlst pc ls' st m K' := by
  unfold zlst at a ⊢
  have a' := a
  clear a
  match st, a' with
  | .long x :: .int i :: .ref p :: r, a =>
    dsimp only at a ⊢
    cases hs : Nat.beq (zsh p) 22 with
    | false => rw [hs] at a; exact a.elim
    | true => rw [hs] at a; exact ⟨a.1, h _ _ _ a.2⟩
theorem zn_iconst (hC : zCm C) (h : ∀ pc st m, K pc ls st m → K' pc ls' st m) (v0 : Int) (a : zwp C own ret (.iconst v0) pc ls st m Q K) : zwp C own ret (.iconst v0) pc ls' st m Q K' := by
    exact h _ _ _ a
theorem zn_bipush (hC : zCm C) (h : ∀ pc st m, K pc ls st m → K' pc ls' st m) (v0 : Int) (a : zwp C own ret (.bipush v0) pc ls st m Q K) : zwp C own ret (.bipush v0) pc ls' st m Q K' := by
    exact h _ _ _ a
theorem zn_sipush (hC : zCm C) (h : ∀ pc st m, K pc ls st m → K' pc ls' st m) (v0 : Int) (a : zwp C own ret (.sipush v0) pc ls st m Q K) : zwp C own ret (.sipush v0) pc ls' st m Q K' := by
    exact h _ _ _ a
theorem zn_lconst (hC : zCm C) (h : ∀ pc st m, K pc ls st m → K' pc ls' st m) (v0 : Fin 2) (a : zwp C own ret (.lconst v0) pc ls st m Q K) : zwp C own ret (.lconst v0) pc ls' st m Q K' := by
    exact h _ _ _ a
theorem zn_goto (hC : zCm C) (h : ∀ pc st m, K pc ls st m → K' pc ls' st m) (v0 : Int) (a : zwp C own ret (.goto v0) pc ls st m Q K) : zwp C own ret (.goto v0) pc ls' st m Q K' := by
    exact h _ _ _ a
theorem zn_getfield (hC : zCm C) (h : ∀ pc st m, K pc ls st m → K' pc ls' st m) (v0 : Nat) (a : zwp C own ret (.getfield v0) pc ls st m Q K) : zwp C own ret (.getfield v0) pc ls' st m Q K' := by
    exact zgf_n h a
theorem zn_putfield (hC : zCm C) (h : ∀ pc st m, K pc ls st m → K' pc ls' st m) (v0 : Nat) (a : zwp C own ret (.putfield v0) pc ls st m Q K) : zwp C own ret (.putfield v0) pc ls' st m Q K' := by
    exact zpf_n h a
theorem zn_iaload (hC : zCm C) (h : ∀ pc st m, K pc ls st m → K' pc ls' st m) (a : zwp C own ret (.iaload) pc ls st m Q K) : zwp C own ret (.iaload) pc ls' st m Q K' := by
    exact zald_n h a
theorem zn_baload (hC : zCm C) (h : ∀ pc st m, K pc ls st m → K' pc ls' st m) (a : zwp C own ret (.baload) pc ls st m Q K) : zwp C own ret (.baload) pc ls' st m Q K' := by
    exact zbld_n h a
theorem zn_iastore (hC : zCm C) (h : ∀ pc st m, K pc ls st m → K' pc ls' st m) (a : zwp C own ret (.iastore) pc ls st m Q K) : zwp C own ret (.iastore) pc ls' st m Q K' := by
    exact zast_n h a
theorem zn_bastore (hC : zCm C) (h : ∀ pc st m, K pc ls st m → K' pc ls' st m) (a : zwp C own ret (.bastore) pc ls st m Q K) : zwp C own ret (.bastore) pc ls' st m Q K' := by
    exact zbst_n h a
theorem zn_laload (hC : zCm C) (h : ∀ pc st m, K pc ls st m → K' pc ls' st m) (a : zwp C own ret (.laload) pc ls st m Q K) : zwp C own ret (.laload) pc ls' st m Q K' := by
    exact zlld_n h a
theorem zn_lastore (hC : zCm C) (h : ∀ pc st m, K pc ls st m → K' pc ls' st m) (a : zwp C own ret (.lastore) pc ls st m Q K) : zwp C own ret (.lastore) pc ls' st m Q K' := by
    exact zlst_n h a
theorem zn_aaload (hC : zCm C) (h : ∀ pc st m, K pc ls st m → K' pc ls' st m) (a : zwp C own ret (.aaload) pc ls st m Q K) : zwp C own ret (.aaload) pc ls' st m Q K' := by
    exact zqld_n h a
theorem zn_arraylength (hC : zCm C) (h : ∀ pc st m, K pc ls st m → K' pc ls' st m) (a : zwp C own ret (.arraylength) pc ls st m Q K) : zwp C own ret (.arraylength) pc ls' st m Q K' := by
    exact zaln_n h a
theorem zn_iadd (hC : zCm C) (h : ∀ pc st m, K pc ls st m → K' pc ls' st m) (a : zwp C own ret (.iadd) pc ls st m Q K) : zwp C own ret (.iadd) pc ls' st m Q K' := by
    exact zi2_m (fun x y r => h _ _ _) a
theorem zn_isub (hC : zCm C) (h : ∀ pc st m, K pc ls st m → K' pc ls' st m) (a : zwp C own ret (.isub) pc ls st m Q K) : zwp C own ret (.isub) pc ls' st m Q K' := by
    exact zi2_m (fun x y r => h _ _ _) a
theorem zn_imul (hC : zCm C) (h : ∀ pc st m, K pc ls st m → K' pc ls' st m) (a : zwp C own ret (.imul) pc ls st m Q K) : zwp C own ret (.imul) pc ls' st m Q K' := by
    exact zi2_m (fun x y r => h _ _ _) a
theorem zn_iand (hC : zCm C) (h : ∀ pc st m, K pc ls st m → K' pc ls' st m) (a : zwp C own ret (.iand) pc ls st m Q K) : zwp C own ret (.iand) pc ls' st m Q K' := by
    exact zi2_m (fun x y r => h _ _ _) a
theorem zn_ior (hC : zCm C) (h : ∀ pc st m, K pc ls st m → K' pc ls' st m) (a : zwp C own ret (.ior) pc ls st m Q K) : zwp C own ret (.ior) pc ls' st m Q K' := by
    exact zi2_m (fun x y r => h _ _ _) a
theorem zn_ixor (hC : zCm C) (h : ∀ pc st m, K pc ls st m → K' pc ls' st m) (a : zwp C own ret (.ixor) pc ls st m Q K) : zwp C own ret (.ixor) pc ls' st m Q K' := by
    exact zi2_m (fun x y r => h _ _ _) a
theorem zn_ishl (hC : zCm C) (h : ∀ pc st m, K pc ls st m → K' pc ls' st m) (a : zwp C own ret (.ishl) pc ls st m Q K) : zwp C own ret (.ishl) pc ls' st m Q K' := by
    exact zi2_m (fun x y r => h _ _ _) a
theorem zn_ishr (hC : zCm C) (h : ∀ pc st m, K pc ls st m → K' pc ls' st m) (a : zwp C own ret (.ishr) pc ls st m Q K) : zwp C own ret (.ishr) pc ls' st m Q K' := by
    exact zi2_m (fun x y r => h _ _ _) a
theorem zn_iushr (hC : zCm C) (h : ∀ pc st m, K pc ls st m → K' pc ls' st m) (a : zwp C own ret (.iushr) pc ls st m Q K) : zwp C own ret (.iushr) pc ls' st m Q K' := by
    exact zi2_m (fun x y r => h _ _ _) a
theorem zn_idiv (hC : zCm C) (h : ∀ pc st m, K pc ls st m → K' pc ls' st m) (a : zwp C own ret (.idiv) pc ls st m Q K) : zwp C own ret (.idiv) pc ls' st m Q K' := by
    exact zi2_m (fun x y r q => ⟨q.1, h _ _ _ q.2⟩) a
theorem zn_irem (hC : zCm C) (h : ∀ pc st m, K pc ls st m → K' pc ls' st m) (a : zwp C own ret (.irem) pc ls st m Q K) : zwp C own ret (.irem) pc ls' st m Q K' := by
    exact zi2_m (fun x y r q => ⟨q.1, h _ _ _ q.2⟩) a
theorem zn_ineg (hC : zCm C) (h : ∀ pc st m, K pc ls st m → K' pc ls' st m) (a : zwp C own ret (.ineg) pc ls st m Q K) : zwp C own ret (.ineg) pc ls' st m Q K' := by
    exact zi1_m (fun x r => h _ _ _) a
theorem zn_i2l (hC : zCm C) (h : ∀ pc st m, K pc ls st m → K' pc ls' st m) (a : zwp C own ret (.i2l) pc ls st m Q K) : zwp C own ret (.i2l) pc ls' st m Q K' := by
    exact zi1_m (fun x r => h _ _ _) a
theorem zn_i2b (hC : zCm C) (h : ∀ pc st m, K pc ls st m → K' pc ls' st m) (a : zwp C own ret (.i2b) pc ls st m Q K) : zwp C own ret (.i2b) pc ls' st m Q K' := by
    exact zi1_m (fun x r => h _ _ _) a
theorem zn_i2s (hC : zCm C) (h : ∀ pc st m, K pc ls st m → K' pc ls' st m) (a : zwp C own ret (.i2s) pc ls st m Q K) : zwp C own ret (.i2s) pc ls' st m Q K' := by
    exact zi1_m (fun x r => h _ _ _) a
theorem zn_i2c (hC : zCm C) (h : ∀ pc st m, K pc ls st m → K' pc ls' st m) (a : zwp C own ret (.i2c) pc ls st m Q K) : zwp C own ret (.i2c) pc ls' st m Q K' := by
    exact zi1_m (fun x r => h _ _ _) a
theorem zn_l2i (hC : zCm C) (h : ∀ pc st m, K pc ls st m → K' pc ls' st m) (a : zwp C own ret (.l2i) pc ls st m Q K) : zwp C own ret (.l2i) pc ls' st m Q K' := by
    exact zj1_m (fun x r => h _ _ _) a
theorem zn_land (hC : zCm C) (h : ∀ pc st m, K pc ls st m → K' pc ls' st m) (a : zwp C own ret (.land) pc ls st m Q K) : zwp C own ret (.land) pc ls' st m Q K' := by
    exact zj2_m (fun x y r => h _ _ _) a
theorem zn_lor (hC : zCm C) (h : ∀ pc st m, K pc ls st m → K' pc ls' st m) (a : zwp C own ret (.lor) pc ls st m Q K) : zwp C own ret (.lor) pc ls' st m Q K' := by
    exact zj2_m (fun x y r => h _ _ _) a
theorem zn_lcmp (hC : zCm C) (h : ∀ pc st m, K pc ls st m → K' pc ls' st m) (a : zwp C own ret (.lcmp) pc ls st m Q K) : zwp C own ret (.lcmp) pc ls' st m Q K' := by
    exact zj2_m (fun x y r => h _ _ _) a
theorem zn_lshl (hC : zCm C) (h : ∀ pc st m, K pc ls st m → K' pc ls' st m) (a : zwp C own ret (.lshl) pc ls st m Q K) : zwp C own ret (.lshl) pc ls' st m Q K' := by
    exact zji_m (fun x y r => h _ _ _) a
theorem zn_if_icmp (hC : zCm C) (h : ∀ pc st m, K pc ls st m → K' pc ls' st m) (v0 : ClassFile.Cond) (v1 : Int) (a : zwp C own ret (.if_icmp v0 v1) pc ls st m Q K) : zwp C own ret (.if_icmp v0 v1) pc ls' st m Q K' := by
    exact zi2_m (fun x y r q => zite_m (h _ _ _) (h _ _ _) q) a
theorem zn_ifCond (hC : zCm C) (h : ∀ pc st m, K pc ls st m → K' pc ls' st m) (v0 : ClassFile.Cond) (v1 : Int) (a : zwp C own ret (.ifCond v0 v1) pc ls st m Q K) : zwp C own ret (.ifCond v0 v1) pc ls' st m Q K' := by
    exact zi1_m (fun x r q => zite_m (h _ _ _) (h _ _ _) q) a
theorem zn_tableswitch (hC : zCm C) (h : ∀ pc st m, K pc ls st m → K' pc ls' st m) (v0 : Int) (v1 : Int) (v2 : Int) (v3 : Array Int) (a : zwp C own ret (.tableswitch v0 v1 v2 v3) pc ls st m Q K) : zwp C own ret (.tableswitch v0 v1 v2 v3) pc ls' st m Q K' := by
    exact zi1_m (fun x r => zlk_n h _) a
theorem zn_lookupswitch (hC : zCm C) (h : ∀ pc st m, K pc ls st m → K' pc ls' st m) (v0 : Int) (v1 : Array (Int × Int)) (a : zwp C own ret (.lookupswitch v0 v1) pc ls st m Q K) : zwp C own ret (.lookupswitch v0 v1) pc ls' st m Q K' := by
    exact zi1_m (fun x r => zlk_n h _) a
theorem zn_invokevirtual (hC : zCm C) (h : ∀ pc st m, K pc ls st m → K' pc ls' st m) (v0 : Nat) (a : zwp C own ret (.invokevirtual v0) pc ls st m Q K) : zwp C own ret (.invokevirtual v0) pc ls' st m Q K' := by
    exact zinv_n hC h a
theorem zn_invokestatic (hC : zCm C) (h : ∀ pc st m, K pc ls st m → K' pc ls' st m) (v0 : Nat) (a : zwp C own ret (.invokestatic v0) pc ls st m Q K) : zwp C own ret (.invokestatic v0) pc ls' st m Q K' := by
    exact zinv_n hC h a
theorem zn_dup (hC : zCm C) (h : ∀ pc st m, K pc ls st m → K' pc ls' st m) (a : zwp C own ret (.dup) pc ls st m Q K) : zwp C own ret (.dup) pc ls' st m Q K' := by
    unfold zwp at a ⊢
    dsimp only at a ⊢
    split at a
    · exact h _ _ _ a
    · exact h _ _ _ a
    · exact a.elim
theorem zn_dup2 (hC : zCm C) (h : ∀ pc st m, K pc ls st m → K' pc ls' st m) (a : zwp C own ret (.dup2) pc ls st m Q K) : zwp C own ret (.dup2) pc ls' st m Q K' := by
    unfold zwp at a ⊢
    dsimp only at a ⊢
    split at a
    · exact h _ _ _ a
    · exact h _ _ _ a
    · exact a.elim
theorem zn_pop (hC : zCm C) (h : ∀ pc st m, K pc ls st m → K' pc ls' st m) (a : zwp C own ret (.pop) pc ls st m Q K) : zwp C own ret (.pop) pc ls' st m Q K' := by
    unfold zwp at a ⊢
    dsimp only at a ⊢
    split at a
    · exact h _ _ _ a
    · exact h _ _ _ a
    · exact a.elim
theorem zn_ifnull (hC : zCm C) (h : ∀ pc st m, K pc ls st m → K' pc ls' st m) (v0 : Int) (a : zwp C own ret (.ifnull v0) pc ls st m Q K) : zwp C own ret (.ifnull v0) pc ls' st m Q K' := by
    unfold zwp at a ⊢
    dsimp only at a ⊢
    split at a
    · exact h _ _ _ a
    · exact ⟨a.1, h _ _ _ a.2⟩
    · exact a.elim
theorem zn_ifnonnull (hC : zCm C) (h : ∀ pc st m, K pc ls st m → K' pc ls' st m) (v0 : Int) (a : zwp C own ret (.ifnonnull v0) pc ls st m Q K) : zwp C own ret (.ifnonnull v0) pc ls' st m Q K' := by
    unfold zwp at a ⊢
    dsimp only at a ⊢
    split at a
    · exact h _ _ _ a
    · exact ⟨a.1, h _ _ _ a.2⟩
    · exact a.elim
theorem zn_getstatic (hC : zCm C) (h : ∀ pc st m, K pc ls st m → K' pc ls' st m) (v0 : Nat) (a : zwp C own ret (.getstatic v0) pc ls st m Q K) : zwp C own ret (.getstatic v0) pc ls' st m Q K' := by
    unfold zwp at a ⊢
    dsimp only at a ⊢
    cases hv : zlv (zgt own) v0 with
    | none => rw [hv] at a; exact a.elim
    | some v => rw [hv] at a; exact h _ _ _ a
theorem zn_ldc (hC : zCm C) (h : ∀ pc st m, K pc ls st m → K' pc ls' st m) (v0 : Nat) (a : zwp C own ret (.ldc v0) pc ls st m Q K) : zwp C own ret (.ldc v0) pc ls' st m Q K' := by
    unfold zwp at a ⊢
    dsimp only at a ⊢
    cases hv : zlv (zlt own) v0 with
    | none => rw [hv] at a; exact a.elim
    | some v =>
      rw [hv] at a
      cases v with
      | ref q => exact h _ _ _ a
      | _ => exact a.elim
theorem zn_ldc_w (hC : zCm C) (h : ∀ pc st m, K pc ls st m → K' pc ls' st m) (v0 : Nat) (a : zwp C own ret (.ldc_w v0) pc ls st m Q K) : zwp C own ret (.ldc_w v0) pc ls' st m Q K' := by
    unfold zwp at a ⊢
    dsimp only at a ⊢
    cases hv : zlv (zlt own) v0 with
    | none => rw [hv] at a; exact a.elim
    | some v =>
      rw [hv] at a
      cases v with
      | int q => exact h _ _ _ a
      | _ => exact a.elim
theorem zn_ldc2_w (hC : zCm C) (h : ∀ pc st m, K pc ls st m → K' pc ls' st m) (v0 : Nat) (a : zwp C own ret (.ldc2_w v0) pc ls st m Q K) : zwp C own ret (.ldc2_w v0) pc ls' st m Q K' := by
    unfold zwp at a ⊢
    dsimp only at a ⊢
    cases hv : zlv (zlt own) v0 with
    | none => rw [hv] at a; exact a.elim
    | some v =>
      rw [hv] at a
      cases v with
      | long q => exact h _ _ _ a
      | _ => exact a.elim
theorem zn_ireturn (hC : zCm C) (h : ∀ pc st m, K pc ls st m → K' pc ls' st m) (a : zwp C own ret (.ireturn) pc ls st m Q K) : zwp C own ret (.ireturn) pc ls' st m Q K' := by
    unfold zwp at a ⊢
    dsimp only at a ⊢
    split at a
    · exact zrn_m (fun q => q) a
    · exact a.elim
theorem zn_lreturn (hC : zCm C) (h : ∀ pc st m, K pc ls st m → K' pc ls' st m) (a : zwp C own ret (.lreturn) pc ls st m Q K) : zwp C own ret (.lreturn) pc ls' st m Q K' := by
    unfold zwp at a ⊢
    dsimp only at a ⊢
    split at a
    · exact zrnl_m (fun q => q) a
    · exact a.elim
theorem zn_areturn (hC : zCm C) (h : ∀ pc st m, K pc ls st m → K' pc ls' st m) (a : zwp C own ret (.areturn) pc ls st m Q K) : zwp C own ret (.areturn) pc ls' st m Q K' := by
    unfold zwp at a ⊢
    dsimp only at a ⊢
    split at a
    · exact zrna_m (fun q => q) a
    · exact a.elim
theorem zn_return_ (hC : zCm C) (h : ∀ pc st m, K pc ls st m → K' pc ls' st m) (a : zwp C own ret (.return_) pc ls st m Q K) : zwp C own ret (.return_) pc ls' st m Q K' := by
    unfold zwp at a ⊢
    dsimp only at a ⊢
    split at a
    · exact zrnv_m (fun q => q) a
    · exact a.elim
theorem zwp_n (hC : zCm C) (hz : zle ls ls') (h : ∀ pc ls ls' st m, zle ls ls' → K pc ls st m → K' pc ls' st m) {i : Instr} (a : zwp C own ret i pc ls st m Q K) : zwp C own ret i pc ls' st m Q K' := by
  have h' : ∀ pc st m, K pc ls st m → K' pc ls' st m := fun pc st m => h pc ls ls' st m hz
  cases i
  case aload_n _ => exact zldA_n hz (f := fun v => K _ ls (v :: st) m) (g := fun v => K' _ ls' (v :: st) m) (fun v => h' _ _ _) a
  case aload _ => exact zldA_n hz (f := fun v => K _ ls (v :: st) m) (g := fun v => K' _ ls' (v :: st) m) (fun v => h' _ _ _) a
  case iload_n _ => exact zldI_n hz (f := fun v => K _ ls (v :: st) m) (g := fun v => K' _ ls' (v :: st) m) (fun v => h' _ _ _) a
  case iload _ => exact zldI_n hz (f := fun v => K _ ls (v :: st) m) (g := fun v => K' _ ls' (v :: st) m) (fun v => h' _ _ _) a
  case lload_n _ => exact zldL_n hz (f := fun v => K _ ls (v :: st) m) (g := fun v => K' _ ls' (v :: st) m) (fun v => h' _ _ _) a
  case istore_n _ => exact zstI_n hz h a
  case istore _ => exact zstI_n hz h a
  case astore_n _ => exact zstA_n hz h a
  case astore _ => exact zstA_n hz h a
  case iconst _ => exact zn_iconst hC h' _ a
  case bipush _ => exact zn_bipush hC h' _ a
  case sipush _ => exact zn_sipush hC h' _ a
  case lconst _ => exact zn_lconst hC h' _ a
  case goto _ => exact zn_goto hC h' _ a
  case getfield _ => exact zn_getfield hC h' _ a
  case putfield _ => exact zn_putfield hC h' _ a
  case iaload => exact zn_iaload hC h' a
  case baload => exact zn_baload hC h' a
  case iastore => exact zn_iastore hC h' a
  case bastore => exact zn_bastore hC h' a
  case laload => exact zn_laload hC h' a
  case lastore => exact zn_lastore hC h' a
  case aaload => exact zn_aaload hC h' a
  case arraylength => exact zn_arraylength hC h' a
  case iadd => exact zn_iadd hC h' a
  case isub => exact zn_isub hC h' a
  case imul => exact zn_imul hC h' a
  case iand => exact zn_iand hC h' a
  case ior => exact zn_ior hC h' a
  case ixor => exact zn_ixor hC h' a
  case ishl => exact zn_ishl hC h' a
  case ishr => exact zn_ishr hC h' a
  case iushr => exact zn_iushr hC h' a
  case idiv => exact zn_idiv hC h' a
  case irem => exact zn_irem hC h' a
  case ineg => exact zn_ineg hC h' a
  case i2l => exact zn_i2l hC h' a
  case i2b => exact zn_i2b hC h' a
  case i2s => exact zn_i2s hC h' a
  case i2c => exact zn_i2c hC h' a
  case l2i => exact zn_l2i hC h' a
  case land => exact zn_land hC h' a
  case lor => exact zn_lor hC h' a
  case lcmp => exact zn_lcmp hC h' a
  case lshl => exact zn_lshl hC h' a
  case if_icmp _ _ => exact zn_if_icmp hC h' _ _ a
  case ifCond _ _ => exact zn_ifCond hC h' _ _ a
  case tableswitch _ _ _ _ => exact zn_tableswitch hC h' _ _ _ _ a
  case lookupswitch _ _ => exact zn_lookupswitch hC h' _ _ a
  case invokevirtual _ => exact zn_invokevirtual hC h' _ a
  case invokestatic _ => exact zn_invokestatic hC h' _ a
  case dup => exact zn_dup hC h' a
  case dup2 => exact zn_dup2 hC h' a
  case pop => exact zn_pop hC h' a
  case ifnull _ => exact zn_ifnull hC h' _ a
  case ifnonnull _ => exact zn_ifnonnull hC h' _ a
  case getstatic _ => exact zn_getstatic hC h' _ a
  case ldc _ => exact zn_ldc hC h' _ a
  case ldc_w _ => exact zn_ldc_w hC h' _ a
  case ldc2_w _ => exact zn_ldc2_w hC h' _ a
  case iinc k n => 
    unfold zwp at a ⊢
    dsimp only at a ⊢
    cases hv : zget ls k with
    | int x =>
      rw [hv] at a
      rw [zle_get hz (by rw [hv]; exact fun z => by cases z), hv]
      dsimp only at a ⊢
      cases hk : zok ls k with
      | false => rw [hk] at a; exact a.elim
      | true => rw [hk] at a; rw [zle_ok hz hk]; exact h _ _ _ _ _ (zle_set hz (zok_lt hk) _) a
    | _ => rw [hv] at a; exact a.elim
  case ireturn => exact zn_ireturn hC h' a
  case lreturn => exact zn_lreturn hC h' a
  case areturn => exact zn_areturn hC h' a
  case return_ => exact zn_return_ hC h' a
  all_goals exact a.elim
theorem zRun_le {cd : List (Nat × Instr)} (hC : zCm C) (hz : zle ls ls') (a : zRun C own ret cd Q pc ls st m) : zRun C own ret cd Q pc ls' st m := by
  refine a (fun pc ls st m => ∀ ls', zle ls ls' → zRun C own ret cd Q pc ls' st m) (fun pc ls st m hs ls' hz => zRun_step hC ?_) ls' hz
  unfold zstep at hs ⊢
  split at hs
  · exact hs
  · exact zwp_n hC hz (fun _ _ _ _ _ hz q => q _ hz) hs
theorem zle_nil : zle [] [] := ⟨rfl, fun _ => Or.inl rfl⟩
theorem zle_same (v : Value) (h : zle ls ls') : zle (v :: ls) (v :: ls') := ⟨congrArg (· + 1) h.1, fun i => match i with
  | 0 => Or.inl rfl
  | n + 1 => h.2 n⟩
theorem zle_new (v : Value) (hv : zlong v = false) (h : zle ls ls') : zle (.retAddr 0 :: ls) (v :: ls') := ⟨congrArg (· + 1) h.1, fun i => match i with
  | 0 => Or.inr ⟨rfl, hv⟩
  | n + 1 => h.2 n⟩
theorem zle_refl : ∀ ls, zle ls ls := fun _ => ⟨rfl, fun _ => Or.inl rfl⟩
end ZN
