/-! the classes by their names and fields (printed rows, as TURN gave them), and what the tables say of each place of the code -/
def RX0 : String := "BoxHedge$Acts"
def TX0 : u_T := fun k => match k with
  | 0 => ("BoxHedge$Acts", "kept", "[I", true)
  | 1 => ("BoxHedge$Acts", "ran", "I", false)
  | 2 => ("BoxHedge$Acts", "kind", "I", false)
  | 3 => ("BoxHedge$Acts", "i", "I", false)
  | _ => ("BoxHedge$Acts", "v", "I", false)
def tyX0 : Nat → FieldType := fun k => match k with
  | 0 => .array .int
  | 1 => .int
  | 2 => .int
  | 3 => .int
  | _ => .int
theorem nmX0 : ∀ a, a < 5 → ∀ b, b < 5 → a ≠ b → (TX0 a).2.1 ≠ (TX0 b).2.1 := by decide +kernel
theorem tyX0_ok : ∀ k, k < 5 → parseFieldDescriptor (TX0 k).2.2.1 = some (tyX0 k) := by decide +kernel
def RX1 : String := "BoxHedge$Garden"
def TX1 : u_T := fun k => match k with
  | 0 => ("BoxHedge$Garden", "frost", "I", false)
  | 1 => ("BoxHedge$Garden", "lose", "I", false)
  | 2 => ("BoxHedge$Garden", "clauses", "I", false)
  | 3 => ("BoxHedge$Garden", "words", "[I", true)
  | 4 => ("BoxHedge$Garden", "numbers", "[I", true)
  | 5 => ("BoxHedge$Garden", "ends", "[I", true)
  | 6 => ("BoxHedge$Garden", "used", "I", false)
  | _ => ("BoxHedge$Garden", "code", "[I", true)
def tyX1 : Nat → FieldType := fun k => match k with
  | 0 => .int
  | 1 => .int
  | 2 => .int
  | 3 => .array .int
  | 4 => .array .int
  | 5 => .array .int
  | 6 => .int
  | _ => .array .int
theorem nmX1 : ∀ a, a < 8 → ∀ b, b < 8 → a ≠ b → (TX1 a).2.1 ≠ (TX1 b).2.1 := by decide +kernel
theorem tyX1_ok : ∀ k, k < 8 → parseFieldDescriptor (TX1 k).2.2.1 = some (tyX1 k) := by decide +kernel
def RX2 : String := "BoxHedge$Hearing"
def TX2 : u_T := fun k => match k with
  | 0 => ("BoxHedge$Hearing", "takes", "[I", true)
  | 1 => ("BoxHedge$Hearing", "hours", "[I", true)
  | 2 => ("BoxHedge$Hearing", "from", "[I", true)
  | 3 => ("BoxHedge$Hearing", "order", "[I", true)
  | 4 => ("BoxHedge$Hearing", "hearers", "I", false)
  | _ => ("BoxHedge$Hearing", "words", "[I", true)
def tyX2 : Nat → FieldType := fun k => match k with
  | 0 => .array .int
  | 1 => .array .int
  | 2 => .array .int
  | 3 => .array .int
  | 4 => .int
  | _ => .array .int
theorem nmX2 : ∀ a, a < 6 → ∀ b, b < 6 → a ≠ b → (TX2 a).2.1 ≠ (TX2 b).2.1 := by decide +kernel
theorem tyX2_ok : ∀ k, k < 6 → parseFieldDescriptor (TX2 k).2.2.1 = some (tyX2 k) := by decide +kernel
def RX3 : String := "BoxHedge$Hedge"
def TX3 : u_T := fun k => match k with
  | 0 => ("BoxHedge$Hedge", "size", "I", false)
  | 1 => ("BoxHedge$Hedge", "kinds", "[I", true)
  | 2 => ("BoxHedge$Hedge", "values", "[I", true)
  | 3 => ("BoxHedge$Hedge", "touches", "[I", true)
  | 4 => ("BoxHedge$Hedge", "rows", "[I", true)
  | 5 => ("BoxHedge$Hedge", "dead", "I", false)
  | 6 => ("BoxHedge$Hedge", "hour", "I", false)
  | 7 => ("BoxHedge$Hedge", "garden", "LBoxHedge$Garden;", false)
  | 8 => ("BoxHedge$Hedge", "seen", "LBoxHedge$Rows;", true)
  | 9 => ("BoxHedge$Hedge", "plan", "LBoxHedge$Rows;", true)
  | 10 => ("BoxHedge$Hedge", "book", "LBoxHedge$Rows;", true)
  | _ => ("BoxHedge$Hedge", "view", "[I", true)
def tyX3 : Nat → FieldType := fun k => match k with
  | 0 => .int
  | 1 => .array .int
  | 2 => .array .int
  | 3 => .array .int
  | 4 => .array .int
  | 5 => .int
  | 6 => .int
  | 7 => .object "BoxHedge$Garden"
  | 8 => .object "BoxHedge$Rows"
  | 9 => .object "BoxHedge$Rows"
  | 10 => .object "BoxHedge$Rows"
  | _ => .array .int
theorem nmX3 : ∀ a, a < 12 → ∀ b, b < 12 → a ≠ b → (TX3 a).2.1 ≠ (TX3 b).2.1 := by decide +kernel
theorem tyX3_ok : ∀ k, k < 12 → parseFieldDescriptor (TX3 k).2.2.1 = some (tyX3 k) := by decide +kernel
def RX4 : String := "BoxHedge$Questions"
def TX4 : u_T := fun k => match k with
  | 0 => ("BoxHedge$Questions", "hedge", "LBoxHedge$Hedge;", true)
  | 1 => ("BoxHedge$Questions", "trial", "LBoxHedge$Hedge;", true)
  | 2 => ("BoxHedge$Questions", "hearing", "LBoxHedge$Hearing;", true)
  | _ => ("BoxHedge$Questions", "hearings", "[I", true)
def tyX4 : Nat → FieldType := fun k => match k with
  | 0 => .object "BoxHedge$Hedge"
  | 1 => .object "BoxHedge$Hedge"
  | 2 => .object "BoxHedge$Hearing"
  | _ => .array .int
theorem nmX4 : ∀ a, a < 4 → ∀ b, b < 4 → a ≠ b → (TX4 a).2.1 ≠ (TX4 b).2.1 := by decide +kernel
theorem tyX4_ok : ∀ k, k < 4 → parseFieldDescriptor (TX4 k).2.2.1 = some (tyX4 k) := by decide +kernel
def RX5 : String := "BoxHedge$Reader"
def TX5 : u_T := fun k => match k with
  | 0 => ("BoxHedge$Reader", "length", "I", false)
  | 1 => ("BoxHedge$Reader", "text", "[I", true)
  | 2 => ("BoxHedge$Reader", "at", "I", false)
  | _ => ("BoxHedge$Reader", "into", "LBoxHedge$Garden;", false)
def tyX5 : Nat → FieldType := fun k => match k with
  | 0 => .int
  | 1 => .array .int
  | 2 => .int
  | _ => .object "BoxHedge$Garden"
theorem nmX5 : ∀ a, a < 4 → ∀ b, b < 4 → a ≠ b → (TX5 a).2.1 ≠ (TX5 b).2.1 := by decide +kernel
theorem tyX5_ok : ∀ k, k < 4 → parseFieldDescriptor (TX5 k).2.2.1 = some (tyX5 k) := by decide +kernel
def RX6 : String := "BoxHedge$Rows"
def TX6 : u_T := fun k => match k with
  | 0 => ("BoxHedge$Rows", "size", "I", false)
  | 1 => ("BoxHedge$Rows", "limit", "I", true)
  | _ => ("BoxHedge$Rows", "cells", "[I", true)
def tyX6 : Nat → FieldType := fun k => match k with
  | 0 => .int
  | 1 => .int
  | _ => .array .int
theorem nmX6 : ∀ a, a < 3 → ∀ b, b < 3 → a ≠ b → (TX6 a).2.1 ≠ (TX6 b).2.1 := by decide +kernel
theorem tyX6_ok : ∀ k, k < 3 → parseFieldDescriptor (TX6 k).2.2.1 = some (tyX6 k) := by decide +kernel
def RX7 : String := "BoxHedge$Tape"
def TX7 : u_T := fun k => match k with
  | 0 => ("BoxHedge$Tape", "sort", "I", false)
  | 1 => ("BoxHedge$Tape", "length", "I", false)
  | _ => ("BoxHedge$Tape", "items", "[J", true)
def tyX7 : Nat → FieldType := fun k => match k with
  | 0 => .int
  | 1 => .int
  | _ => .array .long
theorem nmX7 : ∀ a, a < 3 → ∀ b, b < 3 → a ≠ b → (TX7 a).2.1 ≠ (TX7 b).2.1 := by decide +kernel
theorem tyX7_ok : ∀ k, k < 3 → parseFieldDescriptor (TX7 k).2.2.1 = some (tyX7 k) := by decide +kernel
def RX8 : String := "BoxHedge"
def TX8 : u_T := fun k => match k with
  | 0 => ("BoxHedge", "hedge", "LBoxHedge$Hedge;", true)
  | 1 => ("BoxHedge", "picture", "LBoxHedge$Hedge;", true)
  | 2 => ("BoxHedge", "pictured", "Z", false)
  | 3 => ("BoxHedge", "gardens", "[LBoxHedge$Garden;", true)
  | 4 => ("BoxHedge", "gardenCount", "I", false)
  | 5 => ("BoxHedge", "reader", "LBoxHedge$Reader;", true)
  | 6 => ("BoxHedge", "questions", "LBoxHedge$Questions;", true)
  | 7 => ("BoxHedge", "acts", "LBoxHedge$Acts;", true)
  | _ => ("BoxHedge", "tapes", "[LBoxHedge$Tape;", true)
def tyX8 : Nat → FieldType := fun k => match k with
  | 0 => .object "BoxHedge$Hedge"
  | 1 => .object "BoxHedge$Hedge"
  | 2 => .boolean
  | 3 => .array (.object "BoxHedge$Garden")
  | 4 => .int
  | 5 => .object "BoxHedge$Reader"
  | 6 => .object "BoxHedge$Questions"
  | 7 => .object "BoxHedge$Acts"
  | _ => .array (.object "BoxHedge$Tape")
theorem nmX8 : ∀ a, a < 9 → ∀ b, b < 9 → a ≠ b → (TX8 a).2.1 ≠ (TX8 b).2.1 := by decide +kernel
theorem tyX8_ok : ∀ k, k < 9 → parseFieldDescriptor (TX8 k).2.2.1 = some (tyX8 k) := by decide +kernel
def RX9 : String := "BoxHedgeModel"
def TX9 : u_T := fun k => match k with
  | 0 => ("BoxHedgeModel", "plants", "I", false)
  | 1 => ("BoxHedgeModel", "hours", "I", false)
  | 2 => ("BoxHedgeModel", "dead", "I", false)
  | 3 => ("BoxHedgeModel", "kind", "[I", true)
  | 4 => ("BoxHedgeModel", "v", "[I", true)
  | 5 => ("BoxHedgeModel", "touches", "[I", true)
  | 6 => ("BoxHedgeModel", "rows", "[I", true)
  | 7 => ("BoxHedgeModel", "gardens", "I", false)
  | 8 => ("BoxHedgeModel", "the", "I", false)
  | 9 => ("BoxHedgeModel", "fed", "I", false)
  | 10 => ("BoxHedgeModel", "at", "I", false)
  | 11 => ("BoxHedgeModel", "digits", "I", false)
  | 12 => ("BoxHedgeModel", "text", "[I", true)
  | 13 => ("BoxHedgeModel", "clauses", "[I", true)
  | 14 => ("BoxHedgeModel", "word", "[I", true)
  | 15 => ("BoxHedgeModel", "number", "[I", true)
  | 16 => ("BoxHedgeModel", "from", "[I", true)
  | 17 => ("BoxHedgeModel", "to", "[I", true)
  | 18 => ("BoxHedgeModel", "sign", "[I", true)
  | 19 => ("BoxHedgeModel", "waits", "[I", true)
  | 20 => ("BoxHedgeModel", "signs", "I", false)
  | 21 => ("BoxHedgeModel", "waiting", "I", false)
  | 22 => ("BoxHedgeModel", "open", "I", false)
  | 23 => ("BoxHedgeModel", "letters", "[I", true)
  | 24 => ("BoxHedgeModel", "pile", "[Z", true)
  | 25 => ("BoxHedgeModel", "when", "[I", true)
  | 26 => ("BoxHedgeModel", "whom", "[I", true)
  | 27 => ("BoxHedgeModel", "what", "[I", true)
  | 28 => ("BoxHedgeModel", "whose", "[I", true)
  | 29 => ("BoxHedgeModel", "takes", "[I", true)
  | 30 => ("BoxHedgeModel", "passed", "[Z", true)
  | 31 => ("BoxHedgeModel", "whens", "[I", true)
  | 32 => ("BoxHedgeModel", "whats", "[I", true)
  | 33 => ("BoxHedgeModel", "seen", "I", false)
  | 34 => ("BoxHedgeModel", "seenWho", "[I", true)
  | 35 => ("BoxHedgeModel", "seenWhat", "[I", true)
  | 36 => ("BoxHedgeModel", "seenWhen", "[I", true)
  | 37 => ("BoxHedgeModel", "plans", "I", false)
  | 38 => ("BoxHedgeModel", "books", "I", false)
  | 39 => ("BoxHedgeModel", "planWhat", "[I", true)
  | 40 => ("BoxHedgeModel", "planWho", "[I", true)
  | 41 => ("BoxHedgeModel", "bookOne", "[I", true)
  | 42 => ("BoxHedgeModel", "bookOther", "[I", true)
  | 43 => ("BoxHedgeModel", "bookWhen", "[I", true)
  | 44 => ("BoxHedgeModel", "hasImage", "Z", false)
  | 45 => ("BoxHedgeModel", "imageThe", "I", false)
  | 46 => ("BoxHedgeModel", "imagePlants", "I", false)
  | 47 => ("BoxHedgeModel", "imageHours", "I", false)
  | 48 => ("BoxHedgeModel", "imageDead", "I", false)
  | 49 => ("BoxHedgeModel", "imageSeen", "I", false)
  | 50 => ("BoxHedgeModel", "imagePlans", "I", false)
  | 51 => ("BoxHedgeModel", "imageBooks", "I", false)
  | 52 => ("BoxHedgeModel", "imageKind", "[I", true)
  | 53 => ("BoxHedgeModel", "imageV", "[I", true)
  | 54 => ("BoxHedgeModel", "imageTouches", "[I", true)
  | 55 => ("BoxHedgeModel", "imageRows", "[I", true)
  | 56 => ("BoxHedgeModel", "imageWho", "[I", true)
  | 57 => ("BoxHedgeModel", "imageWhat", "[I", true)
  | 58 => ("BoxHedgeModel", "imageWhen", "[I", true)
  | 59 => ("BoxHedgeModel", "imagePlanWhat", "[I", true)
  | 60 => ("BoxHedgeModel", "imagePlanWho", "[I", true)
  | 61 => ("BoxHedgeModel", "imageOne", "[I", true)
  | 62 => ("BoxHedgeModel", "imageOther", "[I", true)
  | 63 => ("BoxHedgeModel", "imageBookWhen", "[I", true)
  | 64 => ("BoxHedgeModel", "ran", "I", false)
  | 65 => ("BoxHedgeModel", "bodies", "[I", true)
  | 66 => ("BoxHedgeModel", "sort", "[I", true)
  | 67 => ("BoxHedgeModel", "length", "[I", true)
  | 68 => ("BoxHedgeModel", "item", "[J", true)
  | _ => ("BoxHedgeModel", "aside", "[J", true)
def tyX9 : Nat → FieldType := fun k => match k with
  | 0 => .int
  | 1 => .int
  | 2 => .int
  | 3 => .array .int
  | 4 => .array .int
  | 5 => .array .int
  | 6 => .array .int
  | 7 => .int
  | 8 => .int
  | 9 => .int
  | 10 => .int
  | 11 => .int
  | 12 => .array .int
  | 13 => .array .int
  | 14 => .array .int
  | 15 => .array .int
  | 16 => .array .int
  | 17 => .array .int
  | 18 => .array .int
  | 19 => .array .int
  | 20 => .int
  | 21 => .int
  | 22 => .int
  | 23 => .array .int
  | 24 => .array .boolean
  | 25 => .array .int
  | 26 => .array .int
  | 27 => .array .int
  | 28 => .array .int
  | 29 => .array .int
  | 30 => .array .boolean
  | 31 => .array .int
  | 32 => .array .int
  | 33 => .int
  | 34 => .array .int
  | 35 => .array .int
  | 36 => .array .int
  | 37 => .int
  | 38 => .int
  | 39 => .array .int
  | 40 => .array .int
  | 41 => .array .int
  | 42 => .array .int
  | 43 => .array .int
  | 44 => .boolean
  | 45 => .int
  | 46 => .int
  | 47 => .int
  | 48 => .int
  | 49 => .int
  | 50 => .int
  | 51 => .int
  | 52 => .array .int
  | 53 => .array .int
  | 54 => .array .int
  | 55 => .array .int
  | 56 => .array .int
  | 57 => .array .int
  | 58 => .array .int
  | 59 => .array .int
  | 60 => .array .int
  | 61 => .array .int
  | 62 => .array .int
  | 63 => .array .int
  | 64 => .int
  | 65 => .array .int
  | 66 => .array .int
  | 67 => .array .int
  | 68 => .array .long
  | _ => .array .long
theorem nmX9 : ∀ a, a < 70 → ∀ b, b < 70 → a ≠ b → (TX9 a).2.1 ≠ (TX9 b).2.1 := by decide +kernel
theorem tyX9_ok : ∀ k, k < 70 → parseFieldDescriptor (TX9 k).2.2.1 = some (tyX9 k) := by decide +kernel
abbrev vwCl : List vw_C := [(RX0, TX0, 5), (RX1, TX1, 8), (RX2, TX2, 6), (RX3, TX3, 12), (RX4, TX4, 4), (RX5, TX5, 4), (RX6, TX6, 3), (RX7, TX7, 3), (RX8, TX8, 9), (RX9, TX9, 70)]
def zgood : List Cond := lw_tbl.filter goodWord
theorem zgood_of {i : Nat} {w : Cond} (h : lw_tbl[i]? = some w) (hg : goodWord w = true) : w ∈ zgood := List.mem_filter.mpr ⟨List.mem_of_getElem? h, hg⟩
theorem zgood_good {w : Cond} (h : w ∈ zgood) : goodWord w = true := (List.mem_filter.mp h).2
theorem zgood_in1 {w : Cond} (h : w ∈ tables_1_1) (hg : goodWord w = true) : w ∈ zgood := List.mem_filter.mpr ⟨List.mem_append_right _ (List.mem_append_left _ h), hg⟩
theorem zgood_in2 {w : Cond} (h : w ∈ tables_1_2) (hg : goodWord w = true) : w ∈ zgood := List.mem_filter.mpr ⟨List.mem_append_right _ (List.mem_append_right _ (List.mem_append_left _ h)), hg⟩
theorem zgood_in3 {w : Cond} (h : w ∈ tables_1_3) (hg : goodWord w = true) : w ∈ zgood := List.mem_filter.mpr ⟨List.mem_append_right _ (List.mem_append_right _ (List.mem_append_right _ (List.mem_append_left _ h))), hg⟩
theorem zgood_in4 {w : Cond} (h : w ∈ tables_1_4) (hg : goodWord w = true) : w ∈ zgood := List.mem_filter.mpr ⟨List.mem_append_right _ (List.mem_append_right _ (List.mem_append_right _ (List.mem_append_right _ (List.mem_append_left _ h)))), hg⟩
theorem zgood_in5 {w : Cond} (h : w ∈ tables_1_5) (hg : goodWord w = true) : w ∈ zgood := List.mem_filter.mpr ⟨List.mem_append_right _ (List.mem_append_right _ (List.mem_append_right _ (List.mem_append_right _ (List.mem_append_right _ (List.mem_append_left _ h))))), hg⟩
theorem zgood_in6 {w : Cond} (h : w ∈ tables_1_6) (hg : goodWord w = true) : w ∈ zgood := List.mem_filter.mpr ⟨List.mem_append_right _ (List.mem_append_right _ (List.mem_append_right _ (List.mem_append_right _ (List.mem_append_right _ (List.mem_append_right _ (List.mem_append_left _ h)))))), hg⟩
theorem zgood_in7 {w : Cond} (h : w ∈ tables_1_7) (hg : goodWord w = true) : w ∈ zgood := List.mem_filter.mpr ⟨List.mem_append_right _ (List.mem_append_right _ (List.mem_append_right _ (List.mem_append_right _ (List.mem_append_right _ (List.mem_append_right _ (List.mem_append_right _ (h))))))), hg⟩
def zhas (i : Nat) (w : Cond) : Bool := decide (lw_tbl[i]? = some w) && goodWord w
theorem zhas_in {i : Nat} {w : Cond} (h : zhas i w = true) : w ∈ zgood := by
  unfold zhas at h
  rw [Bool.and_eq_true, decide_eq_true_eq] at h
  exact zgood_of h.1 h.2
def zfk (c : Nat) : List Nat := (bif Nat.ble c 4 then (bif Nat.ble c 2 then (bif Nat.ble c 1 then (bif Nat.ble c 0 then [1, 0, 0, 0, 0] else [0, 0, 0, 1, 1, 1, 0, 1]) else [1, 1, 1, 1, 0, 1]) else (bif Nat.ble c 3 then [0, 1, 1, 1, 1, 0, 0, 2, 1, 1, 1, 1] else [1, 1, 1, 1])) else (bif Nat.ble c 7 then (bif Nat.ble c 6 then (bif Nat.ble c 5 then [0, 1, 0, 2] else [0, 6, 1]) else [0, 0, 1]) else (bif Nat.ble c 8 then [1, 1, 3, 1, 0, 1, 1, 1, 1] else [0, 0, 0, 1, 1, 1, 1, 0, 0, 0, 0, 0, 1, 1, 1, 1, 1, 1, 1, 1, 0, 0, 0, 1, 1, 1, 1, 1, 1, 1, 1, 1, 1, 0, 1, 1, 1, 0, 0, 1, 1, 1, 1, 1, 3, 0, 0, 0, 0, 0, 0, 0, 1, 1, 1, 1, 1, 1, 1, 1, 1, 1, 1, 1, 0, 1, 1, 1, 1, 1])))
/-- what holds of a method's row: its words, by their places -/
def zmok (r : zT) (ws : Nat × Nat × Nat) : Bool := match r, ws with
  | (y, _, ml, _, own, st, _), (w2, w3, w4) => zhas w2 (.initialized y.cls) && (if st then zhas w3 (.static y) else zhas w3 (.instanceMethod y) && zhas w4 (.selects y.cls y y)) &&
    plainName y.cls && decide (y.cls = zcn own) && decide (y.cls ≠ "java/lang/invoke/MethodHandle" ∧ y.cls ≠ "java/lang/invoke/VarHandle") && Nat.ble ml 40
theorem zcd_Acts_forget : Cond.code (⟨"BoxHedge$Acts", "forget", "()V"⟩ : MethodName) prog_2_method_2_code 1 none ∈ zgood := zgood_in4 (List.mem_of_getElem? (i := 110) rfl) rfl
theorem zcd_Acts_perform : Cond.code (⟨"BoxHedge$Acts", "perform", "(LBoxHedge$Hedge;III)I"⟩ : MethodName) prog_2_method_3_code 5 (some .int) ∈ zgood := zgood_in4 (List.mem_of_getElem? (i := 114) rfl) rfl
theorem zcd_Acts_run : Cond.code (⟨"BoxHedge$Acts", "run", "(IIII)I"⟩ : MethodName) prog_2_method_4_code 7 (some .int) ∈ zgood := zgood_in4 (List.mem_of_getElem? (i := 118) rfl) rfl
theorem zcd_Acts_bodyOf : Cond.code (⟨"BoxHedge$Acts", "bodyOf", "(II)I"⟩ : MethodName) prog_2_method_5_code 4 (some .int) ∈ zgood := zgood_in4 (List.mem_of_getElem? (i := 121) rfl) rfl
theorem zcd_Acts_begin : Cond.code (⟨"BoxHedge$Acts", "begin", "(I)V"⟩ : MethodName) prog_2_method_6_code 2 none ∈ zgood := zgood_in4 (List.mem_of_getElem? (i := 129) rfl) rfl
theorem zcd_Garden_clear : Cond.code (⟨"BoxHedge$Garden", "clear", "()V"⟩ : MethodName) prog_3_method_2_code 1 none ∈ zgood := zgood_in2 (List.mem_of_getElem? (i := 178) rfl) rfl
theorem zcd_Garden_begin : Cond.code (⟨"BoxHedge$Garden", "begin", "(II)V"⟩ : MethodName) prog_3_method_3_code 3 none ∈ zgood := zgood_in3 (List.mem_of_getElem? (i := 64) rfl) rfl
theorem zcd_Garden_put : Cond.code (⟨"BoxHedge$Garden", "put", "(I)V"⟩ : MethodName) prog_3_method_4_code 2 none ∈ zgood := zgood_in3 (List.mem_of_getElem? (i := 89) rfl) rfl
theorem zcd_Garden_test : Cond.code (⟨"BoxHedge$Garden", "test", "(III)I"⟩ : MethodName) prog_3_method_5_code 3 (some .int) ∈ zgood := zgood_in3 (List.mem_of_getElem? (i := 85) rfl) rfl
theorem zcd_Garden_slowness : Cond.code (⟨"BoxHedge$Garden", "slowness", "([I)I"⟩ : MethodName) prog_3_method_6_code 5 (some .int) ∈ zgood := zgood_in2 (List.mem_of_getElem? (i := 109) rfl) rfl
theorem zcd_Garden_stands : Cond.code (⟨"BoxHedge$Garden", "stands", "([III)Z"⟩ : MethodName) prog_3_method_7_code 11 (some .boolean) ∈ zgood := zgood_in2 (List.mem_of_getElem? (i := 113) rfl) rfl
theorem zcd_Hearing_measure : Cond.code (⟨"BoxHedge$Hearing", "measure", "(LBoxHedge$Hedge;)V"⟩ : MethodName) prog_4_method_2_code 3 none ∈ zgood := zgood_in3 (List.mem_of_getElem? (i := 115) rfl) rfl
theorem zcd_Hearing_spread : Cond.code (⟨"BoxHedge$Hearing", "spread", "(LBoxHedge$Hedge;I)V"⟩ : MethodName) prog_4_method_3_code 6 none ∈ zgood := zgood_in3 (List.mem_of_getElem? (i := 121) rfl) rfl
theorem zcd_Hearing_soonest : Cond.code (⟨"BoxHedge$Hearing", "soonest", "(II)I"⟩ : MethodName) prog_4_method_4_code 5 (some .int) ∈ zgood := zgood_in3 (List.mem_of_getElem? (i := 127) rfl) rfl
theorem zcd_Hearing_passOn : Cond.code (⟨"BoxHedge$Hearing", "passOn", "(LBoxHedge$Hedge;I)V"⟩ : MethodName) prog_4_method_5_code 7 none ∈ zgood := zgood_in3 (List.mem_of_getElem? (i := 132) rfl) rfl
theorem zcd_Hearing_speak : Cond.code (⟨"BoxHedge$Hearing", "speak", "(LBoxHedge$Hedge;I)V"⟩ : MethodName) prog_4_method_6_code 6 none ∈ zgood := zgood_in3 (List.mem_of_getElem? (i := 136) rfl) rfl
theorem zcds_0 : ∀ e ∈ zmt_0, Cond.code e.1 e.2.1 e.2.2.1 e.2.2.2.1 ∈ zgood := List.forall_mem_cons.mpr ⟨zcd_Acts_forget, List.forall_mem_cons.mpr ⟨zcd_Acts_perform, List.forall_mem_cons.mpr ⟨zcd_Acts_run, List.forall_mem_cons.mpr ⟨zcd_Acts_bodyOf, List.forall_mem_cons.mpr ⟨zcd_Acts_begin, List.forall_mem_cons.mpr ⟨zcd_Garden_clear, List.forall_mem_cons.mpr ⟨zcd_Garden_begin, List.forall_mem_cons.mpr ⟨zcd_Garden_put, List.forall_mem_cons.mpr ⟨zcd_Garden_test, List.forall_mem_cons.mpr ⟨zcd_Garden_slowness, List.forall_mem_cons.mpr ⟨zcd_Garden_stands, List.forall_mem_cons.mpr ⟨zcd_Hearing_measure, List.forall_mem_cons.mpr ⟨zcd_Hearing_spread, List.forall_mem_cons.mpr ⟨zcd_Hearing_soonest, List.forall_mem_cons.mpr ⟨zcd_Hearing_passOn, List.forall_mem_cons.mpr ⟨zcd_Hearing_speak, fun _ h => absurd h List.not_mem_nil⟩⟩⟩⟩⟩⟩⟩⟩⟩⟩⟩⟩⟩⟩⟩⟩
def zmw_0 : List (Nat × Nat × Nat) := [(81, 899, 900), (81, 903, 904), (81, 908, 19), (81, 911, 0), (81, 919, 20), (77, 487, 488), (77, 613, 614), (77, 638, 639), (77, 635, 0), (77, 418, 419), (77, 423, 0), (80, 664, 665), (80, 670, 671), (80, 677, 12), (80, 682, 13), (80, 685, 686)]
set_option maxRecDepth 100000 in
theorem zmok_0 : (zmt_0.zip zmw_0).all (fun e => zmok e.1 e.2) = true := by decide +kernel
theorem zml_0 : zmt_0.length = zmw_0.length := by decide +kernel
theorem zcd_Hearing_wordAt : Cond.code (⟨"BoxHedge$Hearing", "wordAt", "(I)I"⟩ : MethodName) prog_4_method_7_code 2 (some .int) ∈ zgood := zgood_in3 (List.mem_of_getElem? (i := 141) rfl) rfl
theorem zcd_Hedge_become : Cond.code (⟨"BoxHedge$Hedge", "become", "(LBoxHedge$Hedge;)V"⟩ : MethodName) prog_5_method_2_code 2 none ∈ zgood := zgood_in3 (List.mem_of_getElem? (i := 217) rfl) rfl
theorem zcd_Hedge_add : Cond.code (⟨"BoxHedge$Hedge", "add", "(II)I"⟩ : MethodName) prog_5_method_3_code 4 (some .int) ∈ zgood := zgood_in2 (List.mem_of_getElem? (i := 74) rfl) rfl
theorem zcd_Hedge_has : Cond.code (⟨"BoxHedge$Hedge", "has", "(I)Z"⟩ : MethodName) prog_5_method_4_code 2 (some .boolean) ∈ zgood := zgood_in2 (List.mem_of_getElem? (i := 82) rfl) rfl
theorem zcd_Hedge_isDead : Cond.code (⟨"BoxHedge$Hedge", "isDead", "(I)Z"⟩ : MethodName) prog_5_method_5_code 2 (some .boolean) ∈ zgood := zgood_in2 (List.mem_of_getElem? (i := 86) rfl) rfl
theorem zcd_Hedge_frost : Cond.code (⟨"BoxHedge$Hedge", "frost", "()I"⟩ : MethodName) prog_5_method_6_code 1 (some .int) ∈ zgood := zgood_in2 (List.mem_of_getElem? (i := 123) rfl) rfl
theorem zcd_Hedge_lose : Cond.code (⟨"BoxHedge$Hedge", "lose", "()I"⟩ : MethodName) prog_5_method_7_code 1 (some .int) ∈ zgood := zgood_in2 (List.mem_of_getElem? (i := 142) rfl) rfl
theorem zcd_Hedge_paceOf : Cond.code (⟨"BoxHedge$Hedge", "paceOf", "(I)I"⟩ : MethodName) prog_5_method_8_code 2 (some .int) ∈ zgood := zgood_in2 (List.mem_of_getElem? (i := 96) rfl) rfl
theorem zcd_Hedge_takesOf : Cond.code (⟨"BoxHedge$Hedge", "takesOf", "(I)I"⟩ : MethodName) prog_5_method_9_code 3 (some .int) ∈ zgood := zgood_in2 (List.mem_of_getElem? (i := 118) rfl) rfl
theorem zcd_Hedge_passedOn : Cond.code (⟨"BoxHedge$Hedge", "passedOn", "(II)I"⟩ : MethodName) prog_5_method_10_code 4 (some .int) ∈ zgood := zgood_in2 (List.mem_of_getElem? (i := 134) rfl) rfl
theorem zcd_Hedge_clipped : Cond.code (⟨"BoxHedge$Hedge", "clipped", "(I)I"⟩ : MethodName) prog_5_method_11_code 3 (some .int) ∈ zgood := zgood_in2 (List.mem_of_getElem? (i := 138) rfl) rfl
theorem zcd_Hedge_judged : Cond.code (⟨"BoxHedge$Hedge", "judged", "(LBoxHedge$Tape;I)I"⟩ : MethodName) prog_5_method_12_code 7 (some .int) ∈ zgood := zgood_in4 (List.mem_of_getElem? (i := 93) rfl) rfl
theorem zcd_Qu_say : Cond.code (⟨"BoxHedge$Questions", "say", "(II)V"⟩ : MethodName) prog_6_method_2_code 3 none ∈ zgood := zgood_in3 (List.mem_of_getElem? (i := 111) rfl) rfl
theorem zcd_Qu_hearingOf : Cond.code (⟨"BoxHedge$Questions", "hearingOf", "(IIII)I"⟩ : MethodName) prog_6_method_3_code 5 (some .int) ∈ zgood := zgood_in3 (List.mem_of_getElem? (i := 107) rfl) rfl
theorem zcd_Qu_hearersWithin : Cond.code (⟨"BoxHedge$Questions", "hearersWithin", "(II)I"⟩ : MethodName) prog_6_method_4_code 6 (some .int) ∈ zgood := zgood_in3 (List.mem_of_getElem? (i := 149) rfl) rfl
theorem zcd_Qu_hearersOfJust : Cond.code (⟨"BoxHedge$Questions", "hearersOfJust", "(II)I"⟩ : MethodName) prog_6_method_5_code 5 (some .int) ∈ zgood := zgood_in3 (List.mem_of_getElem? (i := 157) rfl) rfl
theorem zcds_1 : ∀ e ∈ zmt_1, Cond.code e.1 e.2.1 e.2.2.1 e.2.2.2.1 ∈ zgood := List.forall_mem_cons.mpr ⟨zcd_Hearing_wordAt, List.forall_mem_cons.mpr ⟨zcd_Hedge_become, List.forall_mem_cons.mpr ⟨zcd_Hedge_add, List.forall_mem_cons.mpr ⟨zcd_Hedge_has, List.forall_mem_cons.mpr ⟨zcd_Hedge_isDead, List.forall_mem_cons.mpr ⟨zcd_Hedge_frost, List.forall_mem_cons.mpr ⟨zcd_Hedge_lose, List.forall_mem_cons.mpr ⟨zcd_Hedge_paceOf, List.forall_mem_cons.mpr ⟨zcd_Hedge_takesOf, List.forall_mem_cons.mpr ⟨zcd_Hedge_passedOn, List.forall_mem_cons.mpr ⟨zcd_Hedge_clipped, List.forall_mem_cons.mpr ⟨zcd_Hedge_judged, List.forall_mem_cons.mpr ⟨zcd_Qu_say, List.forall_mem_cons.mpr ⟨zcd_Qu_hearingOf, List.forall_mem_cons.mpr ⟨zcd_Qu_hearersWithin, List.forall_mem_cons.mpr ⟨zcd_Qu_hearersOfJust, fun _ h => absurd h List.not_mem_nil⟩⟩⟩⟩⟩⟩⟩⟩⟩⟩⟩⟩⟩⟩⟩⟩
def zmw_1 : List (Nat × Nat × Nat) := [(80, 690, 691), (73, 766, 767), (73, 383, 384), (73, 391, 392), (73, 395, 396), (73, 432, 433), (73, 451, 452), (73, 405, 406), (73, 427, 428), (73, 443, 444), (73, 448, 1), (73, 882, 883), (79, 661, 11), (79, 656, 657), (79, 698, 699), (79, 706, 707)]
set_option maxRecDepth 100000 in
theorem zmok_1 : (zmt_1.zip zmw_1).all (fun e => zmok e.1 e.2) = true := by decide +kernel
theorem zml_1 : zmt_1.length = zmw_1.length := by decide +kernel
theorem zcd_Qu_latest : Cond.code (⟨"BoxHedge$Questions", "latest", "(I)I"⟩ : MethodName) prog_6_method_6_code 2 (some .int) ∈ zgood := zgood_in3 (List.mem_of_getElem? (i := 165) rfl) rfl
theorem zcd_Qu_reaches : Cond.code (⟨"BoxHedge$Questions", "reaches", "(III)Z"⟩ : MethodName) prog_6_method_7_code 8 (some .boolean) ∈ zgood := zgood_in3 (List.mem_of_getElem? (i := 178) rfl) rfl
theorem zcd_Qu_fewestBetween : Cond.code (⟨"BoxHedge$Questions", "fewestBetween", "(II)I"⟩ : MethodName) prog_6_method_8_code 7 (some .int) ∈ zgood := zgood_in3 (List.mem_of_getElem? (i := 173) rfl) rfl
theorem zcd_Qu_eachNeededBetween : Cond.code (⟨"BoxHedge$Questions", "eachNeededBetween", "(II)I"⟩ : MethodName) prog_6_method_9_code 5 (some .int) ∈ zgood := zgood_in3 (List.mem_of_getElem? (i := 188) rfl) rfl
theorem zcd_Qu_comingBack : Cond.code (⟨"BoxHedge$Questions", "comingBack", "(III)I"⟩ : MethodName) prog_6_method_10_code 8 (some .int) ∈ zgood := zgood_in3 (List.mem_of_getElem? (i := 196) rfl) rfl
theorem zcd_Qu_hearersOfTheFirst : Cond.code (⟨"BoxHedge$Questions", "hearersOfTheFirst", "(II)I"⟩ : MethodName) prog_6_method_11_code 7 (some .int) ∈ zgood := zgood_in3 (List.mem_of_getElem? (i := 205) rfl) rfl
theorem zcd_Qu_soonestTouch : Cond.code (⟨"BoxHedge$Questions", "soonestTouch", "(II)I"⟩ : MethodName) prog_6_method_12_code 9 (some .int) ∈ zgood := zgood_in3 (List.mem_of_getElem? (i := 213) rfl) rfl
theorem zcd_Qu_hoursWithTouch : Cond.code (⟨"BoxHedge$Questions", "hoursWithTouch", "(IIII)I"⟩ : MethodName) prog_6_method_13_code 6 (some .int) ∈ zgood := zgood_in3 (List.mem_of_getElem? (i := 230) rfl) rfl
theorem zcd_Qu_bestListener : Cond.code (⟨"BoxHedge$Questions", "bestListener", "(I)I"⟩ : MethodName) prog_6_method_14_code 6 (some .int) ∈ zgood := zgood_in3 (List.mem_of_getElem? (i := 239) rfl) rfl
theorem zcd_Qu_unlikeHearings : Cond.code (⟨"BoxHedge$Questions", "unlikeHearings", "(I)I"⟩ : MethodName) prog_6_method_15_code 7 (some .int) ∈ zgood := zgood_in4 (List.mem_of_getElem? (i := 3) rfl) rfl
theorem zcd_Qu_waysToHaveSaid : Cond.code (⟨"BoxHedge$Questions", "waysToHaveSaid", "(Z)I"⟩ : MethodName) prog_6_method_16_code 5 (some .int) ∈ zgood := zgood_in4 (List.mem_of_getElem? (i := 23) rfl) rfl
theorem zcd_Qu_isSeenInTime : Cond.code (⟨"BoxHedge$Questions", "isSeenInTime", "()Z"⟩ : MethodName) prog_6_method_17_code 2 (some .boolean) ∈ zgood := zgood_in4 (List.mem_of_getElem? (i := 27) rfl) rfl
theorem zcd_Qu_isSeenAsWords : Cond.code (⟨"BoxHedge$Questions", "isSeenAsWords", "()Z"⟩ : MethodName) prog_6_method_18_code 2 (some .boolean) ∈ zgood := zgood_in4 (List.mem_of_getElem? (i := 35) rfl) rfl
theorem zcd_Qu_oddsBetween : Cond.code (⟨"BoxHedge$Questions", "oddsBetween", "(III)J"⟩ : MethodName) prog_6_method_19_code 7 (some .long) ∈ zgood := zgood_in4 (List.mem_of_getElem? (i := 44) rfl) rfl
theorem zcd_Qu_meanHours : Cond.code (⟨"BoxHedge$Questions", "meanHours", "(II)J"⟩ : MethodName) prog_6_method_20_code 5 (some .long) ∈ zgood := zgood_in4 (List.mem_of_getElem? (i := 57) rfl) rfl
theorem zcd_Qu_lowest : Cond.code (⟨"BoxHedge$Questions", "lowest", "(III)J"⟩ : MethodName) prog_6_method_21_code 4 (some .long) ∈ zgood := zgood_in4 (List.mem_of_getElem? (i := 48) rfl) rfl
theorem zcds_2 : ∀ e ∈ zmt_2, Cond.code e.1 e.2.1 e.2.2.1 e.2.2.2.1 ∈ zgood := List.forall_mem_cons.mpr ⟨zcd_Qu_latest, List.forall_mem_cons.mpr ⟨zcd_Qu_reaches, List.forall_mem_cons.mpr ⟨zcd_Qu_fewestBetween, List.forall_mem_cons.mpr ⟨zcd_Qu_eachNeededBetween, List.forall_mem_cons.mpr ⟨zcd_Qu_comingBack, List.forall_mem_cons.mpr ⟨zcd_Qu_hearersOfTheFirst, List.forall_mem_cons.mpr ⟨zcd_Qu_soonestTouch, List.forall_mem_cons.mpr ⟨zcd_Qu_hoursWithTouch, List.forall_mem_cons.mpr ⟨zcd_Qu_bestListener, List.forall_mem_cons.mpr ⟨zcd_Qu_unlikeHearings, List.forall_mem_cons.mpr ⟨zcd_Qu_waysToHaveSaid, List.forall_mem_cons.mpr ⟨zcd_Qu_isSeenInTime, List.forall_mem_cons.mpr ⟨zcd_Qu_isSeenAsWords, List.forall_mem_cons.mpr ⟨zcd_Qu_oddsBetween, List.forall_mem_cons.mpr ⟨zcd_Qu_meanHours, List.forall_mem_cons.mpr ⟨zcd_Qu_lowest, fun _ h => absurd h List.not_mem_nil⟩⟩⟩⟩⟩⟩⟩⟩⟩⟩⟩⟩⟩⟩⟩⟩
def zmw_2 : List (Nat × Nat × Nat) := [(79, 714, 715), (79, 728, 14), (79, 722, 723), (79, 737, 738), (79, 745, 746), (79, 754, 755), (79, 762, 763), (79, 780, 15), (79, 788, 789), (79, 793, 16), (79, 812, 813), (79, 817, 17), (79, 825, 18), (79, 833, 834), (79, 846, 847), (79, 838, 0)]
set_option maxRecDepth 100000 in
theorem zmok_2 : (zmt_2.zip zmw_2).all (fun e => zmok e.1 e.2) = true := by decide +kernel
theorem zml_2 : zmt_2.length = zmw_2.length := by decide +kernel
theorem zcd_Qu_hoursAfterThePlan : Cond.code (⟨"BoxHedge$Questions", "hoursAfterThePlan", "(II)I"⟩ : MethodName) prog_6_method_22_code 5 (some .int) ∈ zgood := zgood_in4 (List.mem_of_getElem? (i := 69) rfl) rfl
theorem zcd_Qu_firstWrongInTheBook : Cond.code (⟨"BoxHedge$Questions", "firstWrongInTheBook", "()I"⟩ : MethodName) prog_6_method_23_code 2 (some .int) ∈ zgood := zgood_in4 (List.mem_of_getElem? (i := 82) rfl) rfl
theorem zcd_Reader_add : Cond.code (⟨"BoxHedge$Reader", "add", "(I)I"⟩ : MethodName) prog_7_method_2_code 2 (some .int) ∈ zgood := zgood_in2 (List.mem_of_getElem? (i := 166) rfl) rfl
theorem zcd_Reader_readInto : Cond.code (⟨"BoxHedge$Reader", "readInto", "(LBoxHedge$Garden;)I"⟩ : MethodName) prog_7_method_3_code 4 (some .int) ∈ zgood := zgood_in2 (List.mem_of_getElem? (i := 174) rfl) rfl
theorem zcd_Reader_isClause : Cond.code (⟨"BoxHedge$Reader", "isClause", "()Z"⟩ : MethodName) prog_7_method_4_code 3 (some .boolean) ∈ zgood := zgood_in2 (List.mem_of_getElem? (i := 182) rfl) rfl
theorem zcd_Reader_spelled : Cond.code (⟨"BoxHedge$Reader", "spelled", "(I)Ljava/lang/String;"⟩ : MethodName) prog_7_method_5_code 1 (some (.object "java/lang/String")) ∈ zgood := zgood_in3 (List.mem_of_getElem? (i := 23) rfl) rfl
theorem zcd_Reader_isEither : Cond.code (⟨"BoxHedge$Reader", "isEither", "(I)Z"⟩ : MethodName) prog_7_method_6_code 3 (some .boolean) ∈ zgood := zgood_in3 (List.mem_of_getElem? (i := 68) rfl) rfl
theorem zcd_Reader_isBoth : Cond.code (⟨"BoxHedge$Reader", "isBoth", "(I)Z"⟩ : MethodName) prog_7_method_7_code 3 (some .boolean) ∈ zgood := zgood_in3 (List.mem_of_getElem? (i := 72) rfl) rfl
theorem zcd_Reader_isPart : Cond.code (⟨"BoxHedge$Reader", "isPart", "(I)Z"⟩ : MethodName) prog_7_method_8_code 4 (some .boolean) ∈ zgood := zgood_in3 (List.mem_of_getElem? (i := 76) rfl) rfl
theorem zcd_Reader_isTest : Cond.code (⟨"BoxHedge$Reader", "isTest", "()Z"⟩ : MethodName) prog_7_method_9_code 4 (some .boolean) ∈ zgood := zgood_in3 (List.mem_of_getElem? (i := 80) rfl) rfl
theorem zcd_Reader_number : Cond.code (⟨"BoxHedge$Reader", "number", "()I"⟩ : MethodName) prog_7_method_10_code 4 (some .int) ∈ zgood := zgood_in3 (List.mem_of_getElem? (i := 60) rfl) rfl
theorem zcd_Reader_skipsAll : Cond.code (⟨"BoxHedge$Reader", "skipsAll", "(Ljava/lang/String;)Z"⟩ : MethodName) prog_7_method_11_code 3 (some .boolean) ∈ zgood := zgood_in3 (List.mem_of_getElem? (i := 31) rfl) rfl
theorem zcd_Reader_skips : Cond.code (⟨"BoxHedge$Reader", "skips", "(C)Z"⟩ : MethodName) prog_7_method_12_code 2 (some .boolean) ∈ zgood := zgood_in3 (List.mem_of_getElem? (i := 56) rfl) rfl
theorem zcd_Reader_here : Cond.code (⟨"BoxHedge$Reader", "here", "()C"⟩ : MethodName) prog_7_method_13_code 1 (some .char) ∈ zgood := zgood_in2 (List.mem_of_getElem? (i := 187) rfl) rfl
theorem zcd_Rows_become : Cond.code (⟨"BoxHedge$Rows", "become", "(LBoxHedge$Rows;)V"⟩ : MethodName) prog_8_method_2_code 2 none ∈ zgood := zgood_in3 (List.mem_of_getElem? (i := 224) rfl) rfl
theorem zcd_Rows_add : Cond.code (⟨"BoxHedge$Rows", "add", "(III)I"⟩ : MethodName) prog_8_method_3_code 5 (some .int) ∈ zgood := zgood_in4 (List.mem_of_getElem? (i := 15) rfl) rfl
theorem zcds_3 : ∀ e ∈ zmt_3, Cond.code e.1 e.2.1 e.2.2.1 e.2.2.2.1 ∈ zgood := List.forall_mem_cons.mpr ⟨zcd_Qu_hoursAfterThePlan, List.forall_mem_cons.mpr ⟨zcd_Qu_firstWrongInTheBook, List.forall_mem_cons.mpr ⟨zcd_Reader_add, List.forall_mem_cons.mpr ⟨zcd_Reader_readInto, List.forall_mem_cons.mpr ⟨zcd_Reader_isClause, List.forall_mem_cons.mpr ⟨zcd_Reader_spelled, List.forall_mem_cons.mpr ⟨zcd_Reader_isEither, List.forall_mem_cons.mpr ⟨zcd_Reader_isBoth, List.forall_mem_cons.mpr ⟨zcd_Reader_isPart, List.forall_mem_cons.mpr ⟨zcd_Reader_isTest, List.forall_mem_cons.mpr ⟨zcd_Reader_number, List.forall_mem_cons.mpr ⟨zcd_Reader_skipsAll, List.forall_mem_cons.mpr ⟨zcd_Reader_skips, List.forall_mem_cons.mpr ⟨zcd_Reader_here, List.forall_mem_cons.mpr ⟨zcd_Rows_become, List.forall_mem_cons.mpr ⟨zcd_Rows_add, fun _ h => absurd h List.not_mem_nil⟩⟩⟩⟩⟩⟩⟩⟩⟩⟩⟩⟩⟩⟩⟩⟩
def zmw_3 : List (Nat × Nat × Nat) := [(79, 858, 859), (79, 871, 872), (78, 475, 476), (78, 483, 484), (78, 492, 2), (78, 573, 0), (78, 618, 7), (78, 622, 8), (78, 626, 9), (78, 630, 10), (78, 610, 6), (78, 581, 4), (78, 606, 5), (78, 497, 3), (74, 773, 774), (74, 804, 805)]
set_option maxRecDepth 100000 in
theorem zmok_3 : (zmt_3.zip zmw_3).all (fun e => zmok e.1 e.2) = true := by decide +kernel
theorem zml_3 : zmt_3.length = zmw_3.length := by decide +kernel
theorem zcd_Rows_empty : Cond.code (⟨"BoxHedge$Rows", "empty", "()I"⟩ : MethodName) prog_8_method_4_code 1 (some .int) ∈ zgood := zgood_in4 (List.mem_of_getElem? (i := 11) rfl) rfl
theorem zcd_Rows_cell : Cond.code (⟨"BoxHedge$Rows", "cell", "(II)I"⟩ : MethodName) prog_8_method_5_code 3 (some .int) ∈ zgood := zgood_in4 (List.mem_of_getElem? (i := 31) rfl) rfl
theorem zcd_Tape_become : Cond.code (⟨"BoxHedge$Tape", "become", "(II)I"⟩ : MethodName) prog_9_method_2_code 4 (some .int) ∈ zgood := zgood_in4 (List.mem_of_getElem? (i := 153) rfl) rfl
theorem zcd_Tape_fitted : Cond.code (⟨"BoxHedge$Tape", "fitted", "(J)J"⟩ : MethodName) prog_9_method_3_code 3 (some .long) ∈ zgood := zgood_in4 (List.mem_of_getElem? (i := 161) rfl) rfl
theorem zcd_Tape_spans : Cond.code (⟨"BoxHedge$Tape", "spans", "(II)Z"⟩ : MethodName) prog_9_method_4_code 3 (some .boolean) ∈ zgood := zgood_in4 (List.mem_of_getElem? (i := 173) rfl) rfl
theorem zcd_Box_plant : Cond.code (⟨"BoxHedge", "plant", "(II)I"⟩ : MethodName) prog_1_method_2_code 3 (some .int) ∈ zgood := zgood_in2 (List.mem_of_getElem? (i := 70) rfl) rfl
theorem zcd_Box_of : Cond.code (⟨"BoxHedge", "of", "(II)I"⟩ : MethodName) prog_1_method_3_code 3 (some .int) ∈ zgood := zgood_in2 (List.mem_of_getElem? (i := 78) rfl) rfl
theorem zcd_Box_says : Cond.code (⟨"BoxHedge", "says", "(II)I"⟩ : MethodName) prog_1_method_4_code 3 (some .int) ∈ zgood := zgood_in2 (List.mem_of_getElem? (i := 127) rfl) rfl
theorem zcd_Box_touch : Cond.code (⟨"BoxHedge", "touch", "(IIZ)I"⟩ : MethodName) prog_1_method_5_code 5 (some .int) ∈ zgood := zgood_in2 (List.mem_of_getElem? (i := 146) rfl) rfl
theorem zcd_Box_kill : Cond.code (⟨"BoxHedge", "kill", "(IZ)I"⟩ : MethodName) prog_1_method_6_code 4 (some .int) ∈ zgood := zgood_in2 (List.mem_of_getElem? (i := 154) rfl) rfl
theorem zcd_Box_row : Cond.code (⟨"BoxHedge", "row", "(III)I"⟩ : MethodName) prog_1_method_7_code 6 (some .int) ∈ zgood := zgood_in2 (List.mem_of_getElem? (i := 158) rfl) rfl
theorem zcd_Box_feed : Cond.code (⟨"BoxHedge", "feed", "(I)I"⟩ : MethodName) prog_1_method_8_code 2 (some .int) ∈ zgood := zgood_in2 (List.mem_of_getElem? (i := 162) rfl) rfl
theorem zcd_Box_garden : Cond.code (⟨"BoxHedge", "garden", "()I"⟩ : MethodName) prog_1_method_9_code 2 (some .int) ∈ zgood := zgood_in2 (List.mem_of_getElem? (i := 170) rfl) rfl
theorem zcd_Box_told : Cond.code (⟨"BoxHedge", "told", "(I)I"⟩ : MethodName) prog_1_method_10_code 2 (some .int) ∈ zgood := zgood_in3 (List.mem_of_getElem? (i := 93) rfl) rfl
theorem zcd_Box_pass : Cond.code (⟨"BoxHedge", "pass", "(I)I"⟩ : MethodName) prog_1_method_11_code 2 (some .int) ∈ zgood := zgood_in3 (List.mem_of_getElem? (i := 99) rfl) rfl
theorem zcd_Box_heard : Cond.code (⟨"BoxHedge", "heard", "(IIII)I"⟩ : MethodName) prog_1_method_12_code 5 (some .int) ∈ zgood := zgood_in3 (List.mem_of_getElem? (i := 103) rfl) rfl
theorem zcds_4 : ∀ e ∈ zmt_4, Cond.code e.1 e.2.1 e.2.2.1 e.2.2.2.1 ∈ zgood := List.forall_mem_cons.mpr ⟨zcd_Rows_empty, List.forall_mem_cons.mpr ⟨zcd_Rows_cell, List.forall_mem_cons.mpr ⟨zcd_Tape_become, List.forall_mem_cons.mpr ⟨zcd_Tape_fitted, List.forall_mem_cons.mpr ⟨zcd_Tape_spans, List.forall_mem_cons.mpr ⟨zcd_Box_plant, List.forall_mem_cons.mpr ⟨zcd_Box_of, List.forall_mem_cons.mpr ⟨zcd_Box_says, List.forall_mem_cons.mpr ⟨zcd_Box_touch, List.forall_mem_cons.mpr ⟨zcd_Box_kill, List.forall_mem_cons.mpr ⟨zcd_Box_row, List.forall_mem_cons.mpr ⟨zcd_Box_feed, List.forall_mem_cons.mpr ⟨zcd_Box_garden, List.forall_mem_cons.mpr ⟨zcd_Box_told, List.forall_mem_cons.mpr ⟨zcd_Box_pass, List.forall_mem_cons.mpr ⟨zcd_Box_heard, fun _ h => absurd h List.not_mem_nil⟩⟩⟩⟩⟩⟩⟩⟩⟩⟩⟩⟩⟩⟩⟩⟩
def zmw_4 : List (Nat × Nat × Nat) := [(74, 800, 801), (74, 820, 821), (82, 942, 943), (82, 950, 951), (82, 962, 963), (72, 379, 380), (72, 387, 388), (72, 436, 437), (72, 455, 456), (72, 463, 464), (72, 467, 468), (72, 471, 472), (72, 479, 480), (72, 642, 643), (72, 648, 649), (72, 652, 653)]
set_option maxRecDepth 100000 in
theorem zmok_4 : (zmt_4.zip zmw_4).all (fun e => zmok e.1 e.2) = true := by decide +kernel
theorem zml_4 : zmt_4.length = zmw_4.length := by decide +kernel
theorem zcd_Box_by : Cond.code (⟨"BoxHedge", "by", "(II)I"⟩ : MethodName) prog_1_method_13_code 3 (some .int) ∈ zgood := zgood_in3 (List.mem_of_getElem? (i := 145) rfl) rfl
theorem zcd_Box_right : Cond.code (⟨"BoxHedge", "right", "(II)I"⟩ : MethodName) prog_1_method_14_code 3 (some .int) ∈ zgood := zgood_in3 (List.mem_of_getElem? (i := 153) rfl) rfl
theorem zcd_Box_last : Cond.code (⟨"BoxHedge", "last", "(I)I"⟩ : MethodName) prog_1_method_15_code 2 (some .int) ∈ zgood := zgood_in3 (List.mem_of_getElem? (i := 161) rfl) rfl
theorem zcd_Box_cut : Cond.code (⟨"BoxHedge", "cut", "(III)I"⟩ : MethodName) prog_1_method_16_code 5 (some .int) ∈ zgood := zgood_in3 (List.mem_of_getElem? (i := 169) rfl) rfl
theorem zcd_Box_needed : Cond.code (⟨"BoxHedge", "needed", "(II)I"⟩ : MethodName) prog_1_method_17_code 3 (some .int) ∈ zgood := zgood_in3 (List.mem_of_getElem? (i := 184) rfl) rfl
theorem zcd_Box_round : Cond.code (⟨"BoxHedge", "round", "(III)I"⟩ : MethodName) prog_1_method_18_code 4 (some .int) ∈ zgood := zgood_in3 (List.mem_of_getElem? (i := 192) rfl) rfl
theorem zcd_Box_meet : Cond.code (⟨"BoxHedge", "meet", "(II)I"⟩ : MethodName) prog_1_method_19_code 3 (some .int) ∈ zgood := zgood_in3 (List.mem_of_getElem? (i := 201) rfl) rfl
theorem zcd_Box_join : Cond.code (⟨"BoxHedge", "join", "(III)I"⟩ : MethodName) prog_1_method_20_code 5 (some .int) ∈ zgood := zgood_in3 (List.mem_of_getElem? (i := 209) rfl) rfl
theorem zcd_Box_listen : Cond.code (⟨"BoxHedge", "listen", "(I)I"⟩ : MethodName) prog_1_method_21_code 2 (some .int) ∈ zgood := zgood_in3 (List.mem_of_getElem? (i := 235) rfl) rfl
theorem zcd_Box_see : Cond.code (⟨"BoxHedge", "see", "(III)I"⟩ : MethodName) prog_1_method_22_code 4 (some .int) ∈ zgood := zgood_in4 (List.mem_of_getElem? (i := 7) rfl) rfl
theorem zcd_Box_who : Cond.code (⟨"BoxHedge", "who", "(I)I"⟩ : MethodName) prog_1_method_23_code 2 (some .int) ∈ zgood := zgood_in4 (List.mem_of_getElem? (i := 19) rfl) rfl
theorem zcd_Box_odds : Cond.code (⟨"BoxHedge", "odds", "(III)J"⟩ : MethodName) prog_1_method_24_code 4 (some .long) ∈ zgood := zgood_in4 (List.mem_of_getElem? (i := 39) rfl) rfl
theorem zcd_Box_mean : Cond.code (⟨"BoxHedge", "mean", "(II)J"⟩ : MethodName) prog_1_method_25_code 3 (some .long) ∈ zgood := zgood_in4 (List.mem_of_getElem? (i := 53) rfl) rfl
theorem zcd_Box_plan : Cond.code (⟨"BoxHedge", "plan", "(II)I"⟩ : MethodName) prog_1_method_26_code 3 (some .int) ∈ zgood := zgood_in4 (List.mem_of_getElem? (i := 61) rfl) rfl
theorem zcd_Box_planned : Cond.code (⟨"BoxHedge", "planned", "(II)I"⟩ : MethodName) prog_1_method_27_code 3 (some .int) ∈ zgood := zgood_in4 (List.mem_of_getElem? (i := 65) rfl) rfl
theorem zcd_Box_book : Cond.code (⟨"BoxHedge", "book", "(III)I"⟩ : MethodName) prog_1_method_28_code 4 (some .int) ∈ zgood := zgood_in4 (List.mem_of_getElem? (i := 74) rfl) rfl
theorem zcds_5 : ∀ e ∈ zmt_5, Cond.code e.1 e.2.1 e.2.2.1 e.2.2.2.1 ∈ zgood := List.forall_mem_cons.mpr ⟨zcd_Box_by, List.forall_mem_cons.mpr ⟨zcd_Box_right, List.forall_mem_cons.mpr ⟨zcd_Box_last, List.forall_mem_cons.mpr ⟨zcd_Box_cut, List.forall_mem_cons.mpr ⟨zcd_Box_needed, List.forall_mem_cons.mpr ⟨zcd_Box_round, List.forall_mem_cons.mpr ⟨zcd_Box_meet, List.forall_mem_cons.mpr ⟨zcd_Box_join, List.forall_mem_cons.mpr ⟨zcd_Box_listen, List.forall_mem_cons.mpr ⟨zcd_Box_see, List.forall_mem_cons.mpr ⟨zcd_Box_who, List.forall_mem_cons.mpr ⟨zcd_Box_odds, List.forall_mem_cons.mpr ⟨zcd_Box_mean, List.forall_mem_cons.mpr ⟨zcd_Box_plan, List.forall_mem_cons.mpr ⟨zcd_Box_planned, List.forall_mem_cons.mpr ⟨zcd_Box_book, fun _ h => absurd h List.not_mem_nil⟩⟩⟩⟩⟩⟩⟩⟩⟩⟩⟩⟩⟩⟩⟩⟩
def zmw_5 : List (Nat × Nat × Nat) := [(72, 694, 695), (72, 702, 703), (72, 710, 711), (72, 718, 719), (72, 733, 734), (72, 741, 742), (72, 750, 751), (72, 758, 759), (72, 784, 785), (72, 796, 797), (72, 808, 809), (72, 828, 829), (72, 842, 843), (72, 850, 851), (72, 854, 855), (72, 863, 864)]
set_option maxRecDepth 100000 in
theorem zmok_5 : (zmt_5.zip zmw_5).all (fun e => zmok e.1 e.2) = true := by decide +kernel
theorem zml_5 : zmt_5.length = zmw_5.length := by decide +kernel
theorem zcd_Box_looked : Cond.code (⟨"BoxHedge", "looked", "()I"⟩ : MethodName) prog_1_method_29_code 1 (some .int) ∈ zgood := zgood_in4 (List.mem_of_getElem? (i := 78) rfl) rfl
theorem zcd_Box_judge : Cond.code (⟨"BoxHedge", "judge", "(II)I"⟩ : MethodName) prog_1_method_30_code 4 (some .int) ∈ zgood := zgood_in4 (List.mem_of_getElem? (i := 86) rfl) rfl
theorem zcd_Box_image : Cond.code (⟨"BoxHedge", "image", "()I"⟩ : MethodName) prog_1_method_31_code 1 (some .int) ∈ zgood := zgood_in4 (List.mem_of_getElem? (i := 97) rfl) rfl
theorem zcd_Box_undo : Cond.code (⟨"BoxHedge", "undo", "()I"⟩ : MethodName) prog_1_method_32_code 1 (some .int) ∈ zgood := zgood_in4 (List.mem_of_getElem? (i := 102) rfl) rfl
theorem zcd_Box_act : Cond.code (⟨"BoxHedge", "act", "(III)I"⟩ : MethodName) prog_1_method_33_code 4 (some .int) ∈ zgood := zgood_in4 (List.mem_of_getElem? (i := 106) rfl) rfl
theorem zcd_Box_trace : Cond.code (⟨"BoxHedge", "trace", "(I)I"⟩ : MethodName) prog_1_method_34_code 2 (some .int) ∈ zgood := zgood_in4 (List.mem_of_getElem? (i := 133) rfl) rfl
theorem zcd_Box_taken : Cond.code (⟨"BoxHedge", "taken", "(II)I"⟩ : MethodName) prog_1_method_35_code 4 (some .int) ∈ zgood := zgood_in4 (List.mem_of_getElem? (i := 137) rfl) rfl
theorem zcd_Box_count : Cond.code (⟨"BoxHedge", "count", "(I)I"⟩ : MethodName) prog_1_method_36_code 2 (some .int) ∈ zgood := zgood_in4 (List.mem_of_getElem? (i := 145) rfl) rfl
theorem zcd_Box_tape : Cond.code (⟨"BoxHedge", "tape", "(III)I"⟩ : MethodName) prog_1_method_37_code 4 (some .int) ∈ zgood := zgood_in4 (List.mem_of_getElem? (i := 149) rfl) rfl
theorem zcd_Box_item : Cond.code (⟨"BoxHedge", "item", "(IIJ)I"⟩ : MethodName) prog_1_method_38_code 6 (some .int) ∈ zgood := zgood_in4 (List.mem_of_getElem? (i := 157) rfl) rfl
theorem zcd_Box_read : Cond.code (⟨"BoxHedge", "read", "(II)J"⟩ : MethodName) prog_1_method_39_code 3 (some .long) ∈ zgood := zgood_in4 (List.mem_of_getElem? (i := 165) rfl) rfl
theorem zcd_Box_shift : Cond.code (⟨"BoxHedge", "shift", "(IIIII)I"⟩ : MethodName) prog_1_method_40_code 8 (some .int) ∈ zgood := zgood_in4 (List.mem_of_getElem? (i := 169) rfl) rfl
theorem zcd_Box_isWord : Cond.code (⟨"BoxHedge", "isWord", "(I)Z"⟩ : MethodName) prog_1_method_41_code 1 (some .boolean) ∈ zgood := zgood_in2 (List.mem_of_getElem? (i := 130) rfl) rfl
theorem zcd_Box_isTape : Cond.code (⟨"BoxHedge", "isTape", "(I)Z"⟩ : MethodName) prog_1_method_42_code 1 (some .boolean) ∈ zgood := zgood_in4 (List.mem_of_getElem? (i := 89) rfl) rfl
theorem zcd_Box_isUnder : Cond.code (⟨"BoxHedge", "isUnder", "(II)Z"⟩ : MethodName) prog_1_method_43_code 4 (some .boolean) ∈ zgood := zgood_in4 (List.mem_of_getElem? (i := 140) rfl) rfl
theorem zcd_Box_bit : Cond.code (⟨"BoxHedge", "bit", "(I)I"⟩ : MethodName) prog_1_method_44_code 1 (some .int) ∈ zgood := zgood_in2 (List.mem_of_getElem? (i := 92) rfl) rfl
theorem zcds_6 : ∀ e ∈ zmt_6, Cond.code e.1 e.2.1 e.2.2.1 e.2.2.2.1 ∈ zgood := List.forall_mem_cons.mpr ⟨zcd_Box_looked, List.forall_mem_cons.mpr ⟨zcd_Box_judge, List.forall_mem_cons.mpr ⟨zcd_Box_image, List.forall_mem_cons.mpr ⟨zcd_Box_undo, List.forall_mem_cons.mpr ⟨zcd_Box_act, List.forall_mem_cons.mpr ⟨zcd_Box_trace, List.forall_mem_cons.mpr ⟨zcd_Box_taken, List.forall_mem_cons.mpr ⟨zcd_Box_count, List.forall_mem_cons.mpr ⟨zcd_Box_tape, List.forall_mem_cons.mpr ⟨zcd_Box_item, List.forall_mem_cons.mpr ⟨zcd_Box_read, List.forall_mem_cons.mpr ⟨zcd_Box_shift, List.forall_mem_cons.mpr ⟨zcd_Box_isWord, List.forall_mem_cons.mpr ⟨zcd_Box_isTape, List.forall_mem_cons.mpr ⟨zcd_Box_isUnder, List.forall_mem_cons.mpr ⟨zcd_Box_bit, fun _ h => absurd h List.not_mem_nil⟩⟩⟩⟩⟩⟩⟩⟩⟩⟩⟩⟩⟩⟩⟩⟩
def zmw_6 : List (Nat × Nat × Nat) := [(72, 867, 868), (72, 875, 876), (72, 886, 887), (72, 891, 892), (72, 895, 896), (72, 922, 923), (72, 926, 927), (72, 934, 935), (72, 938, 939), (72, 946, 947), (72, 954, 955), (72, 958, 959), (72, 440, 0), (72, 879, 0), (72, 930, 0), (72, 402, 0)]
set_option maxRecDepth 100000 in
theorem zmok_6 : (zmt_6.zip zmw_6).all (fun e => zmok e.1 e.2) = true := by decide +kernel
theorem zml_6 : zmt_6.length = zmw_6.length := by decide +kernel
theorem zcd_Box_holds : Cond.code (⟨"BoxHedge", "holds", "(II)Z"⟩ : MethodName) prog_1_method_45_code 2 (some .boolean) ∈ zgood := zgood_in2 (List.mem_of_getElem? (i := 89) rfl) rfl
theorem zcd_Box_with : Cond.code (⟨"BoxHedge", "with", "(IIZ)I"⟩ : MethodName) prog_1_method_46_code 3 (some .int) ∈ zgood := zgood_in2 (List.mem_of_getElem? (i := 149) rfl) rfl
theorem zcd_Mod_in : Cond.code (⟨"BoxHedgeModel", "in", "(III)Z"⟩ : MethodName) prog_11_method_2_code 4 (some .boolean) ∈ zgood := zgood_in5 (List.mem_of_getElem? (i := 160) rfl) rfl
theorem zcd_Mod_has : Cond.code (⟨"BoxHedgeModel", "has", "(II)Z"⟩ : MethodName) prog_11_method_3_code 3 (some .boolean) ∈ zgood := zgood_in5 (List.mem_of_getElem? (i := 172) rfl) rfl
theorem zcd_Mod_ones : Cond.code (⟨"BoxHedgeModel", "ones", "(I)I"⟩ : MethodName) prog_11_method_4_code 4 (some .int) ∈ zgood := zgood_in6 (List.mem_of_getElem? (i := 52) rfl) rfl
theorem zcd_Mod_isPlant : Cond.code (⟨"BoxHedgeModel", "isPlant", "(I)Z"⟩ : MethodName) prog_11_method_5_code 2 (some .boolean) ∈ zgood := zgood_in5 (List.mem_of_getElem? (i := 168) rfl) rfl
theorem zcd_Mod_isWord : Cond.code (⟨"BoxHedgeModel", "isWord", "(I)Z"⟩ : MethodName) prog_11_method_6_code 2 (some .boolean) ∈ zgood := zgood_in6 (List.mem_of_getElem? (i := 12) rfl) rfl
theorem zcd_Mod_plant : Cond.code (⟨"BoxHedgeModel", "plant", "(II)I"⟩ : MethodName) prog_11_method_7_code 4 (some .int) ∈ zgood := zgood_in5 (List.mem_of_getElem? (i := 156) rfl) rfl
theorem zcd_Mod_touch : Cond.code (⟨"BoxHedgeModel", "touch", "(IIZ)I"⟩ : MethodName) prog_11_method_8_code 5 (some .int) ∈ zgood := zgood_in5 (List.mem_of_getElem? (i := 164) rfl) rfl
theorem zcd_Mod_kill : Cond.code (⟨"BoxHedgeModel", "kill", "(IZ)I"⟩ : MethodName) prog_11_method_9_code 4 (some .int) ∈ zgood := zgood_in5 (List.mem_of_getElem? (i := 176) rfl) rfl
theorem zcd_Mod_row : Cond.code (⟨"BoxHedgeModel", "row", "(III)I"⟩ : MethodName) prog_11_method_10_code 5 (some .int) ∈ zgood := zgood_in5 (List.mem_of_getElem? (i := 180) rfl) rfl
theorem zcd_Mod_feed : Cond.code (⟨"BoxHedgeModel", "feed", "(I)I"⟩ : MethodName) prog_11_method_11_code 2 (some .int) ∈ zgood := zgood_in5 (List.mem_of_getElem? (i := 184) rfl) rfl
theorem zcd_Mod_next : Cond.code (⟨"BoxHedgeModel", "next", "()I"⟩ : MethodName) prog_11_method_12_code 1 (some .int) ∈ zgood := zgood_in5 (List.mem_of_getElem? (i := 204) rfl) rfl
theorem zcd_Mod_takes : Cond.code (⟨"BoxHedgeModel", "takes", "(I)Z"⟩ : MethodName) prog_11_method_13_code 2 (some .boolean) ∈ zgood := zgood_in5 (List.mem_of_getElem? (i := 212) rfl) rfl
theorem zcd_Mod_takesWord : Cond.code (⟨"BoxHedgeModel", "takesWord", "(II)Z"⟩ : MethodName) prog_11_method_14_code 4 (some .boolean) ∈ zgood := zgood_in5 (List.mem_of_getElem? (i := 208) rfl) rfl
theorem zcd_Mod_isDigit : Cond.code (⟨"BoxHedgeModel", "isDigit", "()Z"⟩ : MethodName) prog_11_method_15_code 1 (some .boolean) ∈ zgood := zgood_in5 (List.mem_of_getElem? (i := 220) rfl) rfl
theorem zcds_7 : ∀ e ∈ zmt_7, Cond.code e.1 e.2.1 e.2.2.1 e.2.2.2.1 ∈ zgood := List.forall_mem_cons.mpr ⟨zcd_Box_holds, List.forall_mem_cons.mpr ⟨zcd_Box_with, List.forall_mem_cons.mpr ⟨zcd_Mod_in, List.forall_mem_cons.mpr ⟨zcd_Mod_has, List.forall_mem_cons.mpr ⟨zcd_Mod_ones, List.forall_mem_cons.mpr ⟨zcd_Mod_isPlant, List.forall_mem_cons.mpr ⟨zcd_Mod_isWord, List.forall_mem_cons.mpr ⟨zcd_Mod_plant, List.forall_mem_cons.mpr ⟨zcd_Mod_touch, List.forall_mem_cons.mpr ⟨zcd_Mod_kill, List.forall_mem_cons.mpr ⟨zcd_Mod_row, List.forall_mem_cons.mpr ⟨zcd_Mod_feed, List.forall_mem_cons.mpr ⟨zcd_Mod_next, List.forall_mem_cons.mpr ⟨zcd_Mod_takes, List.forall_mem_cons.mpr ⟨zcd_Mod_takesWord, List.forall_mem_cons.mpr ⟨zcd_Mod_isDigit, fun _ h => absurd h List.not_mem_nil⟩⟩⟩⟩⟩⟩⟩⟩⟩⟩⟩⟩⟩⟩⟩⟩
def zmw_7 : List (Nat × Nat × Nat) := [(72, 399, 0), (72, 459, 0), (83, 1190, 21), (83, 1202, 23), (83, 1322, 47), (83, 1198, 22), (83, 1282, 38), (83, 1185, 1186), (83, 1193, 1194), (83, 1205, 1206), (83, 1209, 1210), (83, 1213, 1214), (83, 1234, 27), (83, 1242, 29), (83, 1238, 28), (83, 1250, 31)]
set_option maxRecDepth 100000 in
theorem zmok_7 : (zmt_7.zip zmw_7).all (fun e => zmok e.1 e.2) = true := by decide +kernel
theorem zml_7 : zmt_7.length = zmw_7.length := by decide +kernel
theorem zcd_Mod_takesNumber : Cond.code (⟨"BoxHedgeModel", "takesNumber", "()Z"⟩ : MethodName) prog_11_method_16_code 2 (some .boolean) ∈ zgood := zgood_in5 (List.mem_of_getElem? (i := 216) rfl) rfl
theorem zcd_Mod_emits : Cond.code (⟨"BoxHedgeModel", "emits", "(I)V"⟩ : MethodName) prog_11_method_17_code 2 none ∈ zgood := zgood_in5 (List.mem_of_getElem? (i := 236) rfl) rfl
theorem zcd_Mod_whole : Cond.code (⟨"BoxHedgeModel", "whole", "()V"⟩ : MethodName) prog_11_method_18_code 1 none ∈ zgood := zgood_in6 (List.mem_of_getElem? (i := 0) rfl) rfl
theorem zcd_Mod_settle : Cond.code (⟨"BoxHedgeModel", "settle", "(I)V"⟩ : MethodName) prog_11_method_19_code 2 none ∈ zgood := zgood_in6 (List.mem_of_getElem? (i := 4) rfl) rfl
theorem zcd_Mod_place : Cond.code (⟨"BoxHedgeModel", "place", "(I)I"⟩ : MethodName) prog_11_method_20_code 2 (some .int) ∈ zgood := zgood_in5 (List.mem_of_getElem? (i := 232) rfl) rfl
theorem zcd_Mod_takesTest : Cond.code (⟨"BoxHedgeModel", "takesTest", "()Z"⟩ : MethodName) prog_11_method_21_code 3 (some .boolean) ∈ zgood := zgood_in5 (List.mem_of_getElem? (i := 228) rfl) rfl
theorem zcd_Mod_takesE : Cond.code (⟨"BoxHedgeModel", "takesE", "(I)Z"⟩ : MethodName) prog_11_method_22_code 4 (some .boolean) ∈ zgood := zgood_in5 (List.mem_of_getElem? (i := 224) rfl) rfl
theorem zcd_Mod_takesHead : Cond.code (⟨"BoxHedgeModel", "takesHead", "(I)Z"⟩ : MethodName) prog_11_method_23_code 2 (some .boolean) ∈ zgood := zgood_in5 (List.mem_of_getElem? (i := 200) rfl) rfl
theorem zcd_Mod_takesClause : Cond.code (⟨"BoxHedgeModel", "takesClause", "(I)Z"⟩ : MethodName) prog_11_method_24_code 2 (some .boolean) ∈ zgood := zgood_in5 (List.mem_of_getElem? (i := 196) rfl) rfl
theorem zcd_Mod_goesText : Cond.code (⟨"BoxHedgeModel", "goesText", "(I)Z"⟩ : MethodName) prog_11_method_25_code 3 (some .boolean) ∈ zgood := zgood_in5 (List.mem_of_getElem? (i := 192) rfl) rfl
theorem zcd_Mod_garden : Cond.code (⟨"BoxHedgeModel", "garden", "()I"⟩ : MethodName) prog_11_method_26_code 2 (some .int) ∈ zgood := zgood_in5 (List.mem_of_getElem? (i := 188) rfl) rfl
theorem zcd_Mod_begin : Cond.code (⟨"BoxHedgeModel", "begin", "()I"⟩ : MethodName) prog_11_method_27_code 1 (some .int) ∈ zgood := zgood_in6 (List.mem_of_getElem? (i := 28) rfl) rfl
theorem zcd_Mod_behind : Cond.code (⟨"BoxHedgeModel", "behind", "()I"⟩ : MethodName) prog_11_method_28_code 1 (some .int) ∈ zgood := zgood_in6 (List.mem_of_getElem? (i := 32) rfl) rfl
theorem zcd_Mod_lastOf : Cond.code (⟨"BoxHedgeModel", "lastOf", "(II)I"⟩ : MethodName) prog_11_method_29_code 5 (some .int) ∈ zgood := zgood_in6 (List.mem_of_getElem? (i := 24) rfl) rfl
theorem zcd_Mod_frost : Cond.code (⟨"BoxHedgeModel", "frost", "()I"⟩ : MethodName) prog_11_method_30_code 1 (some .int) ∈ zgood := zgood_in6 (List.mem_of_getElem? (i := 64) rfl) rfl
theorem zcd_Mod_lose : Cond.code (⟨"BoxHedgeModel", "lose", "()I"⟩ : MethodName) prog_11_method_31_code 2 (some .int) ∈ zgood := zgood_in6 (List.mem_of_getElem? (i := 20) rfl) rfl
theorem zcds_8 : ∀ e ∈ zmt_8, Cond.code e.1 e.2.1 e.2.2.1 e.2.2.2.1 ∈ zgood := List.forall_mem_cons.mpr ⟨zcd_Mod_takesNumber, List.forall_mem_cons.mpr ⟨zcd_Mod_emits, List.forall_mem_cons.mpr ⟨zcd_Mod_whole, List.forall_mem_cons.mpr ⟨zcd_Mod_settle, List.forall_mem_cons.mpr ⟨zcd_Mod_place, List.forall_mem_cons.mpr ⟨zcd_Mod_takesTest, List.forall_mem_cons.mpr ⟨zcd_Mod_takesE, List.forall_mem_cons.mpr ⟨zcd_Mod_takesHead, List.forall_mem_cons.mpr ⟨zcd_Mod_takesClause, List.forall_mem_cons.mpr ⟨zcd_Mod_goesText, List.forall_mem_cons.mpr ⟨zcd_Mod_garden, List.forall_mem_cons.mpr ⟨zcd_Mod_begin, List.forall_mem_cons.mpr ⟨zcd_Mod_behind, List.forall_mem_cons.mpr ⟨zcd_Mod_lastOf, List.forall_mem_cons.mpr ⟨zcd_Mod_frost, List.forall_mem_cons.mpr ⟨zcd_Mod_lose, fun _ h => absurd h List.not_mem_nil⟩⟩⟩⟩⟩⟩⟩⟩⟩⟩⟩⟩⟩⟩⟩⟩
def zmw_8 : List (Nat × Nat × Nat) := [(83, 1246, 30), (83, 1266, 35), (83, 1270, 36), (83, 1274, 37), (83, 1262, 34), (83, 1258, 33), (83, 1254, 32), (83, 1230, 26), (83, 1226, 25), (83, 1222, 24), (83, 1217, 1218), (83, 1298, 42), (83, 1302, 43), (83, 1294, 41), (83, 1334, 50), (83, 1290, 40)]
set_option maxRecDepth 100000 in
theorem zmok_8 : (zmt_8.zip zmw_8).all (fun e => zmok e.1 e.2) = true := by decide +kernel
theorem zml_8 : zmt_8.length = zmw_8.length := by decide +kernel
theorem zcd_Mod_factOf : Cond.code (⟨"BoxHedgeModel", "factOf", "(II)I"⟩ : MethodName) prog_11_method_32_code 3 (some .int) ∈ zgood := zgood_in6 (List.mem_of_getElem? (i := 48) rfl) rfl
theorem zcd_Mod_holds : Cond.code (⟨"BoxHedgeModel", "holds", "(II)Z"⟩ : MethodName) prog_11_method_33_code 8 (some .boolean) ∈ zgood := zgood_in6 (List.mem_of_getElem? (i := 44) rfl) rfl
theorem zcd_Mod_atLeastOne : Cond.code (⟨"BoxHedgeModel", "atLeastOne", "(I)I"⟩ : MethodName) prog_11_method_34_code 2 (some .int) ∈ zgood := zgood_in6 (List.mem_of_getElem? (i := 56) rfl) rfl
theorem zcd_Mod_pace : Cond.code (⟨"BoxHedgeModel", "pace", "(I)I"⟩ : MethodName) prog_11_method_35_code 4 (some .int) ∈ zgood := zgood_in6 (List.mem_of_getElem? (i := 40) rfl) rfl
theorem zcd_Mod_takesLong : Cond.code (⟨"BoxHedgeModel", "takesLong", "(I)I"⟩ : MethodName) prog_11_method_36_code 3 (some .int) ∈ zgood := zgood_in6 (List.mem_of_getElem? (i := 60) rfl) rfl
theorem zcd_Mod_saysOf : Cond.code (⟨"BoxHedgeModel", "saysOf", "(II)I"⟩ : MethodName) prog_11_method_37_code 3 (some .int) ∈ zgood := zgood_in6 (List.mem_of_getElem? (i := 16) rfl) rfl
theorem zcd_Mod_says : Cond.code (⟨"BoxHedgeModel", "says", "(II)I"⟩ : MethodName) prog_11_method_38_code 3 (some .int) ∈ zgood := zgood_in6 (List.mem_of_getElem? (i := 8) rfl) rfl
theorem zcd_Mod_of : Cond.code (⟨"BoxHedgeModel", "of", "(II)I"⟩ : MethodName) prog_11_method_39_code 3 (some .int) ∈ zgood := zgood_in6 (List.mem_of_getElem? (i := 36) rfl) rfl
theorem zcd_Mod_told : Cond.code (⟨"BoxHedgeModel", "told", "(I)I"⟩ : MethodName) prog_11_method_40_code 2 (some .int) ∈ zgood := zgood_in6 (List.mem_of_getElem? (i := 68) rfl) rfl
theorem zcd_Mod_pass : Cond.code (⟨"BoxHedgeModel", "pass", "(I)I"⟩ : MethodName) prog_11_method_41_code 2 (some .int) ∈ zgood := zgood_in6 (List.mem_of_getElem? (i := 72) rfl) rfl
theorem zcd_Mod_clears : Cond.code (⟨"BoxHedgeModel", "clears", "()V"⟩ : MethodName) prog_11_method_42_code 2 none ∈ zgood := zgood_in6 (List.mem_of_getElem? (i := 84) rfl) rfl
theorem zcd_Mod_saidTo : Cond.code (⟨"BoxHedgeModel", "saidTo", "(III)V"⟩ : MethodName) prog_11_method_43_code 4 none ∈ zgood := zgood_in6 (List.mem_of_getElem? (i := 88) rfl) rfl
theorem zcd_Mod_nextOne : Cond.code (⟨"BoxHedgeModel", "nextOne", "()I"⟩ : MethodName) prog_11_method_44_code 3 (some .int) ∈ zgood := zgood_in6 (List.mem_of_getElem? (i := 96) rfl) rfl
theorem zcd_Mod_passes : Cond.code (⟨"BoxHedgeModel", "passes", "(I)V"⟩ : MethodName) prog_11_method_45_code 4 none ∈ zgood := zgood_in6 (List.mem_of_getElem? (i := 100) rfl) rfl
theorem zcd_Mod_spreads : Cond.code (⟨"BoxHedgeModel", "spreads", "()V"⟩ : MethodName) prog_11_method_46_code 2 none ∈ zgood := zgood_in6 (List.mem_of_getElem? (i := 92) rfl) rfl
theorem zcd_Mod_lay : Cond.code (⟨"BoxHedgeModel", "lay", "(II)V"⟩ : MethodName) prog_11_method_47_code 3 none ∈ zgood := zgood_in6 (List.mem_of_getElem? (i := 80) rfl) rfl
theorem zcds_9 : ∀ e ∈ zmt_9, Cond.code e.1 e.2.1 e.2.2.1 e.2.2.2.1 ∈ zgood := List.forall_mem_cons.mpr ⟨zcd_Mod_factOf, List.forall_mem_cons.mpr ⟨zcd_Mod_holds, List.forall_mem_cons.mpr ⟨zcd_Mod_atLeastOne, List.forall_mem_cons.mpr ⟨zcd_Mod_pace, List.forall_mem_cons.mpr ⟨zcd_Mod_takesLong, List.forall_mem_cons.mpr ⟨zcd_Mod_saysOf, List.forall_mem_cons.mpr ⟨zcd_Mod_says, List.forall_mem_cons.mpr ⟨zcd_Mod_of, List.forall_mem_cons.mpr ⟨zcd_Mod_told, List.forall_mem_cons.mpr ⟨zcd_Mod_pass, List.forall_mem_cons.mpr ⟨zcd_Mod_clears, List.forall_mem_cons.mpr ⟨zcd_Mod_saidTo, List.forall_mem_cons.mpr ⟨zcd_Mod_nextOne, List.forall_mem_cons.mpr ⟨zcd_Mod_passes, List.forall_mem_cons.mpr ⟨zcd_Mod_spreads, List.forall_mem_cons.mpr ⟨zcd_Mod_lay, fun _ h => absurd h List.not_mem_nil⟩⟩⟩⟩⟩⟩⟩⟩⟩⟩⟩⟩⟩⟩⟩⟩
def zmw_9 : List (Nat × Nat × Nat) := [(83, 1318, 46), (83, 1314, 45), (83, 1326, 48), (83, 1310, 44), (83, 1330, 49), (83, 1286, 39), (83, 1277, 1278), (83, 1305, 1306), (83, 1337, 1338), (83, 1341, 1342), (83, 1354, 52), (83, 1358, 53), (83, 1366, 55), (83, 1370, 56), (83, 1362, 54), (83, 1350, 51)]
set_option maxRecDepth 100000 in
theorem zmok_9 : (zmt_9.zip zmw_9).all (fun e => zmok e.1 e.2) = true := by decide +kernel
theorem zml_9 : zmt_9.length = zmw_9.length := by decide +kernel
theorem zcd_Mod_whenOf : Cond.code (⟨"BoxHedgeModel", "whenOf", "(II)I"⟩ : MethodName) prog_11_method_48_code 3 (some .int) ∈ zgood := zgood_in6 (List.mem_of_getElem? (i := 124) rfl) rfl
theorem zcd_Mod_heard : Cond.code (⟨"BoxHedgeModel", "heard", "(IIII)I"⟩ : MethodName) prog_11_method_49_code 5 (some .int) ∈ zgood := zgood_in6 (List.mem_of_getElem? (i := 76) rfl) rfl
theorem zcd_Mod_by : Cond.code (⟨"BoxHedgeModel", "by", "(II)I"⟩ : MethodName) prog_11_method_50_code 5 (some .int) ∈ zgood := zgood_in6 (List.mem_of_getElem? (i := 104) rfl) rfl
theorem zcd_Mod_right : Cond.code (⟨"BoxHedgeModel", "right", "(II)I"⟩ : MethodName) prog_11_method_51_code 5 (some .int) ∈ zgood := zgood_in6 (List.mem_of_getElem? (i := 108) rfl) rfl
theorem zcd_Mod_last : Cond.code (⟨"BoxHedgeModel", "last", "(I)I"⟩ : MethodName) prog_11_method_52_code 4 (some .int) ∈ zgood := zgood_in6 (List.mem_of_getElem? (i := 112) rfl) rfl
theorem zcd_Mod_isCutBy : Cond.code (⟨"BoxHedgeModel", "isCutBy", "(III)Z"⟩ : MethodName) prog_11_method_53_code 6 (some .boolean) ∈ zgood := zgood_in6 (List.mem_of_getElem? (i := 120) rfl) rfl
theorem zcd_Mod_cut : Cond.code (⟨"BoxHedgeModel", "cut", "(III)I"⟩ : MethodName) prog_11_method_54_code 7 (some .int) ∈ zgood := zgood_in6 (List.mem_of_getElem? (i := 116) rfl) rfl
theorem zcd_Mod_needed : Cond.code (⟨"BoxHedgeModel", "needed", "(II)I"⟩ : MethodName) prog_11_method_55_code 5 (some .int) ∈ zgood := zgood_in6 (List.mem_of_getElem? (i := 128) rfl) rfl
theorem zcd_Mod_round : Cond.code (⟨"BoxHedgeModel", "round", "(III)I"⟩ : MethodName) prog_11_method_56_code 8 (some .int) ∈ zgood := zgood_in6 (List.mem_of_getElem? (i := 132) rfl) rfl
theorem zcd_Mod_meet : Cond.code (⟨"BoxHedgeModel", "meet", "(II)I"⟩ : MethodName) prog_11_method_57_code 5 (some .int) ∈ zgood := zgood_in6 (List.mem_of_getElem? (i := 136) rfl) rfl
theorem zcd_Mod_join : Cond.code (⟨"BoxHedgeModel", "join", "(III)I"⟩ : MethodName) prog_11_method_58_code 9 (some .int) ∈ zgood := zgood_in6 (List.mem_of_getElem? (i := 140) rfl) rfl
theorem zcd_Mod_listen : Cond.code (⟨"BoxHedgeModel", "listen", "(I)I"⟩ : MethodName) prog_11_method_59_code 9 (some .int) ∈ zgood := zgood_in6 (List.mem_of_getElem? (i := 144) rfl) rfl
theorem zcd_Mod_see : Cond.code (⟨"BoxHedgeModel", "see", "(III)I"⟩ : MethodName) prog_11_method_60_code 4 (some .int) ∈ zgood := zgood_in6 (List.mem_of_getElem? (i := 148) rfl) rfl
theorem zcd_Mod_who : Cond.code (⟨"BoxHedgeModel", "who", "(I)I"⟩ : MethodName) prog_11_method_61_code 8 (some .int) ∈ zgood := zgood_in6 (List.mem_of_getElem? (i := 152) rfl) rfl
theorem zcd_Mod_divisor : Cond.code (⟨"BoxHedgeModel", "divisor", "(II)I"⟩ : MethodName) prog_11_method_62_code 6 (some .int) ∈ zgood := zgood_in6 (List.mem_of_getElem? (i := 165) rfl) rfl
theorem zcd_Mod_lowest : Cond.code (⟨"BoxHedgeModel", "lowest", "(III)J"⟩ : MethodName) prog_11_method_63_code 5 (some .long) ∈ zgood := zgood_in6 (List.mem_of_getElem? (i := 161) rfl) rfl
theorem zcds_10 : ∀ e ∈ zmt_10, Cond.code e.1 e.2.1 e.2.2.1 e.2.2.2.1 ∈ zgood := List.forall_mem_cons.mpr ⟨zcd_Mod_whenOf, List.forall_mem_cons.mpr ⟨zcd_Mod_heard, List.forall_mem_cons.mpr ⟨zcd_Mod_by, List.forall_mem_cons.mpr ⟨zcd_Mod_right, List.forall_mem_cons.mpr ⟨zcd_Mod_last, List.forall_mem_cons.mpr ⟨zcd_Mod_isCutBy, List.forall_mem_cons.mpr ⟨zcd_Mod_cut, List.forall_mem_cons.mpr ⟨zcd_Mod_needed, List.forall_mem_cons.mpr ⟨zcd_Mod_round, List.forall_mem_cons.mpr ⟨zcd_Mod_meet, List.forall_mem_cons.mpr ⟨zcd_Mod_join, List.forall_mem_cons.mpr ⟨zcd_Mod_listen, List.forall_mem_cons.mpr ⟨zcd_Mod_see, List.forall_mem_cons.mpr ⟨zcd_Mod_who, List.forall_mem_cons.mpr ⟨zcd_Mod_divisor, List.forall_mem_cons.mpr ⟨zcd_Mod_lowest, fun _ h => absurd h List.not_mem_nil⟩⟩⟩⟩⟩⟩⟩⟩⟩⟩⟩⟩⟩⟩⟩⟩
def zmw_10 : List (Nat × Nat × Nat) := [(83, 1394, 58), (83, 1345, 1346), (83, 1373, 1374), (83, 1377, 1378), (83, 1381, 1382), (83, 1390, 57), (83, 1385, 1386), (83, 1397, 1398), (83, 1401, 1402), (83, 1405, 1406), (83, 1409, 1410), (83, 1413, 1414), (83, 1417, 1418), (83, 1421, 1422), (83, 1435, 60), (83, 1431, 59)]
set_option maxRecDepth 100000 in
theorem zmok_10 : (zmt_10.zip zmw_10).all (fun e => zmok e.1 e.2) = true := by decide +kernel
theorem zml_10 : zmt_10.length = zmw_10.length := by decide +kernel
theorem zcd_Mod_odds : Cond.code (⟨"BoxHedgeModel", "odds", "(III)J"⟩ : MethodName) prog_11_method_64_code 7 (some .long) ∈ zgood := zgood_in6 (List.mem_of_getElem? (i := 156) rfl) rfl
theorem zcd_Mod_mean : Cond.code (⟨"BoxHedgeModel", "mean", "(II)J"⟩ : MethodName) prog_11_method_65_code 6 (some .long) ∈ zgood := zgood_in6 (List.mem_of_getElem? (i := 169) rfl) rfl
theorem zcd_Mod_plan : Cond.code (⟨"BoxHedgeModel", "plan", "(II)I"⟩ : MethodName) prog_11_method_66_code 3 (some .int) ∈ zgood := zgood_in6 (List.mem_of_getElem? (i := 173) rfl) rfl
theorem zcd_Mod_planned : Cond.code (⟨"BoxHedgeModel", "planned", "(II)I"⟩ : MethodName) prog_11_method_67_code 6 (some .int) ∈ zgood := zgood_in6 (List.mem_of_getElem? (i := 177) rfl) rfl
theorem zcd_Mod_book : Cond.code (⟨"BoxHedgeModel", "book", "(III)I"⟩ : MethodName) prog_11_method_68_code 4 (some .int) ∈ zgood := zgood_in6 (List.mem_of_getElem? (i := 181) rfl) rfl
theorem zcd_Mod_looked : Cond.code (⟨"BoxHedgeModel", "looked", "()I"⟩ : MethodName) prog_11_method_69_code 2 (some .int) ∈ zgood := zgood_in6 (List.mem_of_getElem? (i := 185) rfl) rfl
theorem zcd_Mod_judge : Cond.code (⟨"BoxHedgeModel", "judge", "(II)I"⟩ : MethodName) prog_11_method_70_code 6 (some .int) ∈ zgood := zgood_in6 (List.mem_of_getElem? (i := 189) rfl) rfl
theorem zcd_Mod_image : Cond.code (⟨"BoxHedgeModel", "image", "()I"⟩ : MethodName) prog_11_method_71_code 2 (some .int) ∈ zgood := zgood_in6 (List.mem_of_getElem? (i := 197) rfl) rfl
theorem zcd_Mod_undo : Cond.code (⟨"BoxHedgeModel", "undo", "()I"⟩ : MethodName) prog_11_method_72_code 2 (some .int) ∈ zgood := zgood_in6 (List.mem_of_getElem? (i := 201) rfl) rfl
theorem zcd_Mod_body : Cond.code (⟨"BoxHedgeModel", "body", "(I)V"⟩ : MethodName) prog_11_method_73_code 2 none ∈ zgood := zgood_in6 (List.mem_of_getElem? (i := 213) rfl) rfl
theorem zcd_Mod_plantHears : Cond.code (⟨"BoxHedgeModel", "plantHears", "(II)I"⟩ : MethodName) prog_11_method_74_code 3 (some .int) ∈ zgood := zgood_in6 (List.mem_of_getElem? (i := 217) rfl) rfl
theorem zcd_Mod_hearsAct : Cond.code (⟨"BoxHedgeModel", "hearsAct", "(II)I"⟩ : MethodName) prog_11_method_75_code 3 (some .int) ∈ zgood := zgood_in6 (List.mem_of_getElem? (i := 209) rfl) rfl
theorem zcd_Mod_plantSays : Cond.code (⟨"BoxHedgeModel", "plantSays", "(II)I"⟩ : MethodName) prog_11_method_76_code 3 (some .int) ∈ zgood := zgood_in6 (List.mem_of_getElem? (i := 229) rfl) rfl
theorem zcd_Mod_privetSays : Cond.code (⟨"BoxHedgeModel", "privetSays", "(II)I"⟩ : MethodName) prog_11_method_77_code 3 (some .int) ∈ zgood := zgood_in6 (List.mem_of_getElem? (i := 225) rfl) rfl
theorem zcd_Mod_saysAct : Cond.code (⟨"BoxHedgeModel", "saysAct", "(II)I"⟩ : MethodName) prog_11_method_78_code 4 (some .int) ∈ zgood := zgood_in6 (List.mem_of_getElem? (i := 221) rfl) rfl
theorem zcd_Mod_plantTells : Cond.code (⟨"BoxHedgeModel", "plantTells", "(II)I"⟩ : MethodName) prog_11_method_79_code 3 (some .int) ∈ zgood := zgood_in6 (List.mem_of_getElem? (i := 237) rfl) rfl
theorem zcds_11 : ∀ e ∈ zmt_11, Cond.code e.1 e.2.1 e.2.2.1 e.2.2.2.1 ∈ zgood := List.forall_mem_cons.mpr ⟨zcd_Mod_odds, List.forall_mem_cons.mpr ⟨zcd_Mod_mean, List.forall_mem_cons.mpr ⟨zcd_Mod_plan, List.forall_mem_cons.mpr ⟨zcd_Mod_planned, List.forall_mem_cons.mpr ⟨zcd_Mod_book, List.forall_mem_cons.mpr ⟨zcd_Mod_looked, List.forall_mem_cons.mpr ⟨zcd_Mod_judge, List.forall_mem_cons.mpr ⟨zcd_Mod_image, List.forall_mem_cons.mpr ⟨zcd_Mod_undo, List.forall_mem_cons.mpr ⟨zcd_Mod_body, List.forall_mem_cons.mpr ⟨zcd_Mod_plantHears, List.forall_mem_cons.mpr ⟨zcd_Mod_hearsAct, List.forall_mem_cons.mpr ⟨zcd_Mod_plantSays, List.forall_mem_cons.mpr ⟨zcd_Mod_privetSays, List.forall_mem_cons.mpr ⟨zcd_Mod_saysAct, List.forall_mem_cons.mpr ⟨zcd_Mod_plantTells, fun _ h => absurd h List.not_mem_nil⟩⟩⟩⟩⟩⟩⟩⟩⟩⟩⟩⟩⟩⟩⟩⟩
def zmw_11 : List (Nat × Nat × Nat) := [(83, 1425, 1426), (83, 1438, 1439), (83, 1442, 1443), (83, 1446, 1447), (83, 1450, 1451), (83, 1454, 1455), (83, 1458, 1459), (83, 1466, 1467), (83, 1470, 1471), (83, 1483, 63), (83, 1487, 64), (83, 1479, 62), (83, 1499, 67), (83, 1495, 66), (83, 1491, 65), (83, 1507, 69)]
set_option maxRecDepth 100000 in
theorem zmok_11 : (zmt_11.zip zmw_11).all (fun e => zmok e.1 e.2) = true := by decide +kernel
theorem zml_11 : zmt_11.length = zmw_11.length := by decide +kernel
theorem zcd_Mod_tellsAct : Cond.code (⟨"BoxHedgeModel", "tellsAct", "(II)I"⟩ : MethodName) prog_11_method_80_code 4 (some .int) ∈ zgood := zgood_in6 (List.mem_of_getElem? (i := 233) rfl) rfl
theorem zcd_Mod_act : Cond.code (⟨"BoxHedgeModel", "act", "(III)I"⟩ : MethodName) prog_11_method_81_code 4 (some .int) ∈ zgood := zgood_in6 (List.mem_of_getElem? (i := 205) rfl) rfl
theorem zcd_Mod_trace : Cond.code (⟨"BoxHedgeModel", "trace", "(I)I"⟩ : MethodName) prog_11_method_82_code 2 (some .int) ∈ zgood := zgood_in7 (List.mem_of_getElem? (i := 1) rfl) rfl
theorem zcd_Mod_taken : Cond.code (⟨"BoxHedgeModel", "taken", "(II)I"⟩ : MethodName) prog_11_method_83_code 4 (some .int) ∈ zgood := zgood_in7 (List.mem_of_getElem? (i := 5) rfl) rfl
theorem zcd_Mod_count : Cond.code (⟨"BoxHedgeModel", "count", "(I)I"⟩ : MethodName) prog_11_method_84_code 2 (some .int) ∈ zgood := zgood_in7 (List.mem_of_getElem? (i := 9) rfl) rfl
theorem zcd_Mod_isTape : Cond.code (⟨"BoxHedgeModel", "isTape", "(I)Z"⟩ : MethodName) prog_11_method_85_code 2 (some .boolean) ∈ zgood := zgood_in6 (List.mem_of_getElem? (i := 193) rfl) rfl
theorem zcd_Mod_tape : Cond.code (⟨"BoxHedgeModel", "tape", "(III)I"⟩ : MethodName) prog_11_method_86_code 5 (some .int) ∈ zgood := zgood_in7 (List.mem_of_getElem? (i := 13) rfl) rfl
theorem zcd_Mod_narrow : Cond.code (⟨"BoxHedgeModel", "narrow", "(IJ)J"⟩ : MethodName) prog_11_method_87_code 4 (some .long) ∈ zgood := zgood_in7 (List.mem_of_getElem? (i := 21) rfl) rfl
theorem zcd_Mod_item : Cond.code (⟨"BoxHedgeModel", "item", "(IIJ)I"⟩ : MethodName) prog_11_method_88_code 5 (some .int) ∈ zgood := zgood_in7 (List.mem_of_getElem? (i := 17) rfl) rfl
theorem zcd_Mod_read : Cond.code (⟨"BoxHedgeModel", "read", "(II)J"⟩ : MethodName) prog_11_method_89_code 3 (some .long) ∈ zgood := zgood_in7 (List.mem_of_getElem? (i := 25) rfl) rfl
theorem zcd_Mod_shift : Cond.code (⟨"BoxHedgeModel", "shift", "(IIIII)I"⟩ : MethodName) prog_11_method_90_code 7 (some .int) ∈ zgood := zgood_in7 (List.mem_of_getElem? (i := 29) rfl) rfl
theorem zcd_Int_bitCount : Cond.code (⟨"java/lang/Integer", "bitCount", "(I)I"⟩ : MethodName) prog_13_method_49_code 1 (some .int) ∈ zgood := zgood_in2 (List.mem_of_getElem? (i := 99) rfl) rfl
theorem zcd_Str_length : Cond.code (⟨"java/lang/String", "length", "()I"⟩ : MethodName) prog_15_method_54_code 1 (some .int) ∈ zgood := zgood_in1 (List.mem_of_getElem? (i := 59) rfl) rfl
theorem zcd_Str_charAt : Cond.code (⟨"java/lang/String", "charAt", "(I)C"⟩ : MethodName) prog_15_method_56_code 2 (some .char) ∈ zgood := zgood_in3 (List.mem_of_getElem? (i := 36) rfl) rfl
theorem zcd_Str_indexOf : Cond.code (⟨"java/lang/String", "indexOf", "(I)I"⟩ : MethodName) prog_15_method_79_code 2 (some .int) ∈ zgood := zgood_in2 (List.mem_of_getElem? (i := 191) rfl) rfl
theorem zcd_Str_indexOf2 : Cond.code (⟨"java/lang/String", "indexOf", "(II)I"⟩ : MethodName) prog_15_method_80_code 3 (some .int) ∈ zgood := zgood_in2 (List.mem_of_getElem? (i := 195) rfl) rfl
theorem zcds_12 : ∀ e ∈ zmt_12, Cond.code e.1 e.2.1 e.2.2.1 e.2.2.2.1 ∈ zgood := List.forall_mem_cons.mpr ⟨zcd_Mod_tellsAct, List.forall_mem_cons.mpr ⟨zcd_Mod_act, List.forall_mem_cons.mpr ⟨zcd_Mod_trace, List.forall_mem_cons.mpr ⟨zcd_Mod_taken, List.forall_mem_cons.mpr ⟨zcd_Mod_count, List.forall_mem_cons.mpr ⟨zcd_Mod_isTape, List.forall_mem_cons.mpr ⟨zcd_Mod_tape, List.forall_mem_cons.mpr ⟨zcd_Mod_narrow, List.forall_mem_cons.mpr ⟨zcd_Mod_item, List.forall_mem_cons.mpr ⟨zcd_Mod_read, List.forall_mem_cons.mpr ⟨zcd_Mod_shift, List.forall_mem_cons.mpr ⟨zcd_Int_bitCount, List.forall_mem_cons.mpr ⟨zcd_Str_length, List.forall_mem_cons.mpr ⟨zcd_Str_charAt, List.forall_mem_cons.mpr ⟨zcd_Str_indexOf, List.forall_mem_cons.mpr ⟨zcd_Str_indexOf2, fun _ h => absurd h List.not_mem_nil⟩⟩⟩⟩⟩⟩⟩⟩⟩⟩⟩⟩⟩⟩⟩⟩
def zmw_12 : List (Nat × Nat × Nat) := [(83, 1503, 68), (83, 1474, 1475), (83, 1510, 1511), (83, 1514, 1515), (83, 1518, 1519), (83, 1463, 61), (83, 1522, 1523), (83, 1531, 70), (83, 1526, 1527), (83, 1534, 1535), (83, 1538, 1539), (84, 409, 0), (76, 128, 129), (76, 585, 586), (76, 500, 501), (76, 504, 505)]
set_option maxRecDepth 100000 in
theorem zmok_12 : (zmt_12.zip zmw_12).all (fun e => zmok e.1 e.2) = true := by decide +kernel
theorem zml_12 : zmt_12.length = zmw_12.length := by decide +kernel
theorem zcd_Str_coder : Cond.code (⟨"java/lang/String", "coder", "()B"⟩ : MethodName) prog_15_method_152_code 1 (some .byte) ∈ zgood := zgood_in1 (List.mem_of_getElem? (i := 63) rfl) rfl
theorem zcd_Str_isLatin1 : Cond.code (⟨"java/lang/String", "isLatin1", "()Z"⟩ : MethodName) prog_15_method_154_code 1 (some .boolean) ∈ zgood := zgood_in2 (List.mem_of_getElem? (i := 199) rfl) rfl
theorem zcd_Str_checkIndex : Cond.code (⟨"java/lang/String", "checkIndex", "(II)V"⟩ : MethodName) prog_15_method_155_code 2 none ∈ zgood := zgood_in3 (List.mem_of_getElem? (i := 42) rfl) rfl
theorem zcd_Lat_charAt : Cond.code (⟨"java/lang/StringLatin1", "charAt", "([BI)C"⟩ : MethodName) prog_16_method_2_code 2 (some .char) ∈ zgood := zgood_in3 (List.mem_of_getElem? (i := 39) rfl) rfl
theorem zcd_Lat_canEncode : Cond.code (⟨"java/lang/StringLatin1", "canEncode", "(I)Z"⟩ : MethodName) prog_16_method_4_code 1 (some .boolean) ∈ zgood := zgood_in2 (List.mem_of_getElem? (i := 206) rfl) rfl
theorem zcd_Lat_indexOf : Cond.code (⟨"java/lang/StringLatin1", "indexOf", "([BIII)I"⟩ : MethodName) prog_16_method_22_code 4 (some .int) ∈ zgood := zgood_in2 (List.mem_of_getElem? (i := 203) rfl) rfl
theorem zcd_Lat_indexOfChar : Cond.code (⟨"java/lang/StringLatin1", "indexOfChar", "([BIII)I"⟩ : MethodName) prog_16_method_23_code 6 (some .int) ∈ zgood := zgood_in2 (List.mem_of_getElem? (i := 211) rfl) rfl
theorem zcd_Pre_checkIndex : Cond.code (⟨"jdk/internal/util/Preconditions", "checkIndex", "(IILjava/util/function/BiFunction;)I"⟩ : MethodName) prog_19_method_11_code 3 (some .int) ∈ zgood := zgood_in3 (List.mem_of_getElem? (i := 45) rfl) rfl
theorem zcds_13 : ∀ e ∈ zmt_13, Cond.code e.1 e.2.1 e.2.2.1 e.2.2.2.1 ∈ zgood := List.forall_mem_cons.mpr ⟨zcd_Str_coder, List.forall_mem_cons.mpr ⟨zcd_Str_isLatin1, List.forall_mem_cons.mpr ⟨zcd_Str_checkIndex, List.forall_mem_cons.mpr ⟨zcd_Lat_charAt, List.forall_mem_cons.mpr ⟨zcd_Lat_canEncode, List.forall_mem_cons.mpr ⟨zcd_Lat_indexOf, List.forall_mem_cons.mpr ⟨zcd_Lat_indexOfChar, List.forall_mem_cons.mpr ⟨zcd_Pre_checkIndex, fun _ h => absurd h List.not_mem_nil⟩⟩⟩⟩⟩⟩⟩⟩
def zmw_13 : List (Nat × Nat × Nat) := [(76, 132, 133), (76, 508, 509), (76, 592, 0), (85, 589, 0), (85, 516, 0), (85, 513, 0), (85, 521, 0), (87, 595, 0)]
set_option maxRecDepth 100000 in
theorem zmok_13 : (zmt_13.zip zmw_13).all (fun e => zmok e.1 e.2) = true := by decide +kernel
theorem zml_13 : zmt_13.length = zmw_13.length := by decide +kernel
def zfok (o : Nat) (e : Nat × Nat × Nat × Nat) (w : Nat) : Bool := match e with
  | (idx, ci, k, ty) => if ci = 50 then (if k = 0 then decide (ty = 1) && zhas w (.fieldLink (zcn o) idx "java/lang/String" "value" "[B") else decide (k = 1) && decide (ty = 5) && zhas w (.fieldLink (zcn o) idx "java/lang/String" "coder" "B")) else (match vwCl[ci]? with
    | some q => Nat.blt k q.2.2 && zhas w (.fieldLink (zcn o) idx (q.2.1 k).1 (q.2.1 k).2.1 (q.2.1 k).2.2.1) && decide ((zfk ci)[k]? = some ty) && decide (ty ≠ 5) && (decide (ty = 1) || decide (ty = 6) || !(q.2.1 k).2.2.2) &&
      (match parseFieldDescriptor (q.2.1 k).2.2.1 with
        | some .int => decide (ty = 0) || decide (ty = 6)
        | some .boolean => decide (ty = 3)
        | some (.object _) => decide (ty = 1) || decide (ty = 2)
        | some (.array _) => decide (ty = 1)
        | _ => false)
    | none => false)
def zfw_0 : List Nat := [142, 145, 309, 311, 313, 314, 315]
set_option maxRecDepth 100000 in
theorem zfok_0 : (zft_0.zip zfw_0).all (fun e => zfok 0 e.1 e.2) = true := by decide +kernel
theorem zfl_0 : zft_0.length = zfw_0.length := by decide +kernel
def zfw_1 : List Nat := [205, 207, 209, 210, 211, 212, 213, 214]
set_option maxRecDepth 100000 in
theorem zfok_1 : (zft_1.zip zfw_1).all (fun e => zfok 1 e.1 e.2) = true := by decide +kernel
theorem zfl_1 : zft_1.length = zfw_1.length := by decide +kernel
def zfw_2 : List Nat := [138, 149, 154, 266, 268, 270, 272, 274, 276]
set_option maxRecDepth 100000 in
theorem zfok_2 : (zft_2.zip zfw_2).all (fun e => zfok 2 e.1 e.2) = true := by decide +kernel
theorem zfl_2 : zft_2.length = zfw_2.length := by decide +kernel
def zfw_3 : List Nat := [137, 141, 144, 147, 151, 153, 157, 160, 162, 165, 168, 171, 206, 208, 337, 340]
set_option maxRecDepth 100000 in
theorem zfok_3 : (zft_3.zip zfw_3).all (fun e => zfok 3 e.1 e.2) = true := by decide +kernel
theorem zfl_3 : zft_3.length = zfw_3.length := by decide +kernel
def zfw_4 : List Nat := [114, 139, 150, 156, 159, 163, 166, 169, 267, 269, 271, 273, 275, 290, 291, 292, 293]
set_option maxRecDepth 100000 in
theorem zfok_4 : (zft_4.zip zfw_4).all (fun e => zfok 4 e.1 e.2) = true := by decide +kernel
theorem zfl_4 : zft_4.length = zfw_4.length := by decide +kernel
def zfw_5 : List Nat := [238, 240, 241, 242]
set_option maxRecDepth 100000 in
theorem zfok_5 : (zft_5.zip zfw_5).all (fun e => zfok 5 e.1 e.2) = true := by decide +kernel
theorem zfl_5 : zft_5.length = zfw_5.length := by decide +kernel
def zfw_6 : List Nat := [113, 116, 117]
set_option maxRecDepth 100000 in
theorem zfok_6 : (zft_6.zip zfw_6).all (fun e => zfok 6 e.1 e.2) = true := by decide +kernel
theorem zfl_6 : zft_6.length = zfw_6.length := by decide +kernel
def zfw_7 : List Nat := [334, 336, 339]
set_option maxRecDepth 100000 in
theorem zfok_7 : (zft_7.zip zfw_7).all (fun e => zfok 7 e.1 e.2) = true := by decide +kernel
theorem zfl_7 : zft_7.length = zfw_7.length := by decide +kernel
def zfw_8 : List Nat := [115, 140, 143, 146, 148, 152, 155, 158, 161, 164, 167, 170, 239, 310, 312, 335, 338, 341, 350, 351, 352, 353, 354, 355, 356, 357, 358]
set_option maxRecDepth 100000 in
theorem zfok_8 : (zft_8.zip zfw_8).all (fun e => zfok 8 e.1 e.2) = true := by decide +kernel
theorem zfl_8 : zft_8.length = zfw_8.length := by decide +kernel
def zfw_9 : List Nat := [972, 973, 974, 975, 976, 977, 978, 979, 980, 981, 982, 983, 984, 985, 986, 987, 988, 989, 990, 991, 992, 993, 994, 995, 996, 997, 998, 999, 1000, 1001, 1002, 1003, 1004, 1005, 1006, 1007, 1008, 1009, 1010, 1011, 1012, 1013, 1014, 1015, 1016, 1017, 1018, 1019, 1020, 1021, 1022, 1023, 1024, 1025, 1026, 1027, 1028, 1029, 1030, 1031, 1032, 1033, 1034, 1035, 1036, 1037, 1038, 1039, 1040, 1041]
set_option maxRecDepth 100000 in
theorem zfok_9 : (zft_9.zip zfw_9).all (fun e => zfok 9 e.1 e.2) = true := by decide +kernel
theorem zfl_9 : zft_9.length = zfw_9.length := by decide +kernel
def zfw_10 : List Nat := [1542, 1543]
set_option maxRecDepth 100000 in
theorem zfok_10 : (zft_10.zip zfw_10).all (fun e => zfok 10 e.1 e.2) = true := by decide +kernel
theorem zfl_10 : zft_10.length = zfw_10.length := by decide +kernel
def zfw_11 : List Nat := []
set_option maxRecDepth 100000 in
theorem zfok_11 : (zft_11.zip zfw_11).all (fun e => zfok 11 e.1 e.2) = true := by decide +kernel
theorem zfl_11 : zft_11.length = zfw_11.length := by decide +kernel
def zfw_12 : List Nat := []
set_option maxRecDepth 100000 in
theorem zfok_12 : (zft_12.zip zfw_12).all (fun e => zfok 12 e.1 e.2) = true := by decide +kernel
theorem zfl_12 : zft_12.length = zfw_12.length := by decide +kernel
def zfw_13 : List Nat := []
set_option maxRecDepth 100000 in
theorem zfok_13 : (zft_13.zip zfw_13).all (fun e => zfok 13 e.1 e.2) = true := by decide +kernel
theorem zfl_13 : zft_13.length = zfw_13.length := by decide +kernel
def zfw_14 : List Nat := []
set_option maxRecDepth 100000 in
theorem zfok_14 : (zft_14.zip zfw_14).all (fun e => zfok 14 e.1 e.2) = true := by decide +kernel
theorem zfl_14 : zft_14.length = zfw_14.length := by decide +kernel
def zfw_15 : List Nat := []
set_option maxRecDepth 100000 in
theorem zfok_15 : (zft_15.zip zfw_15).all (fun e => zfok 15 e.1 e.2) = true := by decide +kernel
theorem zfl_15 : zft_15.length = zfw_15.length := by decide +kernel
def zrk : Option FieldType → Nat
  | none => 0
  | some .long => 2
  | some (.object _) => 3
  | some .int | some .boolean | some .char | some .byte => 1
  | _ => 9
/-- a call's words: link; for arraycopy link, native, static -/
def zcok (o : Nat) (e : Nat × Nat × Nat × Nat × Nat) (w : Nat × Nat × Nat × Nat) : Bool := match e, w with
  | (idx, kind, mi, n, rk), (w1, w2, w3, w4) => if kind = 4 then decide (n = 2) && zhas w1 (.methodLink (zcn o) idx Lib.Math.max.name) else if kind = 5 then decide (n = 2) && zhas w1 (.methodLink (zcn o) idx Lib.Math.min.name) else if kind = 3 then decide (n = 5) && zhas w1 (.methodLink (zcn o) idx arraycopyName) && zhas w2 (.native arraycopyName) && zhas w3 (.static arraycopyName) && zhas w4 (.initialized "java/lang/System") else (match zmt mi with
    | some (y, _, _, ret, own, st, _) => decide (rk = zrk ret) && decide ((parseMethodDescriptor y.desc).map (fun d => d.parameters.length) = some (if st then n else n - 1)) && Nat.ble 1 (if st then 1 else n) && (if kind = 0 then !st && zhas w1 (.methodLink (zcn o) idx y) else if kind = 1 then st && zhas w1 (.methodLink (zcn o) idx y) else decide (kind = 2) && st && decide (lw_tbl[w1]? = some (.methodLinkNest (zcn o) idx y "BoxHedge")))
    | none => false)
def zcw_0 : List (Nat × Nat × Nat × Nat) := [(906, 0, 0, 0), (910, 0, 0, 0), (917, 0, 0, 0)]
set_option maxRecDepth 100000 in
theorem zcok_0 : (zct_0.zip zcw_0).all (fun e => zcok 0 e.1 e.2) = true := by decide +kernel
theorem zcl_0 : zct_0.length = zcw_0.length := by decide +kernel
def zcw_1 : List (Nat × Nat × Nat × Nat) := [(421, 0, 0, 0)]
set_option maxRecDepth 100000 in
theorem zcok_1 : (zct_1.zip zcw_1).all (fun e => zcok 1 e.1 e.2) = true := by decide +kernel
theorem zcl_1 : zct_1.length = zcw_1.length := by decide +kernel
def zcw_2 : List (Nat × Nat × Nat × Nat) := [(667, 0, 0, 0), (673, 0, 0, 0), (674, 0, 0, 0), (675, 0, 0, 0), (679, 0, 0, 0), (680, 0, 0, 0), (688, 0, 0, 0)]
set_option maxRecDepth 100000 in
theorem zcok_2 : (zct_2.zip zcw_2).all (fun e => zcok 2 e.1 e.2) = true := by decide +kernel
theorem zcl_2 : zct_2.length = zcw_2.length := by decide +kernel
def zcw_3 : List (Nat × Nat × Nat × Nat) := [(127, 0, 0, 0), (398, 0, 0, 0), (408, 0, 0, 0), (414, 0, 0, 0), (417, 0, 0, 0), (425, 0, 0, 0), (430, 0, 0, 0), (431, 0, 0, 0), (446, 0, 0, 0), (450, 0, 0, 0), (769, 771, 770, 89), (772, 0, 0, 0)]
set_option maxRecDepth 100000 in
theorem zcok_3 : (zct_3.zip zcw_3).all (fun e => zcok 3 e.1 e.2) = true := by decide +kernel
theorem zcl_3 : zct_3.length = zcw_3.length := by decide +kernel
def zcw_4 : List (Nat × Nat × Nat × Nat) := [(659, 0, 0, 0), (663, 0, 0, 0), (668, 0, 0, 0), (669, 0, 0, 0), (684, 0, 0, 0), (689, 0, 0, 0), (725, 0, 0, 0), (726, 0, 0, 0), (730, 0, 0, 0), (748, 0, 0, 0), (765, 0, 0, 0), (778, 0, 0, 0), (782, 0, 0, 0), (791, 0, 0, 0), (815, 0, 0, 0), (819, 0, 0, 0), (823, 0, 0, 0), (836, 0, 0, 0), (837, 0, 0, 0), (861, 0, 0, 0)]
set_option maxRecDepth 100000 in
theorem zcok_4 : (zct_4.zip zcw_4).all (fun e => zcok 4 e.1 e.2) = true := by decide +kernel
theorem zcl_4 : zct_4.length = zcw_4.length := by decide +kernel
def zcw_5 : List (Nat × Nat × Nat × Nat) := [(486, 0, 0, 0), (490, 0, 0, 0), (495, 0, 0, 0), (499, 0, 0, 0), (572, 0, 0, 0), (579, 0, 0, 0), (583, 0, 0, 0), (584, 0, 0, 0), (604, 0, 0, 0), (608, 0, 0, 0), (612, 0, 0, 0), (616, 0, 0, 0), (620, 0, 0, 0), (624, 0, 0, 0), (628, 0, 0, 0), (634, 0, 0, 0), (637, 0, 0, 0)]
set_option maxRecDepth 100000 in
theorem zcok_5 : (zct_5.zip zcw_5).all (fun e => zcok 5 e.1 e.2) = true := by decide +kernel
theorem zcl_5 : zct_5.length = zcw_5.length := by decide +kernel
def zcw_6 : List (Nat × Nat × Nat × Nat) := [(110, 0, 0, 0), (776, 0, 0, 0), (777, 771, 770, 89)]
set_option maxRecDepth 100000 in
theorem zcok_6 : (zct_6.zip zcw_6).all (fun e => zcok 6 e.1 e.2) = true := by decide +kernel
theorem zcl_6 : zct_6.length = zcw_6.length := by decide +kernel
def zcw_7 : List (Nat × Nat × Nat × Nat) := []
set_option maxRecDepth 100000 in
theorem zcok_7 : (zct_7.zip zcw_7).all (fun e => zcok 7 e.1 e.2) = true := by decide +kernel
theorem zcl_7 : zct_7.length = zcw_7.length := by decide +kernel
def zcw_8 : List (Nat × Nat × Nat × Nat) := [(382, 0, 0, 0), (390, 0, 0, 0), (394, 0, 0, 0), (401, 0, 0, 0), (404, 0, 0, 0), (426, 0, 0, 0), (439, 0, 0, 0), (442, 0, 0, 0), (458, 0, 0, 0), (461, 0, 0, 0), (474, 0, 0, 0), (482, 0, 0, 0), (645, 0, 0, 0), (646, 0, 0, 0), (655, 0, 0, 0), (697, 0, 0, 0), (705, 0, 0, 0), (713, 0, 0, 0), (721, 0, 0, 0), (731, 0, 0, 0), (736, 0, 0, 0), (744, 0, 0, 0), (753, 0, 0, 0), (761, 0, 0, 0), (787, 0, 0, 0), (799, 0, 0, 0), (803, 0, 0, 0), (811, 0, 0, 0), (832, 0, 0, 0), (845, 0, 0, 0), (857, 0, 0, 0), (870, 0, 0, 0), (878, 0, 0, 0), (881, 0, 0, 0), (889, 0, 0, 0), (898, 0, 0, 0), (902, 0, 0, 0), (929, 0, 0, 0), (941, 0, 0, 0), (949, 0, 0, 0), (961, 0, 0, 0), (965, 771, 770, 89)]
set_option maxRecDepth 100000 in
theorem zcok_8 : (zct_8.zip zcw_8).all (fun e => zcok 8 e.1 e.2) = true := by decide +kernel
theorem zcl_8 : zct_8.length = zcw_8.length := by decide +kernel
def zcw_9 : List (Nat × Nat × Nat × Nat) := [(1188, 0, 0, 0), (1196, 0, 0, 0), (1200, 0, 0, 0), (1220, 0, 0, 0), (1224, 0, 0, 0), (1228, 0, 0, 0), (1232, 0, 0, 0), (1236, 0, 0, 0), (1240, 0, 0, 0), (1244, 0, 0, 0), (1248, 0, 0, 0), (1252, 0, 0, 0), (1256, 0, 0, 0), (1260, 0, 0, 0), (1264, 0, 0, 0), (1268, 0, 0, 0), (1272, 0, 0, 0), (1280, 0, 0, 0), (1284, 0, 0, 0), (1288, 0, 0, 0), (1292, 0, 0, 0), (1296, 0, 0, 0), (1300, 0, 0, 0), (1308, 0, 0, 0), (1312, 0, 0, 0), (1316, 0, 0, 0), (1320, 0, 0, 0), (1324, 0, 0, 0), (1328, 0, 0, 0), (1332, 0, 0, 0), (1348, 0, 0, 0), (1352, 0, 0, 0), (1356, 0, 0, 0), (1360, 0, 0, 0), (1364, 0, 0, 0), (1368, 0, 0, 0), (1388, 0, 0, 0), (1392, 0, 0, 0), (1429, 0, 0, 0), (1433, 0, 0, 0), (1461, 0, 0, 0), (1477, 0, 0, 0), (1481, 0, 0, 0), (1485, 0, 0, 0), (1489, 0, 0, 0), (1493, 0, 0, 0), (1497, 0, 0, 0), (1501, 0, 0, 0), (1505, 0, 0, 0), (1529, 0, 0, 0)]
set_option maxRecDepth 100000 in
theorem zcok_9 : (zct_9.zip zcw_9).all (fun e => zcok 9 e.1 e.2) = true := by decide +kernel
theorem zcl_9 : zct_9.length = zcw_9.length := by decide +kernel
def zcw_10 : List (Nat × Nat × Nat × Nat) := [(131, 0, 0, 0), (503, 0, 0, 0), (507, 0, 0, 0), (511, 0, 0, 0), (512, 0, 0, 0), (588, 0, 0, 0), (594, 0, 0, 0)]
set_option maxRecDepth 100000 in
theorem zcok_10 : (zct_10.zip zcw_10).all (fun e => zcok 10 e.1 e.2) = true := by decide +kernel
theorem zcl_10 : zct_10.length = zcw_10.length := by decide +kernel
def zcw_11 : List (Nat × Nat × Nat × Nat) := [(515, 0, 0, 0), (518, 0, 0, 0), (519, 0, 0, 0), (520, 0, 0, 0), (591, 0, 0, 0)]
set_option maxRecDepth 100000 in
theorem zcok_11 : (zct_11.zip zcw_11).all (fun e => zcok 11 e.1 e.2) = true := by decide +kernel
theorem zcl_11 : zct_11.length = zcw_11.length := by decide +kernel
def zcw_12 : List (Nat × Nat × Nat × Nat) := []
set_option maxRecDepth 100000 in
theorem zcok_12 : (zct_12.zip zcw_12).all (fun e => zcok 12 e.1 e.2) = true := by decide +kernel
theorem zcl_12 : zct_12.length = zcw_12.length := by decide +kernel
def zcw_13 : List (Nat × Nat × Nat × Nat) := []
set_option maxRecDepth 100000 in
theorem zcok_13 : (zct_13.zip zcw_13).all (fun e => zcok 13 e.1 e.2) = true := by decide +kernel
theorem zcl_13 : zct_13.length = zcw_13.length := by decide +kernel
def zcw_14 : List (Nat × Nat × Nat × Nat) := []
set_option maxRecDepth 100000 in
theorem zcok_14 : (zct_14.zip zcw_14).all (fun e => zcok 14 e.1 e.2) = true := by decide +kernel
theorem zcl_14 : zct_14.length = zcw_14.length := by decide +kernel
def zcw_15 : List (Nat × Nat × Nat × Nat) := [(378, 0, 0, 0), (386, 0, 0, 0), (435, 0, 0, 0), (454, 0, 0, 0), (462, 0, 0, 0), (466, 0, 0, 0), (470, 0, 0, 0), (478, 0, 0, 0), (641, 0, 0, 0), (647, 0, 0, 0), (651, 0, 0, 0), (693, 0, 0, 0), (701, 0, 0, 0), (709, 0, 0, 0), (717, 0, 0, 0), (732, 0, 0, 0), (740, 0, 0, 0), (749, 0, 0, 0), (757, 0, 0, 0), (783, 0, 0, 0), (795, 0, 0, 0), (807, 0, 0, 0), (827, 0, 0, 0), (841, 0, 0, 0), (849, 0, 0, 0), (853, 0, 0, 0), (862, 0, 0, 0), (866, 0, 0, 0), (874, 0, 0, 0), (885, 0, 0, 0), (890, 0, 0, 0), (894, 0, 0, 0), (921, 0, 0, 0), (925, 0, 0, 0), (933, 0, 0, 0), (937, 0, 0, 0), (945, 0, 0, 0), (953, 0, 0, 0), (957, 0, 0, 0), (1184, 0, 0, 0), (1192, 0, 0, 0), (1204, 0, 0, 0), (1208, 0, 0, 0), (1212, 0, 0, 0), (1216, 0, 0, 0), (1276, 0, 0, 0), (1304, 0, 0, 0), (1336, 0, 0, 0), (1340, 0, 0, 0), (1344, 0, 0, 0), (1372, 0, 0, 0), (1376, 0, 0, 0), (1380, 0, 0, 0), (1384, 0, 0, 0), (1396, 0, 0, 0), (1400, 0, 0, 0), (1404, 0, 0, 0), (1408, 0, 0, 0), (1412, 0, 0, 0), (1416, 0, 0, 0), (1420, 0, 0, 0), (1424, 0, 0, 0), (1437, 0, 0, 0), (1441, 0, 0, 0), (1445, 0, 0, 0), (1449, 0, 0, 0), (1453, 0, 0, 0), (1457, 0, 0, 0), (1465, 0, 0, 0), (1469, 0, 0, 0), (1473, 0, 0, 0), (1509, 0, 0, 0), (1513, 0, 0, 0), (1517, 0, 0, 0), (1521, 0, 0, 0), (1525, 0, 0, 0), (1533, 0, 0, 0), (1537, 0, 0, 0)]
set_option maxRecDepth 100000 in
theorem zcok_15 : (zct_15.zip zcw_15).all (fun e => zcok 15 e.1 e.2) = true := by decide +kernel
theorem zcl_15 : zct_15.length = zcw_15.length := by decide +kernel
theorem zmth_max : Cond.static Lib.Math.max.name ∈ zgood ∧ Cond.initialized "java/lang/Math" ∈ zgood ∧ Cond.code Lib.Math.max.name Lib.Math.max.code 2 (some .int) ∈ zgood := ⟨zhas_in (i := 111) (by decide +kernel), zhas_in (i := 75) (by decide +kernel), zhas_in (i := 112) (by decide +kernel)⟩
theorem zmth_min : Cond.static Lib.Math.min.name ∈ zgood ∧ Cond.initialized "java/lang/Math" ∈ zgood ∧ Cond.code Lib.Math.min.name Lib.Math.min.code 2 (some .int) ∈ zgood := ⟨zhas_in (i := 415) (by decide +kernel), zhas_in (i := 75) (by decide +kernel), zhas_in (i := 416) (by decide +kernel)⟩
set_option maxRecDepth 100000 in
theorem zlay_0 : ∀ w ∈ u_ws RX0 TX0 5, w ∈ zgood := by
  intro w h
  have h1 : ((u_ws RX0 TX0 5).zip [316, 318, 320, 322, 324]).all (fun e => zhas e.2 e.1) = true := by decide +kernel
  have h2 : (u_ws RX0 TX0 5).length = 5 := by decide +kernel
  obtain ⟨k, hk, e⟩ := List.getElem_of_mem h
  have h3 := List.all_eq_true.mp h1 (w, [316, 318, 320, 322, 324][k]'(by rw [h2] at hk; exact hk)) (by rw [← e]; exact List.mem_iff_getElem.mpr ⟨k, by rw [List.length_zip, h2]; simpa using (by rw [h2] at hk; exact hk), by simp⟩)
  exact zhas_in h3
set_option maxRecDepth 100000 in
theorem zlay_1 : ∀ w ∈ u_ws RX1 TX1 8, w ∈ zgood := by
  intro w h
  have h1 : ((u_ws RX1 TX1 8).zip [215, 217, 219, 221, 223, 225, 227, 229]).all (fun e => zhas e.2 e.1) = true := by decide +kernel
  have h2 : (u_ws RX1 TX1 8).length = 8 := by decide +kernel
  obtain ⟨k, hk, e⟩ := List.getElem_of_mem h
  have h3 := List.all_eq_true.mp h1 (w, [215, 217, 219, 221, 223, 225, 227, 229][k]'(by rw [h2] at hk; exact hk)) (by rw [← e]; exact List.mem_iff_getElem.mpr ⟨k, by rw [List.length_zip, h2]; simpa using (by rw [h2] at hk; exact hk), by simp⟩)
  exact zhas_in h3
set_option maxRecDepth 100000 in
theorem zlay_2 : ∀ w ∈ u_ws RX2 TX2 6, w ∈ zgood := by
  intro w h
  have h1 : ((u_ws RX2 TX2 6).zip [277, 279, 281, 283, 285, 287]).all (fun e => zhas e.2 e.1) = true := by decide +kernel
  have h2 : (u_ws RX2 TX2 6).length = 6 := by decide +kernel
  obtain ⟨k, hk, e⟩ := List.getElem_of_mem h
  have h3 := List.all_eq_true.mp h1 (w, [277, 279, 281, 283, 285, 287][k]'(by rw [h2] at hk; exact hk)) (by rw [← e]; exact List.mem_iff_getElem.mpr ⟨k, by rw [List.length_zip, h2]; simpa using (by rw [h2] at hk; exact hk), by simp⟩)
  exact zhas_in h3
set_option maxRecDepth 100000 in
theorem zlay_3 : ∀ w ∈ u_ws RX3 TX3 12, w ∈ zgood := by
  intro w h
  have h1 : ((u_ws RX3 TX3 12).zip [172, 174, 176, 178, 180, 182, 184, 186, 188, 190, 192, 194]).all (fun e => zhas e.2 e.1) = true := by decide +kernel
  have h2 : (u_ws RX3 TX3 12).length = 12 := by decide +kernel
  obtain ⟨k, hk, e⟩ := List.getElem_of_mem h
  have h3 := List.all_eq_true.mp h1 (w, [172, 174, 176, 178, 180, 182, 184, 186, 188, 190, 192, 194][k]'(by rw [h2] at hk; exact hk)) (by rw [← e]; exact List.mem_iff_getElem.mpr ⟨k, by rw [List.length_zip, h2]; simpa using (by rw [h2] at hk; exact hk), by simp⟩)
  exact zhas_in h3
set_option maxRecDepth 100000 in
theorem zlay_4 : ∀ w ∈ u_ws RX4 TX4 4, w ∈ zgood := by
  intro w h
  have h1 : ((u_ws RX4 TX4 4).zip [294, 296, 298, 300]).all (fun e => zhas e.2 e.1) = true := by decide +kernel
  have h2 : (u_ws RX4 TX4 4).length = 4 := by decide +kernel
  obtain ⟨k, hk, e⟩ := List.getElem_of_mem h
  have h3 := List.all_eq_true.mp h1 (w, [294, 296, 298, 300][k]'(by rw [h2] at hk; exact hk)) (by rw [← e]; exact List.mem_iff_getElem.mpr ⟨k, by rw [List.length_zip, h2]; simpa using (by rw [h2] at hk; exact hk), by simp⟩)
  exact zhas_in h3
set_option maxRecDepth 100000 in
theorem zlay_5 : ∀ w ∈ u_ws RX5 TX5 4, w ∈ zgood := by
  intro w h
  have h1 : ((u_ws RX5 TX5 4).zip [243, 245, 247, 249]).all (fun e => zhas e.2 e.1) = true := by decide +kernel
  have h2 : (u_ws RX5 TX5 4).length = 4 := by decide +kernel
  obtain ⟨k, hk, e⟩ := List.getElem_of_mem h
  have h3 := List.all_eq_true.mp h1 (w, [243, 245, 247, 249][k]'(by rw [h2] at hk; exact hk)) (by rw [← e]; exact List.mem_iff_getElem.mpr ⟨k, by rw [List.length_zip, h2]; simpa using (by rw [h2] at hk; exact hk), by simp⟩)
  exact zhas_in h3
set_option maxRecDepth 100000 in
theorem zlay_6 : ∀ w ∈ u_ws RX6 TX6 3, w ∈ zgood := by
  intro w h
  have h1 : ((u_ws RX6 TX6 3).zip [118, 120, 122]).all (fun e => zhas e.2 e.1) = true := by decide +kernel
  have h2 : (u_ws RX6 TX6 3).length = 3 := by decide +kernel
  obtain ⟨k, hk, e⟩ := List.getElem_of_mem h
  have h3 := List.all_eq_true.mp h1 (w, [118, 120, 122][k]'(by rw [h2] at hk; exact hk)) (by rw [← e]; exact List.mem_iff_getElem.mpr ⟨k, by rw [List.length_zip, h2]; simpa using (by rw [h2] at hk; exact hk), by simp⟩)
  exact zhas_in h3
set_option maxRecDepth 100000 in
theorem zlay_7 : ∀ w ∈ u_ws RX7 TX7 3, w ∈ zgood := by
  intro w h
  have h1 : ((u_ws RX7 TX7 3).zip [342, 344, 346]).all (fun e => zhas e.2 e.1) = true := by decide +kernel
  have h2 : (u_ws RX7 TX7 3).length = 3 := by decide +kernel
  obtain ⟨k, hk, e⟩ := List.getElem_of_mem h
  have h3 := List.all_eq_true.mp h1 (w, [342, 344, 346][k]'(by rw [h2] at hk; exact hk)) (by rw [← e]; exact List.mem_iff_getElem.mpr ⟨k, by rw [List.length_zip, h2]; simpa using (by rw [h2] at hk; exact hk), by simp⟩)
  exact zhas_in h3
set_option maxRecDepth 100000 in
theorem zlay_8 : ∀ w ∈ u_ws RX8 TX8 9, w ∈ zgood := by
  intro w h
  have h1 : ((u_ws RX8 TX8 9).zip [359, 361, 363, 365, 367, 369, 371, 373, 375]).all (fun e => zhas e.2 e.1) = true := by decide +kernel
  have h2 : (u_ws RX8 TX8 9).length = 9 := by decide +kernel
  obtain ⟨k, hk, e⟩ := List.getElem_of_mem h
  have h3 := List.all_eq_true.mp h1 (w, [359, 361, 363, 365, 367, 369, 371, 373, 375][k]'(by rw [h2] at hk; exact hk)) (by rw [← e]; exact List.mem_iff_getElem.mpr ⟨k, by rw [List.length_zip, h2]; simpa using (by rw [h2] at hk; exact hk), by simp⟩)
  exact zhas_in h3
set_option maxRecDepth 100000 in
theorem zlay_9 : ∀ w ∈ u_ws RX9 TX9 70, w ∈ zgood := by
  intro w h
  have h1 : ((u_ws RX9 TX9 70).zip [1042, 1044, 1046, 1048, 1050, 1052, 1054, 1056, 1058, 1060, 1062, 1064, 1066, 1068, 1070, 1072, 1074, 1076, 1078, 1080, 1082, 1084, 1086, 1088, 1090, 1092, 1094, 1096, 1098, 1100, 1102, 1104, 1106, 1108, 1110, 1112, 1114, 1116, 1118, 1120, 1122, 1124, 1126, 1128, 1130, 1132, 1134, 1136, 1138, 1140, 1142, 1144, 1146, 1148, 1150, 1152, 1154, 1156, 1158, 1160, 1162, 1164, 1166, 1168, 1170, 1172, 1174, 1176, 1178, 1180]).all (fun e => zhas e.2 e.1) = true := by decide +kernel
  have h2 : (u_ws RX9 TX9 70).length = 70 := by decide +kernel
  obtain ⟨k, hk, e⟩ := List.getElem_of_mem h
  have h3 := List.all_eq_true.mp h1 (w, [1042, 1044, 1046, 1048, 1050, 1052, 1054, 1056, 1058, 1060, 1062, 1064, 1066, 1068, 1070, 1072, 1074, 1076, 1078, 1080, 1082, 1084, 1086, 1088, 1090, 1092, 1094, 1096, 1098, 1100, 1102, 1104, 1106, 1108, 1110, 1112, 1114, 1116, 1118, 1120, 1122, 1124, 1126, 1128, 1130, 1132, 1134, 1136, 1138, 1140, 1142, 1144, 1146, 1148, 1150, 1152, 1154, 1156, 1158, 1160, 1162, 1164, 1166, 1168, 1170, 1172, 1174, 1176, 1178, 1180][k]'(by rw [h2] at hk; exact hk)) (by rw [← e]; exact List.mem_iff_getElem.mpr ⟨k, by rw [List.length_zip, h2]; simpa using (by rw [h2] at hk; exact hk), by simp⟩)
  exact zhas_in h3
