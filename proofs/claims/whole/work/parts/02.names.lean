/-! names: classes by number, their fields in order -/
def ly_T : List Cond := lw_tbl.filter goodWord
theorem ly_at {w : Cond} (i : Nat) (h : tables_1[i]? = some w) (hg : goodWord w = true) : w ∈ ly_T := List.mem_filter.mpr ⟨List.mem_append_right _ (List.mem_of_getElem? h), hg⟩
theorem ly_sel {q : MethodName × Nat} (h : q ∈ lw_privs) : Cond.selects q.1.cls q.1 q.1 ∈ ly_T := List.mem_filter.mpr ⟨List.mem_append_left _ (List.mem_map.mpr ⟨q, h, rfl⟩), rfl⟩
def ly_cn : Nat → String
  | 0 => "LampYard$Chance"
  | 1 => "LampYard$Course"
  | 2 => "LampYard$Faults"
  | 3 => "LampYard$Logs"
  | 4 => "LampYard$Plan"
  | 5 => "LampYard$Reader"
  | 6 => "LampYard$Rounds"
  | 7 => "LampYard$StateSet"
  | 8 => "LampYard$Steps"
  | 9 => "LampYard$Survey"
  | 10 => "LampYard"
  | _ => "LampYardModel"
def ly_fs : Nat → List (String × String × Bool × FieldType)
  | 0 => [("counted", "[Z", true, .array .boolean), ("waysSo", "[J", true, .array .long), ("waysWrong", "[J", true, .array .long), ("ways", "[J", false, .array .long), ("waysThen", "[J", false, .array .long)]
  | 1 => [("state", "J", false, .long), ("day", "I", false, .int), ("over", "Z", false, .boolean), ("kept", "Z", false, .boolean), ("burdens", "[I", true, .array .int)]
  | 2 => [("answers", "[I", true, .array .int), ("behind", "LLampYard$StateSet;", true, .object "LampYard$StateSet"), ("full", "Z", false, .boolean)]
  | 3 => [("count", "I", false, .int), ("time", "I", false, .int), ("days", "[I", true, .array .int), ("men", "[I", true, .array .int), ("toldAt", "[I", true, .array .int), ("untoldAt", "[I", true, .array .int), ("manOn", "[I", true, .array .int), ("allOn", "[I", true, .array .int)]
  | 4 => [("lampCount", "I", false, .int), ("cycle", "I", false, .int), ("fails", "I", false, .int), ("start", "I", false, .int), ("roles", "I", false, .int), ("men", "I", false, .int), ("rules", "I", false, .int), ("units", "I", false, .int), ("heldAtFirst", "[I", true, .array .int), ("roleByMan", "[I", true, .array .int), ("roleByRule", "[I", true, .array .int), ("ruleSays", "[Z", true, .array .boolean), ("partEnds", "[I", true, .array .int), ("code", "[I", true, .array .int), ("codeLength", "I", false, .int), ("sights", "[I", true, .array .int), ("stack", "[I", true, .array .int)]
  | 5 => [("fault", "I", false, .int), ("faultPlace", "I", false, .int), ("text", "[B", false, .array .byte), ("length", "I", false, .int), ("plan", "LLampYard$Plan;", false, .object "LampYard$Plan"), ("roleNames", "[J", true, .array .long), ("linesTold", "I", false, .int), ("kinds", "[I", true, .array .int), ("places", "[I", true, .array .int), ("values", "[J", true, .array .long), ("tokens", "I", false, .int), ("at", "I", false, .int), ("token", "I", false, .int)]
  | 6 => [("survey", "LLampYard$Survey;", false, .object "LampYard$Survey"), ("order", "[I", true, .array .int), ("lowest", "[I", true, .array .int), ("knot", "[I", true, .array .int), ("looked", "[I", true, .array .int), ("open", "[I", true, .array .int), ("path", "[I", true, .array .int), ("opened", "I", false, .int), ("deep", "I", false, .int), ("entered", "I", false, .int), ("knots", "I", false, .int), ("found", "I", false, .int)]
  | 7 => [("size", "I", false, .int), ("limit", "I", false, .int), ("members", "[J", true, .array .long), ("slots", "[I", true, .array .int)]
  | 8 => [("found", "[I", true, .array .int)]
  | 9 => [("steps", "LLampYard$Steps;", true, .object "LampYard$Steps"), ("set", "LLampYard$StateSet;", true, .object "LampYard$StateSet"), ("row", "[I", true, .array .int), ("mostHeld", "[I", true, .array .int), ("plan", "LLampYard$Plan;", false, .object "LampYard$Plan"), ("spent", "Z", false, .boolean), ("rightly", "I", false, .int), ("wrongly", "I", false, .int), ("soonestDays", "I", false, .int), ("rowLength", "I", false, .int), ("rowStart", "I", false, .int), ("idlers", "I", false, .int), ("next", "[I", true, .array .int), ("cameFrom", "[I", true, .array .int), ("rounds", "LLampYard$Rounds;", false, .object "LampYard$Rounds"), ("inRounds", "I", false, .int)]
  | 10 => [("tape", "[B", true, .array .byte), ("taped", "I", false, .int), ("reader", "LLampYard$Reader;", true, .object "LampYard$Reader"), ("current", "LLampYard$Plan;", false, .object "LampYard$Plan"), ("spare", "LLampYard$Plan;", false, .object "LampYard$Plan"), ("course", "LLampYard$Course;", true, .object "LampYard$Course"), ("boxes", "[LLampYard$Course;", true, .array (.object "LampYard$Course")), ("logs", "LLampYard$Logs;", true, .object "LampYard$Logs"), ("survey", "LLampYard$Survey;", false, .object "LampYard$Survey"), ("faults", "LLampYard$Faults;", false, .object "LampYard$Faults"), ("chance", "LLampYard$Chance;", false, .object "LampYard$Chance"), ("surveyed", "Z", false, .boolean)]
  | _ => [("tape", "[I", true, .array .int), ("taped", "I", false, .int), ("fault", "I", false, .int), ("faultPlace", "I", false, .int), ("at", "I", false, .int), ("size", "I", false, .int), ("sort", "I", false, .int), ("place", "I", false, .int), ("number", "I", false, .int), ("word", "J", false, .long), ("nRole", "[J", true, .array .long), ("nMen", "[I", true, .array .int), ("nHolds", "[I", true, .array .int), ("nRuleRole", "[I", true, .array .int), ("roleOf", "[I", true, .array .int), ("firstHolds", "[I", true, .array .int), ("ruleRole", "[I", true, .array .int), ("nSays", "[Z", true, .array .boolean), ("says", "[Z", true, .array .boolean), ("nHas", "[Z", true, .array .boolean), ("nLamps", "I", false, .int), ("nCycle", "I", false, .int), ("nFails", "I", false, .int), ("nStart", "I", false, .int), ("nRoles", "I", false, .int), ("nAll", "I", false, .int), ("nRules", "I", false, .int), ("nUnits", "I", false, .int), ("lamps", "I", false, .int), ("cycle", "I", false, .int), ("fails", "I", false, .int), ("start", "I", false, .int), ("roles", "I", false, .int), ("men", "I", false, .int), ("rules", "I", false, .int), ("units", "I", false, .int), ("nWhat", "[I", true, .array .int), ("nNumber", "[I", true, .array .int), ("nBegin", "[I", true, .array .int), ("whats", "[I", true, .array .int), ("numbers", "[I", true, .array .int), ("begin", "[I", true, .array .int), ("waits", "[I", true, .array .int), ("pile", "[I", true, .array .int), ("nNotes", "I", false, .int), ("waiting", "I", false, .int), ("deep", "I", false, .int), ("holds", "[I", true, .array .int), ("visits", "[I", true, .array .int), ("burdens", "[I", true, .array .int), ("been", "[Z", true, .array .boolean), ("lit", "I", false, .int), ("day", "I", false, .int), ("didLight", "Z", false, .boolean), ("didHold", "Z", false, .boolean), ("today", "I", false, .int), ("isOver", "Z", false, .boolean), ("keptHolds", "[I", true, .array .int), ("keptVisits", "[I", true, .array .int), ("keptBeen", "[Z", true, .array .boolean), ("keptLit", "I", false, .int), ("keptDay", "I", false, .int), ("states", "[J", true, .array .long), ("slots", "[I", true, .array .int), ("nexts", "[I", true, .array .int), ("stateMany", "I", false, .int), ("isSpent", "Z", false, .boolean), ("wasFault", "Z", false, .boolean), ("soon", "[I", true, .array .int), ("inFirst", "[I", true, .array .int), ("inFrom", "[I", true, .array .int), ("order", "[I", true, .array .int), ("heap", "[I", true, .array .int), ("tried", "[I", true, .array .int), ("part", "[I", true, .array .int), ("led", "[I", true, .array .int), ("weights", "[J", true, .array .long), ("comes", "[J", true, .array .long), ("rows", "[J", true, .array .long), ("logDay", "[I", true, .array .int), ("logMan", "[I", true, .array .int), ("whenTold", "[I", true, .array .int), ("untold", "[I", true, .array .int), ("manOn", "[I", true, .array .int), ("clashes", "[Z", true, .array .boolean), ("logs", "I", false, .int), ("time", "I", false, .int), ("hasBox", "[Z", true, .array .boolean), ("boxOver", "[Z", true, .array .boolean), ("boxBeen", "[Z", true, .array .boolean), ("boxHolds", "[I", true, .array .int), ("boxVisits", "[I", true, .array .int), ("boxBurdens", "[I", true, .array .int), ("boxLit", "[I", true, .array .int), ("boxDay", "[I", true, .array .int), ("boxToday", "[I", true, .array .int)]
def ly_ff (c k : Nat) : String × String × Bool × FieldType := (ly_fs c).getD k ("", "I", false, .int)
def ly_TT (c : Nat) : u_T := fun k => (ly_cn c, (ly_ff c k).1, (ly_ff c k).2.1, (ly_ff c k).2.2.1)
def ly_ty (c k : Nat) : FieldType := (ly_ff c k).2.2.2
def ly_nf (c : Nat) : Nat := (ly_fs c).length
def ly_cl : List vw_C := (List.range 12).map fun c => (ly_cn c, ly_TT c, ly_nf c)
def ly_cat : FieldType → Nat
  | .long => 1
  | .object _ => 2
  | .array _ => 2
  | _ => 0
def ly_ck (s : String) : Nat := if s = "LampYard$Chance" then 0 else if s = "LampYard$Course" then 1 else if s = "LampYard$Faults" then 2 else if s = "LampYard$Logs" then 3 else if s = "LampYard$Plan" then 4 else if s = "LampYard$Reader" then 5 else if s = "LampYard$Rounds" then 6 else if s = "LampYard$StateSet" then 7 else if s = "LampYard$Steps" then 8 else if s = "LampYard$Survey" then 9 else if s = "LampYard" then 10 else 11
def ly_kd : FieldType → Nat
  | .object s => ly_ck s
  | .array .byte => 12
  | .array .int => 13
  | .array .long => 14
  | .array .boolean => 15
  | .array (.object _) => 16
  | _ => 0
theorem ly_clc {c : Nat} (h : c < 12) : ly_cl[c]? = some (ly_cn c, ly_TT c, ly_nf c) := by simp [ly_cl, h]
theorem ly_in0 : ∀ w ∈ u_ws (ly_cn 0) (ly_TT 0) (ly_nf 0), w ∈ ly_T := by
  have e : u_ws (ly_cn 0) (ly_TT 0) (ly_nf 0) = [963, 965, 967, 969, 971].filterMap (fun i => tables_1[i]?) := by decide +kernel
  have g : (u_ws (ly_cn 0) (ly_TT 0) (ly_nf 0)).all goodWord = true := by decide +kernel
  intro w hw
  have h1 := List.all_eq_true.mp g w hw
  rw [e] at hw
  obtain ⟨j, -, hj⟩ := List.mem_filterMap.mp hw
  exact ly_at j hj h1
theorem ly_nm0 : ∀ a, a < ly_nf 0 → ∀ b, b < ly_nf 0 → a ≠ b → (ly_TT 0 a).2.1 ≠ (ly_TT 0 b).2.1 := by decide +kernel
theorem ly_tk0 : ∀ k, k < ly_nf 0 → parseFieldDescriptor (ly_TT 0 k).2.2.1 = some (ly_ty 0 k) := by decide +kernel
theorem ly_tc0 : ∀ k, k < ly_nf 0 → (ly_cat (ly_ty 0 k) = 0 → ly_ty 0 k = .int ∨ ly_ty 0 k = .boolean) ∧ (ly_cat (ly_ty 0 k) = 1 → ly_ty 0 k = .long) ∧ (ly_cat (ly_ty 0 k) = 2 → (∃ n, ly_ty 0 k = .object n) ∨ ∃ t, ly_ty 0 k = .array t) := by
  intro k hk
  have h : (List.range (ly_nf 0)).all (fun k => match ly_ty 0 k with | .int => true | .boolean => true | .long => true | .object _ => true | .array _ => true | _ => false) = true := by decide +kernel
  have h1 := List.all_eq_true.mp h k (List.mem_range.mpr hk)
  generalize ly_ty 0 k = t at h1 ⊢
  cases t <;> simp_all [ly_cat]
theorem ly_in1 : ∀ w ∈ u_ws (ly_cn 1) (ly_TT 1) (ly_nf 1), w ∈ ly_T := by
  have e : u_ws (ly_cn 1) (ly_TT 1) (ly_nf 1) = [175, 177, 179, 181, 183].filterMap (fun i => tables_1[i]?) := by decide +kernel
  have g : (u_ws (ly_cn 1) (ly_TT 1) (ly_nf 1)).all goodWord = true := by decide +kernel
  intro w hw
  have h1 := List.all_eq_true.mp g w hw
  rw [e] at hw
  obtain ⟨j, -, hj⟩ := List.mem_filterMap.mp hw
  exact ly_at j hj h1
theorem ly_nm1 : ∀ a, a < ly_nf 1 → ∀ b, b < ly_nf 1 → a ≠ b → (ly_TT 1 a).2.1 ≠ (ly_TT 1 b).2.1 := by decide +kernel
theorem ly_tk1 : ∀ k, k < ly_nf 1 → parseFieldDescriptor (ly_TT 1 k).2.2.1 = some (ly_ty 1 k) := by decide +kernel
theorem ly_tc1 : ∀ k, k < ly_nf 1 → (ly_cat (ly_ty 1 k) = 0 → ly_ty 1 k = .int ∨ ly_ty 1 k = .boolean) ∧ (ly_cat (ly_ty 1 k) = 1 → ly_ty 1 k = .long) ∧ (ly_cat (ly_ty 1 k) = 2 → (∃ n, ly_ty 1 k = .object n) ∨ ∃ t, ly_ty 1 k = .array t) := by
  intro k hk
  have h : (List.range (ly_nf 1)).all (fun k => match ly_ty 1 k with | .int => true | .boolean => true | .long => true | .object _ => true | .array _ => true | _ => false) = true := by decide +kernel
  have h1 := List.all_eq_true.mp h k (List.mem_range.mpr hk)
  generalize ly_ty 1 k = t at h1 ⊢
  cases t <;> simp_all [ly_cat]
theorem ly_in2 : ∀ w ∈ u_ws (ly_cn 2) (ly_TT 2) (ly_nf 2), w ∈ ly_T := by
  have e : u_ws (ly_cn 2) (ly_TT 2) (ly_nf 2) = [909, 911, 913].filterMap (fun i => tables_1[i]?) := by decide +kernel
  have g : (u_ws (ly_cn 2) (ly_TT 2) (ly_nf 2)).all goodWord = true := by decide +kernel
  intro w hw
  have h1 := List.all_eq_true.mp g w hw
  rw [e] at hw
  obtain ⟨j, -, hj⟩ := List.mem_filterMap.mp hw
  exact ly_at j hj h1
theorem ly_nm2 : ∀ a, a < ly_nf 2 → ∀ b, b < ly_nf 2 → a ≠ b → (ly_TT 2 a).2.1 ≠ (ly_TT 2 b).2.1 := by decide +kernel
theorem ly_tk2 : ∀ k, k < ly_nf 2 → parseFieldDescriptor (ly_TT 2 k).2.2.1 = some (ly_ty 2 k) := by decide +kernel
theorem ly_tc2 : ∀ k, k < ly_nf 2 → (ly_cat (ly_ty 2 k) = 0 → ly_ty 2 k = .int ∨ ly_ty 2 k = .boolean) ∧ (ly_cat (ly_ty 2 k) = 1 → ly_ty 2 k = .long) ∧ (ly_cat (ly_ty 2 k) = 2 → (∃ n, ly_ty 2 k = .object n) ∨ ∃ t, ly_ty 2 k = .array t) := by
  intro k hk
  have h : (List.range (ly_nf 2)).all (fun k => match ly_ty 2 k with | .int => true | .boolean => true | .long => true | .object _ => true | .array _ => true | _ => false) = true := by decide +kernel
  have h1 := List.all_eq_true.mp h k (List.mem_range.mpr hk)
  generalize ly_ty 2 k = t at h1 ⊢
  cases t <;> simp_all [ly_cat]
theorem ly_in3 : ∀ w ∈ u_ws (ly_cn 3) (ly_TT 3) (ly_nf 3), w ∈ ly_T := by
  have e : u_ws (ly_cn 3) (ly_TT 3) (ly_nf 3) = [203, 205, 207, 209, 211, 213, 215, 217].filterMap (fun i => tables_1[i]?) := by decide +kernel
  have g : (u_ws (ly_cn 3) (ly_TT 3) (ly_nf 3)).all goodWord = true := by decide +kernel
  intro w hw
  have h1 := List.all_eq_true.mp g w hw
  rw [e] at hw
  obtain ⟨j, -, hj⟩ := List.mem_filterMap.mp hw
  exact ly_at j hj h1
theorem ly_nm3 : ∀ a, a < ly_nf 3 → ∀ b, b < ly_nf 3 → a ≠ b → (ly_TT 3 a).2.1 ≠ (ly_TT 3 b).2.1 := by decide +kernel
theorem ly_tk3 : ∀ k, k < ly_nf 3 → parseFieldDescriptor (ly_TT 3 k).2.2.1 = some (ly_ty 3 k) := by decide +kernel
theorem ly_tc3 : ∀ k, k < ly_nf 3 → (ly_cat (ly_ty 3 k) = 0 → ly_ty 3 k = .int ∨ ly_ty 3 k = .boolean) ∧ (ly_cat (ly_ty 3 k) = 1 → ly_ty 3 k = .long) ∧ (ly_cat (ly_ty 3 k) = 2 → (∃ n, ly_ty 3 k = .object n) ∨ ∃ t, ly_ty 3 k = .array t) := by
  intro k hk
  have h : (List.range (ly_nf 3)).all (fun k => match ly_ty 3 k with | .int => true | .boolean => true | .long => true | .object _ => true | .array _ => true | _ => false) = true := by decide +kernel
  have h1 := List.all_eq_true.mp h k (List.mem_range.mpr hk)
  generalize ly_ty 3 k = t at h1 ⊢
  cases t <;> simp_all [ly_cat]
theorem ly_in4 : ∀ w ∈ u_ws (ly_cn 4) (ly_TT 4) (ly_nf 4), w ∈ ly_T := by
  have e : u_ws (ly_cn 4) (ly_TT 4) (ly_nf 4) = [124, 126, 128, 130, 132, 134, 136, 138, 140, 142, 144, 146, 148, 150, 152, 154, 156].filterMap (fun i => tables_1[i]?) := by decide +kernel
  have g : (u_ws (ly_cn 4) (ly_TT 4) (ly_nf 4)).all goodWord = true := by decide +kernel
  intro w hw
  have h1 := List.all_eq_true.mp g w hw
  rw [e] at hw
  obtain ⟨j, -, hj⟩ := List.mem_filterMap.mp hw
  exact ly_at j hj h1
theorem ly_nm4 : ∀ a, a < ly_nf 4 → ∀ b, b < ly_nf 4 → a ≠ b → (ly_TT 4 a).2.1 ≠ (ly_TT 4 b).2.1 := by decide +kernel
theorem ly_tk4 : ∀ k, k < ly_nf 4 → parseFieldDescriptor (ly_TT 4 k).2.2.1 = some (ly_ty 4 k) := by decide +kernel
theorem ly_tc4 : ∀ k, k < ly_nf 4 → (ly_cat (ly_ty 4 k) = 0 → ly_ty 4 k = .int ∨ ly_ty 4 k = .boolean) ∧ (ly_cat (ly_ty 4 k) = 1 → ly_ty 4 k = .long) ∧ (ly_cat (ly_ty 4 k) = 2 → (∃ n, ly_ty 4 k = .object n) ∨ ∃ t, ly_ty 4 k = .array t) := by
  intro k hk
  have h : (List.range (ly_nf 4)).all (fun k => match ly_ty 4 k with | .int => true | .boolean => true | .long => true | .object _ => true | .array _ => true | _ => false) = true := by decide +kernel
  have h1 := List.all_eq_true.mp h k (List.mem_range.mpr hk)
  generalize ly_ty 4 k = t at h1 ⊢
  cases t <;> simp_all [ly_cat]
theorem ly_in5 : ∀ w ∈ u_ws (ly_cn 5) (ly_TT 5) (ly_nf 5), w ∈ ly_T := by
  have e : u_ws (ly_cn 5) (ly_TT 5) (ly_nf 5) = [51, 53, 55, 57, 59, 61, 63, 65, 67, 69, 71, 73, 75].filterMap (fun i => tables_1[i]?) := by decide +kernel
  have g : (u_ws (ly_cn 5) (ly_TT 5) (ly_nf 5)).all goodWord = true := by decide +kernel
  intro w hw
  have h1 := List.all_eq_true.mp g w hw
  rw [e] at hw
  obtain ⟨j, -, hj⟩ := List.mem_filterMap.mp hw
  exact ly_at j hj h1
theorem ly_nm5 : ∀ a, a < ly_nf 5 → ∀ b, b < ly_nf 5 → a ≠ b → (ly_TT 5 a).2.1 ≠ (ly_TT 5 b).2.1 := by decide +kernel
theorem ly_tk5 : ∀ k, k < ly_nf 5 → parseFieldDescriptor (ly_TT 5 k).2.2.1 = some (ly_ty 5 k) := by decide +kernel
theorem ly_tc5 : ∀ k, k < ly_nf 5 → (ly_cat (ly_ty 5 k) = 0 → ly_ty 5 k = .int ∨ ly_ty 5 k = .boolean) ∧ (ly_cat (ly_ty 5 k) = 1 → ly_ty 5 k = .long) ∧ (ly_cat (ly_ty 5 k) = 2 → (∃ n, ly_ty 5 k = .object n) ∨ ∃ t, ly_ty 5 k = .array t) := by
  intro k hk
  have h : (List.range (ly_nf 5)).all (fun k => match ly_ty 5 k with | .int => true | .boolean => true | .long => true | .object _ => true | .array _ => true | _ => false) = true := by decide +kernel
  have h1 := List.all_eq_true.mp h k (List.mem_range.mpr hk)
  generalize ly_ty 5 k = t at h1 ⊢
  cases t <;> simp_all [ly_cat]
theorem ly_in6 : ∀ w ∈ u_ws (ly_cn 6) (ly_TT 6) (ly_nf 6), w ∈ ly_T := by
  have e : u_ws (ly_cn 6) (ly_TT 6) (ly_nf 6) = [821, 823, 825, 827, 829, 831, 833, 835, 837, 839, 841, 843].filterMap (fun i => tables_1[i]?) := by decide +kernel
  have g : (u_ws (ly_cn 6) (ly_TT 6) (ly_nf 6)).all goodWord = true := by decide +kernel
  intro w hw
  have h1 := List.all_eq_true.mp g w hw
  rw [e] at hw
  obtain ⟨j, -, hj⟩ := List.mem_filterMap.mp hw
  exact ly_at j hj h1
theorem ly_nm6 : ∀ a, a < ly_nf 6 → ∀ b, b < ly_nf 6 → a ≠ b → (ly_TT 6 a).2.1 ≠ (ly_TT 6 b).2.1 := by decide +kernel
theorem ly_tk6 : ∀ k, k < ly_nf 6 → parseFieldDescriptor (ly_TT 6 k).2.2.1 = some (ly_ty 6 k) := by decide +kernel
theorem ly_tc6 : ∀ k, k < ly_nf 6 → (ly_cat (ly_ty 6 k) = 0 → ly_ty 6 k = .int ∨ ly_ty 6 k = .boolean) ∧ (ly_cat (ly_ty 6 k) = 1 → ly_ty 6 k = .long) ∧ (ly_cat (ly_ty 6 k) = 2 → (∃ n, ly_ty 6 k = .object n) ∨ ∃ t, ly_ty 6 k = .array t) := by
  intro k hk
  have h : (List.range (ly_nf 6)).all (fun k => match ly_ty 6 k with | .int => true | .boolean => true | .long => true | .object _ => true | .array _ => true | _ => false) = true := by decide +kernel
  have h1 := List.all_eq_true.mp h k (List.mem_range.mpr hk)
  generalize ly_ty 6 k = t at h1 ⊢
  cases t <;> simp_all [ly_cat]
theorem ly_in7 : ∀ w ∈ u_ws (ly_cn 7) (ly_TT 7) (ly_nf 7), w ∈ ly_T := by
  have e : u_ws (ly_cn 7) (ly_TT 7) (ly_nf 7) = [629, 631, 633, 635].filterMap (fun i => tables_1[i]?) := by decide +kernel
  have g : (u_ws (ly_cn 7) (ly_TT 7) (ly_nf 7)).all goodWord = true := by decide +kernel
  intro w hw
  have h1 := List.all_eq_true.mp g w hw
  rw [e] at hw
  obtain ⟨j, -, hj⟩ := List.mem_filterMap.mp hw
  exact ly_at j hj h1
theorem ly_nm7 : ∀ a, a < ly_nf 7 → ∀ b, b < ly_nf 7 → a ≠ b → (ly_TT 7 a).2.1 ≠ (ly_TT 7 b).2.1 := by decide +kernel
theorem ly_tk7 : ∀ k, k < ly_nf 7 → parseFieldDescriptor (ly_TT 7 k).2.2.1 = some (ly_ty 7 k) := by decide +kernel
theorem ly_tc7 : ∀ k, k < ly_nf 7 → (ly_cat (ly_ty 7 k) = 0 → ly_ty 7 k = .int ∨ ly_ty 7 k = .boolean) ∧ (ly_cat (ly_ty 7 k) = 1 → ly_ty 7 k = .long) ∧ (ly_cat (ly_ty 7 k) = 2 → (∃ n, ly_ty 7 k = .object n) ∨ ∃ t, ly_ty 7 k = .array t) := by
  intro k hk
  have h : (List.range (ly_nf 7)).all (fun k => match ly_ty 7 k with | .int => true | .boolean => true | .long => true | .object _ => true | .array _ => true | _ => false) = true := by decide +kernel
  have h1 := List.all_eq_true.mp h k (List.mem_range.mpr hk)
  generalize ly_ty 7 k = t at h1 ⊢
  cases t <;> simp_all [ly_cat]
theorem ly_in8 : ∀ w ∈ u_ws (ly_cn 8) (ly_TT 8) (ly_nf 8), w ∈ ly_T := by
  have e : u_ws (ly_cn 8) (ly_TT 8) (ly_nf 8) = [611].filterMap (fun i => tables_1[i]?) := by decide +kernel
  have g : (u_ws (ly_cn 8) (ly_TT 8) (ly_nf 8)).all goodWord = true := by decide +kernel
  intro w hw
  have h1 := List.all_eq_true.mp g w hw
  rw [e] at hw
  obtain ⟨j, -, hj⟩ := List.mem_filterMap.mp hw
  exact ly_at j hj h1
theorem ly_nm8 : ∀ a, a < ly_nf 8 → ∀ b, b < ly_nf 8 → a ≠ b → (ly_TT 8 a).2.1 ≠ (ly_TT 8 b).2.1 := by decide +kernel
theorem ly_tk8 : ∀ k, k < ly_nf 8 → parseFieldDescriptor (ly_TT 8 k).2.2.1 = some (ly_ty 8 k) := by decide +kernel
theorem ly_tc8 : ∀ k, k < ly_nf 8 → (ly_cat (ly_ty 8 k) = 0 → ly_ty 8 k = .int ∨ ly_ty 8 k = .boolean) ∧ (ly_cat (ly_ty 8 k) = 1 → ly_ty 8 k = .long) ∧ (ly_cat (ly_ty 8 k) = 2 → (∃ n, ly_ty 8 k = .object n) ∨ ∃ t, ly_ty 8 k = .array t) := by
  intro k hk
  have h : (List.range (ly_nf 8)).all (fun k => match ly_ty 8 k with | .int => true | .boolean => true | .long => true | .object _ => true | .array _ => true | _ => false) = true := by decide +kernel
  have h1 := List.all_eq_true.mp h k (List.mem_range.mpr hk)
  generalize ly_ty 8 k = t at h1 ⊢
  cases t <;> simp_all [ly_cat]
theorem ly_in9 : ∀ w ∈ u_ws (ly_cn 9) (ly_TT 9) (ly_nf 9), w ∈ ly_T := by
  have e : u_ws (ly_cn 9) (ly_TT 9) (ly_nf 9) = [672, 674, 676, 678, 680, 682, 684, 686, 688, 690, 692, 694, 696, 698, 700, 702].filterMap (fun i => tables_1[i]?) := by decide +kernel
  have g : (u_ws (ly_cn 9) (ly_TT 9) (ly_nf 9)).all goodWord = true := by decide +kernel
  intro w hw
  have h1 := List.all_eq_true.mp g w hw
  rw [e] at hw
  obtain ⟨j, -, hj⟩ := List.mem_filterMap.mp hw
  exact ly_at j hj h1
theorem ly_nm9 : ∀ a, a < ly_nf 9 → ∀ b, b < ly_nf 9 → a ≠ b → (ly_TT 9 a).2.1 ≠ (ly_TT 9 b).2.1 := by decide +kernel
theorem ly_tk9 : ∀ k, k < ly_nf 9 → parseFieldDescriptor (ly_TT 9 k).2.2.1 = some (ly_ty 9 k) := by decide +kernel
theorem ly_tc9 : ∀ k, k < ly_nf 9 → (ly_cat (ly_ty 9 k) = 0 → ly_ty 9 k = .int ∨ ly_ty 9 k = .boolean) ∧ (ly_cat (ly_ty 9 k) = 1 → ly_ty 9 k = .long) ∧ (ly_cat (ly_ty 9 k) = 2 → (∃ n, ly_ty 9 k = .object n) ∨ ∃ t, ly_ty 9 k = .array t) := by
  intro k hk
  have h : (List.range (ly_nf 9)).all (fun k => match ly_ty 9 k with | .int => true | .boolean => true | .long => true | .object _ => true | .array _ => true | _ => false) = true := by decide +kernel
  have h1 := List.all_eq_true.mp h k (List.mem_range.mpr hk)
  generalize ly_ty 9 k = t at h1 ⊢
  cases t <;> simp_all [ly_cat]
theorem ly_in10 : ∀ w ∈ u_ws (ly_cn 10) (ly_TT 10) (ly_nf 10), w ∈ ly_T := by
  have e : u_ws (ly_cn 10) (ly_TT 10) (ly_nf 10) = [273, 275, 277, 279, 281, 283, 285, 287, 289, 291, 293, 295].filterMap (fun i => tables_1[i]?) := by decide +kernel
  have g : (u_ws (ly_cn 10) (ly_TT 10) (ly_nf 10)).all goodWord = true := by decide +kernel
  intro w hw
  have h1 := List.all_eq_true.mp g w hw
  rw [e] at hw
  obtain ⟨j, -, hj⟩ := List.mem_filterMap.mp hw
  exact ly_at j hj h1
theorem ly_nm10 : ∀ a, a < ly_nf 10 → ∀ b, b < ly_nf 10 → a ≠ b → (ly_TT 10 a).2.1 ≠ (ly_TT 10 b).2.1 := by decide +kernel
theorem ly_tk10 : ∀ k, k < ly_nf 10 → parseFieldDescriptor (ly_TT 10 k).2.2.1 = some (ly_ty 10 k) := by decide +kernel
theorem ly_tc10 : ∀ k, k < ly_nf 10 → (ly_cat (ly_ty 10 k) = 0 → ly_ty 10 k = .int ∨ ly_ty 10 k = .boolean) ∧ (ly_cat (ly_ty 10 k) = 1 → ly_ty 10 k = .long) ∧ (ly_cat (ly_ty 10 k) = 2 → (∃ n, ly_ty 10 k = .object n) ∨ ∃ t, ly_ty 10 k = .array t) := by
  intro k hk
  have h : (List.range (ly_nf 10)).all (fun k => match ly_ty 10 k with | .int => true | .boolean => true | .long => true | .object _ => true | .array _ => true | _ => false) = true := by decide +kernel
  have h1 := List.all_eq_true.mp h k (List.mem_range.mpr hk)
  generalize ly_ty 10 k = t at h1 ⊢
  cases t <;> simp_all [ly_cat]
theorem ly_in11 : ∀ w ∈ u_ws (ly_cn 11) (ly_TT 11) (ly_nf 11), w ∈ ly_T := by
  have e : u_ws (ly_cn 11) (ly_TT 11) (ly_nf 11) = [1243, 1245, 1247, 1249, 1251, 1253, 1255, 1257, 1259, 1261, 1263, 1265, 1267, 1269, 1271, 1273, 1275, 1277, 1279, 1281, 1283, 1285, 1287, 1289, 1291, 1293, 1295, 1297, 1299, 1301, 1303, 1305, 1307, 1309, 1311, 1313, 1315, 1317, 1319, 1321, 1323, 1325, 1327, 1329, 1331, 1333, 1335, 1337, 1339, 1341, 1343, 1345, 1347, 1349, 1351, 1353, 1355, 1357, 1359, 1361, 1363, 1365, 1367, 1369, 1371, 1373, 1375, 1377, 1379, 1381, 1383, 1385, 1387, 1389, 1391, 1393, 1395, 1397, 1399, 1401, 1403, 1405, 1407, 1409, 1411, 1413, 1415, 1417, 1419, 1421, 1423, 1425, 1427, 1429, 1431, 1433].filterMap (fun i => tables_1[i]?) := by decide +kernel
  have g : (u_ws (ly_cn 11) (ly_TT 11) (ly_nf 11)).all goodWord = true := by decide +kernel
  intro w hw
  have h1 := List.all_eq_true.mp g w hw
  rw [e] at hw
  obtain ⟨j, -, hj⟩ := List.mem_filterMap.mp hw
  exact ly_at j hj h1
theorem ly_nm11 : ∀ a, a < ly_nf 11 → ∀ b, b < ly_nf 11 → a ≠ b → (ly_TT 11 a).2.1 ≠ (ly_TT 11 b).2.1 := by decide +kernel
theorem ly_tk11 : ∀ k, k < ly_nf 11 → parseFieldDescriptor (ly_TT 11 k).2.2.1 = some (ly_ty 11 k) := by decide +kernel
theorem ly_tc11 : ∀ k, k < ly_nf 11 → (ly_cat (ly_ty 11 k) = 0 → ly_ty 11 k = .int ∨ ly_ty 11 k = .boolean) ∧ (ly_cat (ly_ty 11 k) = 1 → ly_ty 11 k = .long) ∧ (ly_cat (ly_ty 11 k) = 2 → (∃ n, ly_ty 11 k = .object n) ∨ ∃ t, ly_ty 11 k = .array t) := by
  intro k hk
  have h : (List.range (ly_nf 11)).all (fun k => match ly_ty 11 k with | .int => true | .boolean => true | .long => true | .object _ => true | .array _ => true | _ => false) = true := by decide +kernel
  have h1 := List.all_eq_true.mp h k (List.mem_range.mpr hk)
  generalize ly_ty 11 k = t at h1 ⊢
  cases t <;> simp_all [ly_cat]
theorem ly_in {c : Nat} (h : c < 12) : ∀ w ∈ u_ws (ly_cn c) (ly_TT c) (ly_nf c), w ∈ ly_T := by
  match c, h with
  | 0, _ => exact ly_in0
  | 1, _ => exact ly_in1
  | 2, _ => exact ly_in2
  | 3, _ => exact ly_in3
  | 4, _ => exact ly_in4
  | 5, _ => exact ly_in5
  | 6, _ => exact ly_in6
  | 7, _ => exact ly_in7
  | 8, _ => exact ly_in8
  | 9, _ => exact ly_in9
  | 10, _ => exact ly_in10
  | 11, _ => exact ly_in11
  | n + 12, h => exact absurd h (by omega)
theorem ly_nm {c : Nat} (h : c < 12) : ∀ a, a < ly_nf c → ∀ b, b < ly_nf c → a ≠ b → (ly_TT c a).2.1 ≠ (ly_TT c b).2.1 := by
  match c, h with
  | 0, _ => exact ly_nm0
  | 1, _ => exact ly_nm1
  | 2, _ => exact ly_nm2
  | 3, _ => exact ly_nm3
  | 4, _ => exact ly_nm4
  | 5, _ => exact ly_nm5
  | 6, _ => exact ly_nm6
  | 7, _ => exact ly_nm7
  | 8, _ => exact ly_nm8
  | 9, _ => exact ly_nm9
  | 10, _ => exact ly_nm10
  | 11, _ => exact ly_nm11
  | n + 12, h => exact absurd h (by omega)
theorem ly_tk {c : Nat} (h : c < 12) : ∀ k, k < ly_nf c → parseFieldDescriptor (ly_TT c k).2.2.1 = some (ly_ty c k) := by
  match c, h with
  | 0, _ => exact ly_tk0
  | 1, _ => exact ly_tk1
  | 2, _ => exact ly_tk2
  | 3, _ => exact ly_tk3
  | 4, _ => exact ly_tk4
  | 5, _ => exact ly_tk5
  | 6, _ => exact ly_tk6
  | 7, _ => exact ly_tk7
  | 8, _ => exact ly_tk8
  | 9, _ => exact ly_tk9
  | 10, _ => exact ly_tk10
  | 11, _ => exact ly_tk11
  | n + 12, h => exact absurd h (by omega)
theorem ly_tc {c : Nat} (h : c < 12) : ∀ k, k < ly_nf c → (ly_cat (ly_ty c k) = 0 → ly_ty c k = .int ∨ ly_ty c k = .boolean) ∧ (ly_cat (ly_ty c k) = 1 → ly_ty c k = .long) ∧ (ly_cat (ly_ty c k) = 2 → (∃ n, ly_ty c k = .object n) ∨ ∃ t, ly_ty c k = .array t) := by
  match c, h with
  | 0, _ => exact ly_tc0
  | 1, _ => exact ly_tc1
  | 2, _ => exact ly_tc2
  | 3, _ => exact ly_tc3
  | 4, _ => exact ly_tc4
  | 5, _ => exact ly_tc5
  | 6, _ => exact ly_tc6
  | 7, _ => exact ly_tc7
  | 8, _ => exact ly_tc8
  | 9, _ => exact ly_tc9
  | 10, _ => exact ly_tc10
  | 11, _ => exact ly_tc11
  | n + 12, h => exact absurd h (by omega)
theorem ly_is0 : Cond.instantiable (ly_cn 0) (ly_nf 0) ∈ ly_T := ly_at 953 (by decide +kernel) rfl
theorem ly_id0 : Cond.initialized (ly_cn 0) ∈ ly_T := ly_at 19 (by decide +kernel) rfl
theorem ly_is1 : Cond.instantiable (ly_cn 1) (ly_nf 1) ∈ ly_T := ly_at 161 (by decide +kernel) rfl
theorem ly_id1 : Cond.initialized (ly_cn 1) ∈ ly_T := ly_at 4 (by decide +kernel) rfl
theorem ly_is2 : Cond.instantiable (ly_cn 2) (ly_nf 2) ∈ ly_T := ly_at 898 (by decide +kernel) rfl
theorem ly_id2 : Cond.initialized (ly_cn 2) ∈ ly_T := ly_at 18 (by decide +kernel) rfl
theorem ly_is3 : Cond.instantiable (ly_cn 3) (ly_nf 3) ∈ ly_T := ly_at 188 (by decide +kernel) rfl
theorem ly_id3 : Cond.initialized (ly_cn 3) ∈ ly_T := ly_at 5 (by decide +kernel) rfl
theorem ly_is4 : Cond.instantiable (ly_cn 4) (ly_nf 4) ∈ ly_T := ly_at 82 (by decide +kernel) rfl
theorem ly_id4 : Cond.initialized (ly_cn 4) ∈ ly_T := ly_at 3 (by decide +kernel) rfl
theorem ly_is5 : Cond.instantiable (ly_cn 5) (ly_nf 5) ∈ ly_T := ly_at 31 (by decide +kernel) rfl
theorem ly_id5 : Cond.initialized (ly_cn 5) ∈ ly_T := ly_at 2 (by decide +kernel) rfl
theorem ly_is6 : Cond.instantiable (ly_cn 6) (ly_nf 6) ∈ ly_T := ly_at 804 (by decide +kernel) rfl
theorem ly_id6 : Cond.initialized (ly_cn 6) ∈ ly_T := ly_at 17 (by decide +kernel) rfl
theorem ly_is7 : Cond.instantiable (ly_cn 7) (ly_nf 7) ∈ ly_T := ly_at 615 (by decide +kernel) rfl
theorem ly_id7 : Cond.initialized (ly_cn 7) ∈ ly_T := ly_at 16 (by decide +kernel) rfl
theorem ly_is8 : Cond.instantiable (ly_cn 8) (ly_nf 8) ∈ ly_T := ly_at 605 (by decide +kernel) rfl
theorem ly_id8 : Cond.initialized (ly_cn 8) ∈ ly_T := ly_at 15 (by decide +kernel) rfl
theorem ly_is9 : Cond.instantiable (ly_cn 9) (ly_nf 9) ∈ ly_T := ly_at 599 (by decide +kernel) rfl
theorem ly_id9 : Cond.initialized (ly_cn 9) ∈ ly_T := ly_at 14 (by decide +kernel) rfl
theorem ly_is10 : Cond.instantiable (ly_cn 10) (ly_nf 10) ∈ ly_T := ly_at 23 (by decide +kernel) rfl
theorem ly_id10 : Cond.initialized (ly_cn 10) ∈ ly_T := ly_at 1 (by decide +kernel) rfl
theorem ly_is11 : Cond.instantiable (ly_cn 11) (ly_nf 11) ∈ ly_T := ly_at 1130 (by decide +kernel) rfl
theorem ly_id11 : Cond.initialized (ly_cn 11) ∈ ly_T := ly_at 8 (by decide +kernel) rfl
theorem ly_is {c : Nat} (h : c < 12) : Cond.instantiable (ly_cn c) (ly_nf c) ∈ ly_T := by
  match c, h with
  | 0, _ => exact ly_is0
  | 1, _ => exact ly_is1
  | 2, _ => exact ly_is2
  | 3, _ => exact ly_is3
  | 4, _ => exact ly_is4
  | 5, _ => exact ly_is5
  | 6, _ => exact ly_is6
  | 7, _ => exact ly_is7
  | 8, _ => exact ly_is8
  | 9, _ => exact ly_is9
  | 10, _ => exact ly_is10
  | 11, _ => exact ly_is11
  | n + 12, h => exact absurd h (by omega)
theorem ly_id {c : Nat} (h : c < 12) : Cond.initialized (ly_cn c) ∈ ly_T := by
  match c, h with
  | 0, _ => exact ly_id0
  | 1, _ => exact ly_id1
  | 2, _ => exact ly_id2
  | 3, _ => exact ly_id3
  | 4, _ => exact ly_id4
  | 5, _ => exact ly_id5
  | 6, _ => exact ly_id6
  | 7, _ => exact ly_id7
  | 8, _ => exact ly_id8
  | 9, _ => exact ly_id9
  | 10, _ => exact ly_id10
  | 11, _ => exact ly_id11
  | n + 12, h => exact absurd h (by omega)
theorem ly_ca0 : Cond.arrayClass .byte ∈ ly_T := ly_at 78 (by decide +kernel) rfl
theorem ly_ca1 : Cond.arrayClass .int ∈ ly_T := ly_at 80 (by decide +kernel) rfl
theorem ly_ca2 : Cond.arrayClass .long ∈ ly_T := ly_at 79 (by decide +kernel) rfl
theorem ly_ca3 : Cond.arrayClass .boolean ∈ ly_T := ly_at 159 (by decide +kernel) rfl
