/-! classes, their fields in the order of their places, written by program from the claim's own tables -/
def rb_G : List Cond := lw_tbl.filter goodWord
theorem rb_inG {w : Cond} (i : Nat) (h : lw_tbl[i]? = some w) (g : goodWord w = true) : w ∈ rb_G := List.mem_filter.mpr ⟨List.mem_of_getElem? h, g⟩
def rb_T1 : u_T := fun k => match k with
  | 0 => ("RuleBuilder", "draft", "LRuleBuilder$Text;", true)
  | 1 => ("RuleBuilder", "store", "LRuleBuilder$Store;", true)
  | 2 => ("RuleBuilder", "rules", "LRuleBuilder$Rules;", true)
  | 3 => ("RuleBuilder", "expander", "LRuleBuilder$Expander;", true)
  | 4 => ("RuleBuilder", "words", "LRuleBuilder$Words;", true)
  | 5 => ("RuleBuilder", "shell", "LRuleBuilder$Shell;", true)
  | 6 => ("RuleBuilder", "reader", "LRuleBuilder$Reader;", true)
  | _ => ("RuleBuilder", "builder", "LRuleBuilder$Builder;", true)
def rb_ty1 : Nat → FieldType := fun k => match k with
  | 0 => .object "RuleBuilder$Text"
  | 1 => .object "RuleBuilder$Store"
  | 2 => .object "RuleBuilder$Rules"
  | 3 => .object "RuleBuilder$Expander"
  | 4 => .object "RuleBuilder$Words"
  | 5 => .object "RuleBuilder$Shell"
  | 6 => .object "RuleBuilder$Reader"
  | _ => .object "RuleBuilder$Builder"
theorem rb_nm1 : ∀ a, a < 8 → ∀ b, b < 8 → a ≠ b → (rb_T1 a).2.1 ≠ (rb_T1 b).2.1 := by decide +kernel
theorem rb_tyk1 : ∀ k, k < 8 → parseFieldDescriptor (rb_T1 k).2.2.1 = some (rb_ty1 k) := by decide +kernel
theorem rb_ws1 : u_ws "RuleBuilder" rb_T1 8 = [370, 372, 374, 376, 378, 380, 382, 384].filterMap (fun i => lw_tbl[i]?) := by decide +kernel
theorem rb_in1 : ∀ w ∈ u_ws "RuleBuilder" rb_T1 8, w ∈ rb_G := by
  intro w hw
  have hg : goodWord w = true := List.all_eq_true.mp (show (u_ws "RuleBuilder" rb_T1 8).all goodWord = true by decide +kernel) w hw
  rw [rb_ws1] at hw
  obtain ⟨i, -, hi⟩ := List.mem_filterMap.mp hw
  exact rb_inG i hi hg
theorem rb_ini1 : Cond.initialized "RuleBuilder" ∈ rb_G := rb_inG 85 (by decide +kernel) rfl
theorem rb_ins1 : Cond.instantiable "RuleBuilder" 8 ∈ rb_G := rb_inG 106 (by decide +kernel) rfl
def rb_T2 : u_T := fun k => match k with
  | 0 => ("RuleBuilder$Text", "chars", "[C", true)
  | _ => ("RuleBuilder$Text", "length", "I", false)
def rb_ty2 : Nat → FieldType := fun k => match k with
  | 0 => .array .char
  | _ => .int
theorem rb_nm2 : ∀ a, a < 2 → ∀ b, b < 2 → a ≠ b → (rb_T2 a).2.1 ≠ (rb_T2 b).2.1 := by decide +kernel
theorem rb_tyk2 : ∀ k, k < 2 → parseFieldDescriptor (rb_T2 k).2.2.1 = some (rb_ty2 k) := by decide +kernel
theorem rb_ws2 : u_ws "RuleBuilder$Text" rb_T2 2 = [121, 123].filterMap (fun i => lw_tbl[i]?) := by decide +kernel
theorem rb_in2 : ∀ w ∈ u_ws "RuleBuilder$Text" rb_T2 2, w ∈ rb_G := by
  intro w hw
  have hg : goodWord w = true := List.all_eq_true.mp (show (u_ws "RuleBuilder$Text" rb_T2 2).all goodWord = true by decide +kernel) w hw
  rw [rb_ws2] at hw
  obtain ⟨i, -, hi⟩ := List.mem_filterMap.mp hw
  exact rb_inG i hi hg
theorem rb_ini2 : Cond.initialized "RuleBuilder$Text" ∈ rb_G := rb_inG 86 (by decide +kernel) rfl
theorem rb_ins2 : Cond.instantiable "RuleBuilder$Text" 2 ∈ rb_G := rb_inG 114 (by decide +kernel) rfl
def rb_T3 : u_T := fun k => match k with
  | 0 => ("RuleBuilder$Store", "names", "[LRuleBuilder$Name;", true)
  | 1 => ("RuleBuilder$Store", "count", "I", false)
  | _ => ("RuleBuilder$Store", "clock", "I", false)
def rb_ty3 : Nat → FieldType := fun k => match k with
  | 0 => .array (.object "RuleBuilder$Name")
  | 1 => .int
  | _ => .int
theorem rb_nm3 : ∀ a, a < 3 → ∀ b, b < 3 → a ≠ b → (rb_T3 a).2.1 ≠ (rb_T3 b).2.1 := by decide +kernel
theorem rb_tyk3 : ∀ k, k < 3 → parseFieldDescriptor (rb_T3 k).2.2.1 = some (rb_ty3 k) := by decide +kernel
theorem rb_ws3 : u_ws "RuleBuilder$Store" rb_T3 3 = [138, 140, 142].filterMap (fun i => lw_tbl[i]?) := by decide +kernel
theorem rb_in3 : ∀ w ∈ u_ws "RuleBuilder$Store" rb_T3 3, w ∈ rb_G := by
  intro w hw
  have hg : goodWord w = true := List.all_eq_true.mp (show (u_ws "RuleBuilder$Store" rb_T3 3).all goodWord = true by decide +kernel) w hw
  rw [rb_ws3] at hw
  obtain ⟨i, -, hi⟩ := List.mem_filterMap.mp hw
  exact rb_inG i hi hg
theorem rb_ini3 : Cond.initialized "RuleBuilder$Store" ∈ rb_G := rb_inG 87 (by decide +kernel) rfl
theorem rb_ins3 : Cond.instantiable "RuleBuilder$Store" 3 ∈ rb_G := rb_inG 128 (by decide +kernel) rfl
def rb_T4 : u_T := fun k => match k with
  | 0 => ("RuleBuilder$Rules", "suffixes", "[LRuleBuilder$Phrase;", true)
  | 1 => ("RuleBuilder$Rules", "suffixCount", "I", false)
  | 2 => ("RuleBuilder$Rules", "endingFrom", "[LRuleBuilder$Phrase;", true)
  | 3 => ("RuleBuilder$Rules", "endingTo", "[LRuleBuilder$Phrase;", true)
  | 4 => ("RuleBuilder$Rules", "endingCommands", "[I", true)
  | 5 => ("RuleBuilder$Rules", "endingCount", "I", false)
  | 6 => ("RuleBuilder$Rules", "commands", "[LRuleBuilder$Command;", true)
  | 7 => ("RuleBuilder$Rules", "commandCount", "I", false)
  | 8 => ("RuleBuilder$Rules", "targets", "[LRuleBuilder$Name;", true)
  | 9 => ("RuleBuilder$Rules", "prerequisites", "[LRuleBuilder$Name;", true)
  | 10 => ("RuleBuilder$Rules", "prerequisiteCount", "I", false)
  | 11 => ("RuleBuilder$Rules", "defaultCommands", "I", false)
  | 12 => ("RuleBuilder$Rules", "firstTarget", "LRuleBuilder$Name;", false)
  | 13 => ("RuleBuilder$Rules", "allIgnored", "Z", false)
  | _ => ("RuleBuilder$Rules", "allSilent", "Z", false)
def rb_ty4 : Nat → FieldType := fun k => match k with
  | 0 => .array (.object "RuleBuilder$Phrase")
  | 1 => .int
  | 2 => .array (.object "RuleBuilder$Phrase")
  | 3 => .array (.object "RuleBuilder$Phrase")
  | 4 => .array .int
  | 5 => .int
  | 6 => .array (.object "RuleBuilder$Command")
  | 7 => .int
  | 8 => .array (.object "RuleBuilder$Name")
  | 9 => .array (.object "RuleBuilder$Name")
  | 10 => .int
  | 11 => .int
  | 12 => .object "RuleBuilder$Name"
  | 13 => .boolean
  | _ => .boolean
theorem rb_nm4 : ∀ a, a < 15 → ∀ b, b < 15 → a ≠ b → (rb_T4 a).2.1 ≠ (rb_T4 b).2.1 := by decide +kernel
theorem rb_tyk4 : ∀ k, k < 15 → parseFieldDescriptor (rb_T4 k).2.2.1 = some (rb_ty4 k) := by decide +kernel
theorem rb_ws4 : u_ws "RuleBuilder$Rules" rb_T4 15 = [185, 187, 189, 191, 193, 195, 197, 199, 201, 203, 205, 207, 209, 211, 213].filterMap (fun i => lw_tbl[i]?) := by decide +kernel
theorem rb_in4 : ∀ w ∈ u_ws "RuleBuilder$Rules" rb_T4 15, w ∈ rb_G := by
  intro w hw
  have hg : goodWord w = true := List.all_eq_true.mp (show (u_ws "RuleBuilder$Rules" rb_T4 15).all goodWord = true by decide +kernel) w hw
  rw [rb_ws4] at hw
  obtain ⟨i, -, hi⟩ := List.mem_filterMap.mp hw
  exact rb_inG i hi hg
theorem rb_ini4 : Cond.initialized "RuleBuilder$Rules" ∈ rb_G := rb_inG 88 (by decide +kernel) rfl
theorem rb_ins4 : Cond.instantiable "RuleBuilder$Rules" 15 ∈ rb_G := rb_inG 146 (by decide +kernel) rfl
def rb_T5 : u_T := fun k => match k with
  | 0 => ("RuleBuilder$Expander", "out", "LRuleBuilder$Text;", true)
  | 1 => ("RuleBuilder$Expander", "newer", "LRuleBuilder$Text;", true)
  | 2 => ("RuleBuilder$Expander", "given", "[LRuleBuilder$Phrase;", true)
  | 3 => ("RuleBuilder$Expander", "defined", "[LRuleBuilder$Phrase;", true)
  | 4 => ("RuleBuilder$Expander", "emptyGrowth", "[I", true)
  | 5 => ("RuleBuilder$Expander", "longestYet", "I", false)
  | _ => ("RuleBuilder$Expander", "target", "LRuleBuilder$Name;", false)
def rb_ty5 : Nat → FieldType := fun k => match k with
  | 0 => .object "RuleBuilder$Text"
  | 1 => .object "RuleBuilder$Text"
  | 2 => .array (.object "RuleBuilder$Phrase")
  | 3 => .array (.object "RuleBuilder$Phrase")
  | 4 => .array .int
  | 5 => .int
  | _ => .object "RuleBuilder$Name"
theorem rb_nm5 : ∀ a, a < 7 → ∀ b, b < 7 → a ≠ b → (rb_T5 a).2.1 ≠ (rb_T5 b).2.1 := by decide +kernel
theorem rb_tyk5 : ∀ k, k < 7 → parseFieldDescriptor (rb_T5 k).2.2.1 = some (rb_ty5 k) := by decide +kernel
theorem rb_ws5 : u_ws "RuleBuilder$Expander" rb_T5 7 = [237, 239, 241, 243, 245, 247, 249].filterMap (fun i => lw_tbl[i]?) := by decide +kernel
theorem rb_in5 : ∀ w ∈ u_ws "RuleBuilder$Expander" rb_T5 7, w ∈ rb_G := by
  intro w hw
  have hg : goodWord w = true := List.all_eq_true.mp (show (u_ws "RuleBuilder$Expander" rb_T5 7).all goodWord = true by decide +kernel) w hw
  rw [rb_ws5] at hw
  obtain ⟨i, -, hi⟩ := List.mem_filterMap.mp hw
  exact rb_inG i hi hg
theorem rb_ini5 : Cond.initialized "RuleBuilder$Expander" ∈ rb_G := rb_inG 89 (by decide +kernel) rfl
theorem rb_ins5 : Cond.instantiable "RuleBuilder$Expander" 7 ∈ rb_G := rb_inG 218 (by decide +kernel) rfl
def rb_T6 : u_T := fun k => match k with
  | 0 => ("RuleBuilder$Words", "text", "LRuleBuilder$Text;", true)
  | 1 => ("RuleBuilder$Words", "begins", "[I", true)
  | 2 => ("RuleBuilder$Words", "ends", "[I", true)
  | 3 => ("RuleBuilder$Words", "met", "[LRuleBuilder$Name;", true)
  | _ => ("RuleBuilder$Words", "count", "I", false)
def rb_ty6 : Nat → FieldType := fun k => match k with
  | 0 => .object "RuleBuilder$Text"
  | 1 => .array .int
  | 2 => .array .int
  | 3 => .array (.object "RuleBuilder$Name")
  | _ => .int
theorem rb_nm6 : ∀ a, a < 5 → ∀ b, b < 5 → a ≠ b → (rb_T6 a).2.1 ≠ (rb_T6 b).2.1 := by decide +kernel
theorem rb_tyk6 : ∀ k, k < 5 → parseFieldDescriptor (rb_T6 k).2.2.1 = some (rb_ty6 k) := by decide +kernel
theorem rb_ws6 : u_ws "RuleBuilder$Words" rb_T6 5 = [264, 266, 268, 270, 272].filterMap (fun i => lw_tbl[i]?) := by decide +kernel
theorem rb_in6 : ∀ w ∈ u_ws "RuleBuilder$Words" rb_T6 5, w ∈ rb_G := by
  intro w hw
  have hg : goodWord w = true := List.all_eq_true.mp (show (u_ws "RuleBuilder$Words" rb_T6 5).all goodWord = true by decide +kernel) w hw
  rw [rb_ws6] at hw
  obtain ⟨i, -, hi⟩ := List.mem_filterMap.mp hw
  exact rb_inG i hi hg
theorem rb_ini6 : Cond.initialized "RuleBuilder$Words" ∈ rb_G := rb_inG 90 (by decide +kernel) rfl
theorem rb_ins6 : Cond.instantiable "RuleBuilder$Words" 5 ∈ rb_G := rb_inG 253 (by decide +kernel) rfl
def rb_T7 : u_T := fun k => match k with
  | 0 => ("RuleBuilder$Shell", "print", "LRuleBuilder$Text;", true)
  | 1 => ("RuleBuilder$Shell", "store", "LRuleBuilder$Store;", true)
  | _ => ("RuleBuilder$Shell", "words", "LRuleBuilder$Words;", true)
def rb_ty7 : Nat → FieldType := fun k => match k with
  | 0 => .object "RuleBuilder$Text"
  | 1 => .object "RuleBuilder$Store"
  | _ => .object "RuleBuilder$Words"
theorem rb_nm7 : ∀ a, a < 3 → ∀ b, b < 3 → a ≠ b → (rb_T7 a).2.1 ≠ (rb_T7 b).2.1 := by decide +kernel
theorem rb_tyk7 : ∀ k, k < 3 → parseFieldDescriptor (rb_T7 k).2.2.1 = some (rb_ty7 k) := by decide +kernel
theorem rb_ws7 : u_ws "RuleBuilder$Shell" rb_T7 3 = [288, 290, 292].filterMap (fun i => lw_tbl[i]?) := by decide +kernel
theorem rb_in7 : ∀ w ∈ u_ws "RuleBuilder$Shell" rb_T7 3, w ∈ rb_G := by
  intro w hw
  have hg : goodWord w = true := List.all_eq_true.mp (show (u_ws "RuleBuilder$Shell" rb_T7 3).all goodWord = true by decide +kernel) w hw
  rw [rb_ws7] at hw
  obtain ⟨i, -, hi⟩ := List.mem_filterMap.mp hw
  exact rb_inG i hi hg
theorem rb_ini7 : Cond.initialized "RuleBuilder$Shell" ∈ rb_G := rb_inG 91 (by decide +kernel) rfl
theorem rb_ins7 : Cond.instantiable "RuleBuilder$Shell" 3 ∈ rb_G := rb_inG 276 (by decide +kernel) rfl
def rb_T8 : u_T := fun k => match k with
  | 0 => ("RuleBuilder$Reader", "store", "LRuleBuilder$Store;", true)
  | 1 => ("RuleBuilder$Reader", "rules", "LRuleBuilder$Rules;", true)
  | 2 => ("RuleBuilder$Reader", "expander", "LRuleBuilder$Expander;", true)
  | 3 => ("RuleBuilder$Reader", "words", "LRuleBuilder$Words;", true)
  | 4 => ("RuleBuilder$Reader", "line", "LRuleBuilder$Text;", true)
  | 5 => ("RuleBuilder$Reader", "latestKind", "I", false)
  | 6 => ("RuleBuilder$Reader", "latestEnding", "I", false)
  | _ => ("RuleBuilder$Reader", "latestCommands", "I", false)
def rb_ty8 : Nat → FieldType := fun k => match k with
  | 0 => .object "RuleBuilder$Store"
  | 1 => .object "RuleBuilder$Rules"
  | 2 => .object "RuleBuilder$Expander"
  | 3 => .object "RuleBuilder$Words"
  | 4 => .object "RuleBuilder$Text"
  | 5 => .int
  | 6 => .int
  | _ => .int
theorem rb_nm8 : ∀ a, a < 8 → ∀ b, b < 8 → a ≠ b → (rb_T8 a).2.1 ≠ (rb_T8 b).2.1 := by decide +kernel
theorem rb_tyk8 : ∀ k, k < 8 → parseFieldDescriptor (rb_T8 k).2.2.1 = some (rb_ty8 k) := by decide +kernel
theorem rb_ws8 : u_ws "RuleBuilder$Reader" rb_T8 8 = [311, 313, 315, 317, 319, 321, 323, 325].filterMap (fun i => lw_tbl[i]?) := by decide +kernel
theorem rb_in8 : ∀ w ∈ u_ws "RuleBuilder$Reader" rb_T8 8, w ∈ rb_G := by
  intro w hw
  have hg : goodWord w = true := List.all_eq_true.mp (show (u_ws "RuleBuilder$Reader" rb_T8 8).all goodWord = true by decide +kernel) w hw
  rw [rb_ws8] at hw
  obtain ⟨i, -, hi⟩ := List.mem_filterMap.mp hw
  exact rb_inG i hi hg
theorem rb_ini8 : Cond.initialized "RuleBuilder$Reader" ∈ rb_G := rb_inG 92 (by decide +kernel) rfl
theorem rb_ins8 : Cond.instantiable "RuleBuilder$Reader" 8 ∈ rb_G := rb_inG 296 (by decide +kernel) rfl
def rb_T9 : u_T := fun k => match k with
  | 0 => ("RuleBuilder$Builder", "store", "LRuleBuilder$Store;", true)
  | 1 => ("RuleBuilder$Builder", "rules", "LRuleBuilder$Rules;", true)
  | 2 => ("RuleBuilder$Builder", "expander", "LRuleBuilder$Expander;", true)
  | 3 => ("RuleBuilder$Builder", "shell", "LRuleBuilder$Shell;", true)
  | 4 => ("RuleBuilder$Builder", "candidate", "LRuleBuilder$Text;", true)
  | 5 => ("RuleBuilder$Builder", "options", "I", false)
  | 6 => ("RuleBuilder$Builder", "sawOutOfDate", "Z", false)
  | _ => ("RuleBuilder$Builder", "doneCommands", "I", false)
def rb_ty9 : Nat → FieldType := fun k => match k with
  | 0 => .object "RuleBuilder$Store"
  | 1 => .object "RuleBuilder$Rules"
  | 2 => .object "RuleBuilder$Expander"
  | 3 => .object "RuleBuilder$Shell"
  | 4 => .object "RuleBuilder$Text"
  | 5 => .int
  | 6 => .boolean
  | _ => .int
theorem rb_nm9 : ∀ a, a < 8 → ∀ b, b < 8 → a ≠ b → (rb_T9 a).2.1 ≠ (rb_T9 b).2.1 := by decide +kernel
theorem rb_tyk9 : ∀ k, k < 8 → parseFieldDescriptor (rb_T9 k).2.2.1 = some (rb_ty9 k) := by decide +kernel
theorem rb_ws9 : u_ws "RuleBuilder$Builder" rb_T9 8 = [345, 347, 349, 351, 353, 355, 357, 359].filterMap (fun i => lw_tbl[i]?) := by decide +kernel
theorem rb_in9 : ∀ w ∈ u_ws "RuleBuilder$Builder" rb_T9 8, w ∈ rb_G := by
  intro w hw
  have hg : goodWord w = true := List.all_eq_true.mp (show (u_ws "RuleBuilder$Builder" rb_T9 8).all goodWord = true by decide +kernel) w hw
  rw [rb_ws9] at hw
  obtain ⟨i, -, hi⟩ := List.mem_filterMap.mp hw
  exact rb_inG i hi hg
theorem rb_ini9 : Cond.initialized "RuleBuilder$Builder" ∈ rb_G := rb_inG 93 (by decide +kernel) rfl
theorem rb_ins9 : Cond.instantiable "RuleBuilder$Builder" 8 ∈ rb_G := rb_inG 329 (by decide +kernel) rfl
def rb_T10 : u_T := fun k => match k with
  | _ => ("RuleBuilder$Phrase", "text", "Ljava/lang/String;", true)
def rb_ty10 : Nat → FieldType := fun k => match k with
  | _ => .object "java/lang/String"
theorem rb_nm10 : ∀ a, a < 1 → ∀ b, b < 1 → a ≠ b → (rb_T10 a).2.1 ≠ (rb_T10 b).2.1 := by decide +kernel
theorem rb_tyk10 : ∀ k, k < 1 → parseFieldDescriptor (rb_T10 k).2.2.1 = some (rb_ty10 k) := by decide +kernel
theorem rb_ws10 : u_ws "RuleBuilder$Phrase" rb_T10 1 = [520].filterMap (fun i => lw_tbl[i]?) := by decide +kernel
theorem rb_in10 : ∀ w ∈ u_ws "RuleBuilder$Phrase" rb_T10 1, w ∈ rb_G := by
  intro w hw
  have hg : goodWord w = true := List.all_eq_true.mp (show (u_ws "RuleBuilder$Phrase" rb_T10 1).all goodWord = true by decide +kernel) w hw
  rw [rb_ws10] at hw
  obtain ⟨i, -, hi⟩ := List.mem_filterMap.mp hw
  exact rb_inG i hi hg
theorem rb_ini10 : Cond.initialized "RuleBuilder$Phrase" ∈ rb_G := rb_inG 99 (by decide +kernel) rfl
theorem rb_ins10 : Cond.instantiable "RuleBuilder$Phrase" 1 ∈ rb_G := rb_inG 511 (by decide +kernel) rfl
def rb_T11 : u_T := fun k => match k with
  | 0 => ("RuleBuilder$Command", "text", "Ljava/lang/String;", true)
  | 1 => ("RuleBuilder$Command", "first", "I", true)
  | 2 => ("RuleBuilder$Command", "forgiven", "Z", true)
  | 3 => ("RuleBuilder$Command", "quiet", "Z", true)
  | _ => ("RuleBuilder$Command", "always", "Z", true)
def rb_ty11 : Nat → FieldType := fun k => match k with
  | 0 => .object "java/lang/String"
  | 1 => .int
  | 2 => .boolean
  | 3 => .boolean
  | _ => .boolean
theorem rb_nm11 : ∀ a, a < 5 → ∀ b, b < 5 → a ≠ b → (rb_T11 a).2.1 ≠ (rb_T11 b).2.1 := by decide +kernel
theorem rb_tyk11 : ∀ k, k < 5 → parseFieldDescriptor (rb_T11 k).2.2.1 = some (rb_ty11 k) := by decide +kernel
theorem rb_ws11 : u_ws "RuleBuilder$Command" rb_T11 5 = [689, 691, 693, 695, 697].filterMap (fun i => lw_tbl[i]?) := by decide +kernel
theorem rb_in11 : ∀ w ∈ u_ws "RuleBuilder$Command" rb_T11 5, w ∈ rb_G := by
  intro w hw
  have hg : goodWord w = true := List.all_eq_true.mp (show (u_ws "RuleBuilder$Command" rb_T11 5).all goodWord = true by decide +kernel) w hw
  rw [rb_ws11] at hw
  obtain ⟨i, -, hi⟩ := List.mem_filterMap.mp hw
  exact rb_inG i hi hg
theorem rb_ini11 : Cond.initialized "RuleBuilder$Command" ∈ rb_G := rb_inG 100 (by decide +kernel) rfl
theorem rb_ins11 : Cond.instantiable "RuleBuilder$Command" 5 ∈ rb_G := rb_inG 584 (by decide +kernel) rfl
def rb_T12 : u_T := fun k => match k with
  | 0 => ("RuleBuilder$Name", "number", "I", true)
  | 1 => ("RuleBuilder$Name", "spelling", "Ljava/lang/String;", true)
  | 2 => ("RuleBuilder$Name", "time", "I", false)
  | 3 => ("RuleBuilder$Name", "content", "I", false)
  | 4 => ("RuleBuilder$Name", "hasRule", "Z", false)
  | 5 => ("RuleBuilder$Name", "phony", "Z", false)
  | 6 => ("RuleBuilder$Name", "ignored", "Z", false)
  | 7 => ("RuleBuilder$Name", "silent", "Z", false)
  | 8 => ("RuleBuilder$Name", "isLatestTarget", "Z", false)
  | 9 => ("RuleBuilder$Name", "ownCommands", "I", false)
  | 10 => ("RuleBuilder$Name", "fate", "I", false)
  | 11 => ("RuleBuilder$Name", "underWay", "Z", false)
  | 12 => ("RuleBuilder$Name", "commands", "I", false)
  | 13 => ("RuleBuilder$Name", "byDefault", "Z", false)
  | 14 => ("RuleBuilder$Name", "source", "LRuleBuilder$Name;", false)
  | _ => ("RuleBuilder$Name", "stem", "I", false)
def rb_ty12 : Nat → FieldType := fun k => match k with
  | 0 => .int
  | 1 => .object "java/lang/String"
  | 2 => .int
  | 3 => .int
  | 4 => .boolean
  | 5 => .boolean
  | 6 => .boolean
  | 7 => .boolean
  | 8 => .boolean
  | 9 => .int
  | 10 => .int
  | 11 => .boolean
  | 12 => .int
  | 13 => .boolean
  | 14 => .object "RuleBuilder$Name"
  | _ => .int
theorem rb_nm12 : ∀ a, a < 16 → ∀ b, b < 16 → a ≠ b → (rb_T12 a).2.1 ≠ (rb_T12 b).2.1 := by decide +kernel
theorem rb_tyk12 : ∀ k, k < 16 → parseFieldDescriptor (rb_T12 k).2.2.1 = some (rb_ty12 k) := by decide +kernel
theorem rb_ws12 : u_ws "RuleBuilder$Name" rb_T12 16 = [924, 926, 928, 930, 932, 934, 936, 938, 940, 942, 944, 946, 948, 950, 952, 954].filterMap (fun i => lw_tbl[i]?) := by decide +kernel
theorem rb_in12 : ∀ w ∈ u_ws "RuleBuilder$Name" rb_T12 16, w ∈ rb_G := by
  intro w hw
  have hg : goodWord w = true := List.all_eq_true.mp (show (u_ws "RuleBuilder$Name" rb_T12 16).all goodWord = true by decide +kernel) w hw
  rw [rb_ws12] at hw
  obtain ⟨i, -, hi⟩ := List.mem_filterMap.mp hw
  exact rb_inG i hi hg
theorem rb_ini12 : Cond.initialized "RuleBuilder$Name" ∈ rb_G := rb_inG 104 (by decide +kernel) rfl
theorem rb_ins12 : Cond.instantiable "RuleBuilder$Name" 16 ∈ rb_G := rb_inG 872 (by decide +kernel) rfl
def rb_T13 : u_T := fun k => match k with
  | 0 => ("RuleBuilderModel", "draft", "[I", true)
  | 1 => ("RuleBuilderModel", "drafted", "I", false)
  | 2 => ("RuleBuilderModel", "met", "I", false)
  | 3 => ("RuleBuilderModel", "name", "[J", true)
  | 4 => ("RuleBuilderModel", "isFile", "[Z", true)
  | 5 => ("RuleBuilderModel", "times", "[I", true)
  | 6 => ("RuleBuilderModel", "contents", "[I", true)
  | 7 => ("RuleBuilderModel", "clock", "I", false)
  | 8 => ("RuleBuilderModel", "given", "[Z", true)
  | 9 => ("RuleBuilderModel", "setText", "[I", true)
  | 10 => ("RuleBuilderModel", "setLength", "[I", true)
  | 11 => ("RuleBuilderModel", "defined", "[Z", true)
  | 12 => ("RuleBuilderModel", "defFrom", "[I", true)
  | 13 => ("RuleBuilderModel", "defTo", "[I", true)
  | 14 => ("RuleBuilderModel", "text", "[I", true)
  | 15 => ("RuleBuilderModel", "newlines", "[I", true)
  | 16 => ("RuleBuilderModel", "size", "I", false)
  | 17 => ("RuleBuilderModel", "suffix", "[J", true)
  | 18 => ("RuleBuilderModel", "suffixes", "I", false)
  | 19 => ("RuleBuilderModel", "phony", "[Z", true)
  | 20 => ("RuleBuilderModel", "ignored", "[Z", true)
  | 21 => ("RuleBuilderModel", "silent", "[Z", true)
  | 22 => ("RuleBuilderModel", "allIgnored", "Z", false)
  | 23 => ("RuleBuilderModel", "allSilent", "Z", false)
  | 24 => ("RuleBuilderModel", "hasRule", "[Z", true)
  | 25 => ("RuleBuilderModel", "ownLine", "[I", true)
  | 26 => ("RuleBuilderModel", "firstTarget", "I", false)
  | 27 => ("RuleBuilderModel", "preOf", "[I", true)
  | 28 => ("RuleBuilderModel", "preName", "[I", true)
  | 29 => ("RuleBuilderModel", "pres", "I", false)
  | 30 => ("RuleBuilderModel", "cmdFrom", "[I", true)
  | 31 => ("RuleBuilderModel", "cmdTo", "[I", true)
  | 32 => ("RuleBuilderModel", "cmdLine", "[I", true)
  | 33 => ("RuleBuilderModel", "cmds", "I", false)
  | 34 => ("RuleBuilderModel", "endFrom", "[J", true)
  | 35 => ("RuleBuilderModel", "endTo", "[J", true)
  | 36 => ("RuleBuilderModel", "endLine", "[I", true)
  | 37 => ("RuleBuilderModel", "endings", "I", false)
  | 38 => ("RuleBuilderModel", "defaultLine", "I", false)
  | 39 => ("RuleBuilderModel", "line", "I", false)
  | 40 => ("RuleBuilderModel", "kind", "I", false)
  | 41 => ("RuleBuilderModel", "targets", "I", false)
  | 42 => ("RuleBuilderModel", "ending", "I", false)
  | 43 => ("RuleBuilderModel", "out", "[I", true)
  | 44 => ("RuleBuilderModel", "outs", "I", false)
  | 45 => ("RuleBuilderModel", "wordFrom", "[I", true)
  | 46 => ("RuleBuilderModel", "wordTo", "[I", true)
  | 47 => ("RuleBuilderModel", "words", "I", false)
  | 48 => ("RuleBuilderModel", "level", "I", false)
  | 49 => ("RuleBuilderModel", "source", "[I", true)
  | 50 => ("RuleBuilderModel", "at", "[I", true)
  | 51 => ("RuleBuilderModel", "end", "[I", true)
  | 52 => ("RuleBuilderModel", "outFrom", "[I", true)
  | 53 => ("RuleBuilderModel", "cutFrom", "[I", true)
  | 54 => ("RuleBuilderModel", "cutTo", "[I", true)
  | 55 => ("RuleBuilderModel", "newTo", "[I", true)
  | 56 => ("RuleBuilderModel", "options", "I", false)
  | 57 => ("RuleBuilderModel", "fates", "[I", true)
  | 58 => ("RuleBuilderModel", "under", "[Z", true)
  | 59 => ("RuleBuilderModel", "failed", "[Z", true)
  | 60 => ("RuleBuilderModel", "step", "[I", true)
  | 61 => ("RuleBuilderModel", "sourceOf", "[I", true)
  | 62 => ("RuleBuilderModel", "stemOf", "[J", true)
  | 63 => ("RuleBuilderModel", "lineOf", "[I", true)
  | 64 => ("RuleBuilderModel", "byDefault", "[Z", true)
  | 65 => ("RuleBuilderModel", "waiting", "[I", true)
  | 66 => ("RuleBuilderModel", "depth", "I", false)
  | 67 => ("RuleBuilderModel", "newer", "[Z", true)
  | 68 => ("RuleBuilderModel", "current", "I", false)
  | 69 => ("RuleBuilderModel", "someOut", "Z", false)
  | 70 => ("RuleBuilderModel", "does", "I", false)
  | 71 => ("RuleBuilderModel", "print", "[I", true)
  | _ => ("RuleBuilderModel", "prints", "I", false)
def rb_ty13 : Nat → FieldType := fun k => match k with
  | 0 => .array .int
  | 1 => .int
  | 2 => .int
  | 3 => .array .long
  | 4 => .array .boolean
  | 5 => .array .int
  | 6 => .array .int
  | 7 => .int
  | 8 => .array .boolean
  | 9 => .array .int
  | 10 => .array .int
  | 11 => .array .boolean
  | 12 => .array .int
  | 13 => .array .int
  | 14 => .array .int
  | 15 => .array .int
  | 16 => .int
  | 17 => .array .long
  | 18 => .int
  | 19 => .array .boolean
  | 20 => .array .boolean
  | 21 => .array .boolean
  | 22 => .boolean
  | 23 => .boolean
  | 24 => .array .boolean
  | 25 => .array .int
  | 26 => .int
  | 27 => .array .int
  | 28 => .array .int
  | 29 => .int
  | 30 => .array .int
  | 31 => .array .int
  | 32 => .array .int
  | 33 => .int
  | 34 => .array .long
  | 35 => .array .long
  | 36 => .array .int
  | 37 => .int
  | 38 => .int
  | 39 => .int
  | 40 => .int
  | 41 => .int
  | 42 => .int
  | 43 => .array .int
  | 44 => .int
  | 45 => .array .int
  | 46 => .array .int
  | 47 => .int
  | 48 => .int
  | 49 => .array .int
  | 50 => .array .int
  | 51 => .array .int
  | 52 => .array .int
  | 53 => .array .int
  | 54 => .array .int
  | 55 => .array .int
  | 56 => .int
  | 57 => .array .int
  | 58 => .array .boolean
  | 59 => .array .boolean
  | 60 => .array .int
  | 61 => .array .int
  | 62 => .array .long
  | 63 => .array .int
  | 64 => .array .boolean
  | 65 => .array .int
  | 66 => .int
  | 67 => .array .boolean
  | 68 => .int
  | 69 => .boolean
  | 70 => .int
  | 71 => .array .int
  | _ => .int
theorem rb_nm13 : ∀ a, a < 73 → ∀ b, b < 73 → a ≠ b → (rb_T13 a).2.1 ≠ (rb_T13 b).2.1 := by decide +kernel
theorem rb_tyk13 : ∀ k, k < 73 → parseFieldDescriptor (rb_T13 k).2.2.1 = some (rb_ty13 k) := by decide +kernel
theorem rb_ws13 : u_ws "RuleBuilderModel" rb_T13 73 = [1293, 1295, 1297, 1299, 1301, 1303, 1305, 1307, 1309, 1311, 1313, 1315, 1317, 1319, 1321, 1323, 1325, 1327, 1329, 1331, 1333, 1335, 1337, 1339, 1341, 1343, 1345, 1347, 1349, 1351, 1353, 1355, 1357, 1359, 1361, 1363, 1365, 1367, 1369, 1371, 1373, 1375, 1377, 1379, 1381, 1383, 1385, 1387, 1389, 1391, 1393, 1395, 1397, 1399, 1401, 1403, 1405, 1407, 1409, 1411, 1413, 1415, 1417, 1419, 1421, 1423, 1425, 1427, 1429, 1431, 1433, 1435, 1437].filterMap (fun i => lw_tbl[i]?) := by decide +kernel
theorem rb_in13 : ∀ w ∈ u_ws "RuleBuilderModel" rb_T13 73, w ∈ rb_G := by
  intro w hw
  have hg : goodWord w = true := List.all_eq_true.mp (show (u_ws "RuleBuilderModel" rb_T13 73).all goodWord = true by decide +kernel) w hw
  rw [rb_ws13] at hw
  obtain ⟨i, -, hi⟩ := List.mem_filterMap.mp hw
  exact rb_inG i hi hg
theorem rb_ini13 : Cond.initialized "RuleBuilderModel" ∈ rb_G := rb_inG 94 (by decide +kernel) rfl
theorem rb_ins13 : Cond.instantiable "RuleBuilderModel" 73 ∈ rb_G := rb_inG 1211 (by decide +kernel) rfl
def rb_T14 : u_T := fun k => match k with
  | 0 => ("java/lang/String", "value", "[B", true)
  | 1 => ("java/lang/String", "coder", "B", true)
  | 2 => ("java/lang/String", "hash", "I", false)
  | _ => ("java/lang/String", "hashIsZero", "Z", false)
def rb_ty14 : Nat → FieldType := fun k => match k with
  | 0 => .array .byte
  | 1 => .byte
  | 2 => .int
  | _ => .boolean
theorem rb_nm14 : ∀ a, a < 4 → ∀ b, b < 4 → a ≠ b → (rb_T14 a).2.1 ≠ (rb_T14 b).2.1 := by decide +kernel
theorem rb_tyk14 : ∀ k, k < 4 → parseFieldDescriptor (rb_T14 k).2.2.1 = some (rb_ty14 k) := by decide +kernel
theorem rb_ws14 : u_ws "java/lang/String" rb_T14 4 = [497, 499, 501, 503].filterMap (fun i => lw_tbl[i]?) := by decide +kernel
theorem rb_in14 : ∀ w ∈ u_ws "java/lang/String" rb_T14 4, w ∈ rb_G := by
  intro w hw
  have hg : goodWord w = true := List.all_eq_true.mp (show (u_ws "java/lang/String" rb_T14 4).all goodWord = true by decide +kernel) w hw
  rw [rb_ws14] at hw
  obtain ⟨i, -, hi⟩ := List.mem_filterMap.mp hw
  exact rb_inG i hi hg
theorem rb_ini14 : Cond.initialized "java/lang/String" ∈ rb_G := rb_inG 96 (by decide +kernel) rfl
theorem rb_ins14 : Cond.instantiable "java/lang/String" 4 ∈ rb_G := rb_inG 435 (by decide +kernel) rfl
def rb_ct : List vw_C := [("RuleBuilder", rb_T1, 8), ("RuleBuilder$Text", rb_T2, 2), ("RuleBuilder$Store", rb_T3, 3), ("RuleBuilder$Rules", rb_T4, 15), ("RuleBuilder$Expander", rb_T5, 7), ("RuleBuilder$Words", rb_T6, 5), ("RuleBuilder$Shell", rb_T7, 3), ("RuleBuilder$Reader", rb_T8, 8), ("RuleBuilder$Builder", rb_T9, 8), ("RuleBuilder$Phrase", rb_T10, 1), ("RuleBuilder$Command", rb_T11, 5), ("RuleBuilder$Name", rb_T12, 16), ("RuleBuilderModel", rb_T13, 73), ("java/lang/String", rb_T14, 4)]
def rb_fty (t : Nat) : Nat → FieldType := match t with
  | 1 => rb_ty1
  | 2 => rb_ty2
  | 3 => rb_ty3
  | 4 => rb_ty4
  | 5 => rb_ty5
  | 6 => rb_ty6
  | 7 => rb_ty7
  | 8 => rb_ty8
  | 9 => rb_ty9
  | 10 => rb_ty10
  | 11 => rb_ty11
  | 12 => rb_ty12
  | 13 => rb_ty13
  | _ => rb_ty14
def rb_nS (t : Nat) : Nat := match t with
  | 1 => 8
  | 2 => 2
  | 3 => 3
  | 4 => 15
  | 5 => 7
  | 6 => 5
  | 7 => 3
  | 8 => 8
  | 9 => 8
  | 10 => 1
  | 11 => 5
  | 12 => 16
  | 13 => 73
  | _ => 4
def rb_df (t : Nat) : List Value := match t with
  | 1 => [.null, .null, .null, .null, .null, .null, .null, .null]
  | 2 => [.null, .int 0]
  | 3 => [.null, .int 0, .int 0]
  | 4 => [.null, .int 0, .null, .null, .null, .int 0, .null, .int 0, .null, .null, .int 0, .int 0, .null, .int 0, .int 0]
  | 5 => [.null, .null, .null, .null, .null, .int 0, .null]
  | 6 => [.null, .null, .null, .null, .int 0]
  | 7 => [.null, .null, .null]
  | 8 => [.null, .null, .null, .null, .null, .int 0, .int 0, .int 0]
  | 9 => [.null, .null, .null, .null, .null, .int 0, .int 0, .int 0]
  | 10 => [.null]
  | 11 => [.null, .int 0, .int 0, .int 0, .int 0]
  | 12 => [.int 0, .null, .int 0, .int 0, .int 0, .int 0, .int 0, .int 0, .int 0, .int 0, .int 0, .int 0, .int 0, .int 0, .null, .int 0]
  | 13 => [.null, .int 0, .int 0, .null, .null, .null, .null, .int 0, .null, .null, .null, .null, .null, .null, .null, .null, .int 0, .null, .int 0, .null, .null, .null, .int 0, .int 0, .null, .null, .int 0, .null, .null, .int 0, .null, .null, .null, .int 0, .null, .null, .null, .int 0, .int 0, .int 0, .int 0, .int 0, .int 0, .null, .int 0, .null, .null, .int 0, .int 0, .null, .null, .null, .null, .null, .null, .null, .int 0, .null, .null, .null, .null, .null, .null, .null, .null, .null, .int 0, .null, .int 0, .int 0, .int 0, .null, .int 0]
  | _ => [.null, .int 0, .int 0, .int 0]
def rb_aty (t : Nat) : FieldType := match t with
  | 101 => .char
  | 102 => .int
  | 103 => .long
  | 104 => .boolean
  | 105 => .byte
  | 111 => .object "RuleBuilder$Phrase"
  | 112 => .object "RuleBuilder$Name"
  | _ => .object "RuleBuilder$Command"
def rb_ats : List Nat := [101, 102, 103, 104, 105, 111, 112, 113]
def rb_tx : List String := ["", ".SUFFIXES", ".PHONY", ".IGNORE", ".SILENT", ".DEFAULT", "touch ", "true", "echo", "touch", "rm", "cp", "cat", ">"]
def rb_sr : List (String × Nat × Nat) := [("RuleBuilder$Text", 43, 0), ("java/lang/String", 7, 0), ("java/lang/StringLatin1", 151, 0), ("java/lang/StringUTF16", 295, 0), ("RuleBuilder$Expander", 115, 0), ("RuleBuilder$Words", 56, 0), ("RuleBuilder$Reader", 157, 0), ("RuleBuilder$Reader", 163, 1), ("RuleBuilder$Reader", 187, 2), ("RuleBuilder$Reader", 189, 3), ("RuleBuilder$Reader", 191, 4), ("RuleBuilder$Reader", 193, 5), ("RuleBuilder$Builder", 173, 0), ("RuleBuilder$Shell", 26, 6), ("RuleBuilder$Shell", 59, 7), ("RuleBuilder$Shell", 65, 8), ("RuleBuilder$Shell", 70, 9), ("RuleBuilder$Shell", 78, 10), ("RuleBuilder$Shell", 83, 11), ("RuleBuilder$Shell", 88, 12), ("RuleBuilder$Shell", 90, 13)]
