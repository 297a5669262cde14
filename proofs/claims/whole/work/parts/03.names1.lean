/-! names: kinds, fields, code, decode rows (by program) -/
/-! selects of the private ones -/
theorem s_0 : Cond.selects "StudyAudit" ⟨"StudyAudit", "checkGroup", "(I)V"⟩ ⟨"StudyAudit", "checkGroup", "(I)V"⟩ ∈ lw_tbl := List.mem_append_left _ (List.mem_of_getElem? (i := 0) (by decide +kernel))
theorem s_1 : Cond.selects "java/lang/Throwable" ⟨"java/lang/Throwable", "fillInStackTrace", "(I)Ljava/lang/Throwable;"⟩ ⟨"java/lang/Throwable", "fillInStackTrace", "(I)Ljava/lang/Throwable;"⟩ ∈ lw_tbl := List.mem_append_left _ (List.mem_of_getElem? (i := 1) (by decide +kernel))
theorem s_2 : Cond.selects "StudyAudit" ⟨"StudyAudit", "checkCourse", "(I)V"⟩ ⟨"StudyAudit", "checkCourse", "(I)V"⟩ ∈ lw_tbl := List.mem_append_left _ (List.mem_of_getElem? (i := 2) (by decide +kernel))
theorem s_3 : Cond.selects "StudyAudit" ⟨"StudyAudit", "checkProgramme", "(I)V"⟩ ⟨"StudyAudit", "checkProgramme", "(I)V"⟩ ∈ lw_tbl := List.mem_append_left _ (List.mem_of_getElem? (i := 3) (by decide +kernel))
theorem s_4 : Cond.selects "StudyAudit" ⟨"StudyAudit", "checkRequirement", "(II)V"⟩ ⟨"StudyAudit", "checkRequirement", "(II)V"⟩ ∈ lw_tbl := List.mem_append_left _ (List.mem_of_getElem? (i := 4) (by decide +kernel))
theorem s_5 : Cond.selects "StudyAudit" ⟨"StudyAudit", "checkStudent", "(I)V"⟩ ⟨"StudyAudit", "checkStudent", "(I)V"⟩ ∈ lw_tbl := List.mem_append_left _ (List.mem_of_getElem? (i := 5) (by decide +kernel))
theorem s_6 : Cond.selects "StudyAudit" ⟨"StudyAudit", "checkQuestion", "(II)V"⟩ ⟨"StudyAudit", "checkQuestion", "(II)V"⟩ ∈ lw_tbl := List.mem_append_left _ (List.mem_of_getElem? (i := 6) (by decide +kernel))
theorem s_7 : Cond.selects "StudyAudit" ⟨"StudyAudit", "readClaims", "(I)V"⟩ ⟨"StudyAudit", "readClaims", "(I)V"⟩ ∈ lw_tbl := List.mem_append_left _ (List.mem_of_getElem? (i := 7) (by decide +kernel))
theorem s_8 : Cond.selects "StudyAudit$Plan" ⟨"StudyAudit$Plan", "layTree", "(LStudyAudit$Catalogue;)V"⟩ ⟨"StudyAudit$Plan", "layTree", "(LStudyAudit$Catalogue;)V"⟩ ∈ lw_tbl := List.mem_append_left _ (List.mem_of_getElem? (i := 8) (by decide +kernel))
theorem s_9 : Cond.selects "StudyAudit$Network" ⟨"StudyAudit$Network", "addArc", "(IIIJ)V"⟩ ⟨"StudyAudit$Network", "addArc", "(IIIJ)V"⟩ ∈ lw_tbl := List.mem_append_left _ (List.mem_of_getElem? (i := 9) (by decide +kernel))
theorem s_10 : Cond.selects "StudyAudit$Plan" ⟨"StudyAudit$Plan", "layRequirements", "(LStudyAudit$Claims;)V"⟩ ⟨"StudyAudit$Plan", "layRequirements", "(LStudyAudit$Claims;)V"⟩ ∈ lw_tbl := List.mem_append_left _ (List.mem_of_getElem? (i := 10) (by decide +kernel))
theorem s_11 : Cond.selects "StudyAudit$Plan" ⟨"StudyAudit$Plan", "layCourse", "(LStudyAudit$Catalogue;LStudyAudit$Claims;IJJ)V"⟩ ⟨"StudyAudit$Plan", "layCourse", "(LStudyAudit$Catalogue;LStudyAudit$Claims;IJJ)V"⟩ ∈ lw_tbl := List.mem_append_left _ (List.mem_of_getElem? (i := 11) (by decide +kernel))
theorem s_12 : Cond.selects "StudyAudit$Network" ⟨"StudyAudit$Network", "findCheapestWay", "(II)Z"⟩ ⟨"StudyAudit$Network", "findCheapestWay", "(II)Z"⟩ ∈ lw_tbl := List.mem_append_left _ (List.mem_of_getElem? (i := 12) (by decide +kernel))
theorem s_13 : Cond.selects "StudyAudit$Network" ⟨"StudyAudit$Network", "shortenOnce", "()Z"⟩ ⟨"StudyAudit$Network", "shortenOnce", "()Z"⟩ ∈ lw_tbl := List.mem_append_left _ (List.mem_of_getElem? (i := 13) (by decide +kernel))
theorem s_14 : Cond.selects "StudyAudit$Network" ⟨"StudyAudit$Network", "isShortcut", "(I)Z"⟩ ⟨"StudyAudit$Network", "isShortcut", "(I)Z"⟩ ∈ lw_tbl := List.mem_append_left _ (List.mem_of_getElem? (i := 14) (by decide +kernel))
theorem s_15 : Cond.selects "StudyAudit$Network" ⟨"StudyAudit$Network", "takeWay", "(II)V"⟩ ⟨"StudyAudit$Network", "takeWay", "(II)V"⟩ ∈ lw_tbl := List.mem_append_left _ (List.mem_of_getElem? (i := 15) (by decide +kernel))
theorem s_16 : Cond.selects "StudyAudit$Catalogue" ⟨"StudyAudit$Catalogue", "takenIn", "(II)I"⟩ ⟨"StudyAudit$Catalogue", "takenIn", "(II)I"⟩ ∈ lw_tbl := List.mem_append_left _ (List.mem_of_getElem? (i := 16) (by decide +kernel))
theorem s_17 : Cond.selects "StudyAudit$Receipt" ⟨"StudyAudit$Receipt", "isMoreUnmet", "(II)Z"⟩ ⟨"StudyAudit$Receipt", "isMoreUnmet", "(II)Z"⟩ ∈ lw_tbl := List.mem_append_left _ (List.mem_of_getElem? (i := 17) (by decide +kernel))
theorem s_18 : Cond.selects "StudyAudit" ⟨"StudyAudit", "checkReceipt", "()V"⟩ ⟨"StudyAudit", "checkReceipt", "()V"⟩ ∈ lw_tbl := List.mem_append_left _ (List.mem_of_getElem? (i := 18) (by decide +kernel))
theorem s_19 : Cond.selects "StudyAuditModel" ⟨"StudyAuditModel", "noGroup", "(I)Z"⟩ ⟨"StudyAuditModel", "noGroup", "(I)Z"⟩ ∈ lw_tbl := List.mem_append_left _ (List.mem_of_getElem? (i := 19) (by decide +kernel))
theorem s_20 : Cond.selects "StudyAuditModel" ⟨"StudyAuditModel", "noCourse", "(I)Z"⟩ ⟨"StudyAuditModel", "noCourse", "(I)Z"⟩ ∈ lw_tbl := List.mem_append_left _ (List.mem_of_getElem? (i := 20) (by decide +kernel))
theorem s_21 : Cond.selects "StudyAuditModel" ⟨"StudyAuditModel", "noRequirement", "(II)Z"⟩ ⟨"StudyAuditModel", "noRequirement", "(II)Z"⟩ ∈ lw_tbl := List.mem_append_left _ (List.mem_of_getElem? (i := 21) (by decide +kernel))
theorem s_22 : Cond.selects "StudyAuditModel" ⟨"StudyAuditModel", "need", "(II)I"⟩ ⟨"StudyAuditModel", "need", "(II)I"⟩ ∈ lw_tbl := List.mem_append_left _ (List.mem_of_getElem? (i := 22) (by decide +kernel))
theorem s_23 : Cond.selects "StudyAuditModel" ⟨"StudyAuditModel", "isLive", "(III)Z"⟩ ⟨"StudyAuditModel", "isLive", "(III)Z"⟩ ∈ lw_tbl := List.mem_append_left _ (List.mem_of_getElem? (i := 23) (by decide +kernel))
theorem s_24 : Cond.selects "StudyAuditModel" ⟨"StudyAuditModel", "lacks", "(II)I"⟩ ⟨"StudyAuditModel", "lacks", "(II)I"⟩ ∈ lw_tbl := List.mem_append_left _ (List.mem_of_getElem? (i := 24) (by decide +kernel))
theorem s_25 : Cond.selects "StudyAuditModel" ⟨"StudyAuditModel", "prepare", "(I)V"⟩ ⟨"StudyAuditModel", "prepare", "(I)V"⟩ ∈ lw_tbl := List.mem_append_left _ (List.mem_of_getElem? (i := 25) (by decide +kernel))
theorem s_26 : Cond.selects "StudyAuditModel" ⟨"StudyAuditModel", "liveOnes", "(II)I"⟩ ⟨"StudyAuditModel", "liveOnes", "(II)I"⟩ ∈ lw_tbl := List.mem_append_left _ (List.mem_of_getElem? (i := 26) (by decide +kernel))
theorem s_27 : Cond.selects "StudyAuditModel" ⟨"StudyAuditModel", "needOf", "(I)I"⟩ ⟨"StudyAuditModel", "needOf", "(I)I"⟩ ∈ lw_tbl := List.mem_append_left _ (List.mem_of_getElem? (i := 27) (by decide +kernel))
theorem s_28 : Cond.selects "StudyAuditModel" ⟨"StudyAuditModel", "most", "(I)I"⟩ ⟨"StudyAuditModel", "most", "(I)I"⟩ ∈ lw_tbl := List.mem_append_left _ (List.mem_of_getElem? (i := 28) (by decide +kernel))
theorem s_29 : Cond.selects "StudyAuditModel" ⟨"StudyAuditModel", "supplyOf", "(II)I"⟩ ⟨"StudyAuditModel", "supplyOf", "(II)I"⟩ ∈ lw_tbl := List.mem_append_left _ (List.mem_of_getElem? (i := 29) (by decide +kernel))
theorem s_30 : Cond.selects "StudyAuditModel" ⟨"StudyAuditModel", "choice", "(III)I"⟩ ⟨"StudyAuditModel", "choice", "(III)I"⟩ ∈ lw_tbl := List.mem_append_left _ (List.mem_of_getElem? (i := 30) (by decide +kernel))
theorem s_31 : Cond.selects "StudyAuditModel" ⟨"StudyAuditModel", "fits", "(I)Z"⟩ ⟨"StudyAuditModel", "fits", "(I)Z"⟩ ∈ lw_tbl := List.mem_append_left _ (List.mem_of_getElem? (i := 31) (by decide +kernel))
theorem s_32 : Cond.selects "StudyAuditModel" ⟨"StudyAuditModel", "fix", "(III)V"⟩ ⟨"StudyAuditModel", "fix", "(III)V"⟩ ∈ lw_tbl := List.mem_append_left _ (List.mem_of_getElem? (i := 32) (by decide +kernel))
def R_SA : String := "StudyAudit"
def F_SA : u_T := fun k => match k with
  | 0 => ("StudyAudit", "catalogue", "LStudyAudit$Catalogue;", true)
  | 1 => ("StudyAudit", "programmes", "[LStudyAudit$Programme;", true)
  | 2 => ("StudyAudit", "students", "[LStudyAudit$Student;", true)
  | 3 => ("StudyAudit", "claims", "LStudyAudit$Claims;", true)
  | 4 => ("StudyAudit", "plan", "LStudyAudit$Plan;", true)
  | _ => ("StudyAudit", "latest", "LStudyAudit$Receipt;", true)
def g_SA : Nat → FieldType := fun k => match k with
  | 0 => .object "StudyAudit$Catalogue"
  | 1 => .array (.object "StudyAudit$Programme")
  | 2 => .array (.object "StudyAudit$Student")
  | 3 => .object "StudyAudit$Claims"
  | 4 => .object "StudyAudit$Plan"
  | _ => .object "StudyAudit$Receipt"
theorem n_SA : ∀ a, a < 6 → ∀ b, b < 6 → a ≠ b → (F_SA a).2.1 ≠ (F_SA b).2.1 := by decide +kernel
theorem g_SA_ok : ∀ k, k < 6 → parseFieldDescriptor (F_SA k).2.2.1 = some (g_SA k) := by decide +kernel
theorem in_SA : ∀ w ∈ u_ws R_SA F_SA 6, w ∈ lw_tbl ∧ goodWord w = true := by
  intro w hw
  obtain ⟨k, hk, rfl⟩ := List.mem_map.mp hw
  have hk := List.mem_range.mp hk
  match k, hk with
  | 0, _ => exact ⟨t_235, rfl⟩
  | 1, _ => exact ⟨t_237, rfl⟩
  | 2, _ => exact ⟨t_239, rfl⟩
  | 3, _ => exact ⟨t_241, rfl⟩
  | 4, _ => exact ⟨t_243, rfl⟩
  | 5, _ => exact ⟨t_245, rfl⟩
  | k + 6, h => omega
def R_CA : String := "StudyAudit$Catalogue"
def F_CA : u_T := fun k => match k with
  | 0 => ("StudyAudit$Catalogue", "groups", "I", false)
  | 1 => ("StudyAudit$Catalogue", "parent", "[I", true)
  | 2 => ("StudyAudit$Catalogue", "limit", "[I", true)
  | 3 => ("StudyAudit$Catalogue", "coursesIn", "[I", true)
  | 4 => ("StudyAudit$Catalogue", "courses", "I", false)
  | 5 => ("StudyAudit$Catalogue", "groupOf", "[I", true)
  | 6 => ("StudyAudit$Catalogue", "life", "[I", true)
  | 7 => ("StudyAudit$Catalogue", "openCourses", "I", false)
  | _ => ("StudyAudit$Catalogue", "takenBelow", "[I", true)
def g_CA : Nat → FieldType := fun k => match k with
  | 0 => .int
  | 1 => .array .int
  | 2 => .array .int
  | 3 => .array .int
  | 4 => .int
  | 5 => .array .int
  | 6 => .array .int
  | 7 => .int
  | _ => .array .int
theorem n_CA : ∀ a, a < 9 → ∀ b, b < 9 → a ≠ b → (F_CA a).2.1 ≠ (F_CA b).2.1 := by decide +kernel
theorem g_CA_ok : ∀ k, k < 9 → parseFieldDescriptor (F_CA k).2.2.1 = some (g_CA k) := by decide +kernel
theorem in_CA : ∀ w ∈ u_ws R_CA F_CA 9, w ∈ lw_tbl ∧ goodWord w = true := by
  intro w hw
  obtain ⟨k, hk, rfl⟩ := List.mem_map.mp hw
  have hk := List.mem_range.mp hk
  match k, hk with
  | 0, _ => exact ⟨t_52, rfl⟩
  | 1, _ => exact ⟨t_54, rfl⟩
  | 2, _ => exact ⟨t_56, rfl⟩
  | 3, _ => exact ⟨t_58, rfl⟩
  | 4, _ => exact ⟨t_60, rfl⟩
  | 5, _ => exact ⟨t_62, rfl⟩
  | 6, _ => exact ⟨t_64, rfl⟩
  | 7, _ => exact ⟨t_66, rfl⟩
  | 8, _ => exact ⟨t_68, rfl⟩
  | k + 9, h => omega
def R_CM : String := "StudyAudit$Claims"
def F_CM : u_T := fun k => match k with
  | 0 => ("StudyAudit$Claims", "requirements", "I", false)
  | 1 => ("StudyAudit$Claims", "need", "[I", true)
  | _ => ("StudyAudit$Claims", "counting", "[I", true)
def g_CM : Nat → FieldType := fun k => match k with
  | 0 => .int
  | 1 => .array .int
  | _ => .array .int
theorem n_CM : ∀ a, a < 3 → ∀ b, b < 3 → a ≠ b → (F_CM a).2.1 ≠ (F_CM b).2.1 := by decide +kernel
theorem g_CM_ok : ∀ k, k < 3 → parseFieldDescriptor (F_CM k).2.2.1 = some (g_CM k) := by decide +kernel
theorem in_CM : ∀ w ∈ u_ws R_CM F_CM 3, w ∈ lw_tbl ∧ goodWord w = true := by
  intro w hw
  obtain ⟨k, hk, rfl⟩ := List.mem_map.mp hw
  have hk := List.mem_range.mp hk
  match k, hk with
  | 0, _ => exact ⟨t_137, rfl⟩
  | 1, _ => exact ⟨t_139, rfl⟩
  | 2, _ => exact ⟨t_141, rfl⟩
  | k + 3, h => omega
def R_NE : String := "StudyAudit$Network"
def F_NE : u_T := fun k => match k with
  | 0 => ("StudyAudit$Network", "arcs", "I", false)
  | 1 => ("StudyAudit$Network", "from", "[I", true)
  | 2 => ("StudyAudit$Network", "to", "[I", true)
  | 3 => ("StudyAudit$Network", "room", "[I", true)
  | 4 => ("StudyAudit$Network", "paid", "J", false)
  | 5 => ("StudyAudit$Network", "price", "[J", true)
  | 6 => ("StudyAudit$Network", "distance", "[J", true)
  | _ => ("StudyAudit$Network", "arrival", "[I", true)
def g_NE : Nat → FieldType := fun k => match k with
  | 0 => .int
  | 1 => .array .int
  | 2 => .array .int
  | 3 => .array .int
  | 4 => .long
  | 5 => .array .long
  | 6 => .array .long
  | _ => .array .int
theorem n_NE : ∀ a, a < 8 → ∀ b, b < 8 → a ≠ b → (F_NE a).2.1 ≠ (F_NE b).2.1 := by decide +kernel
theorem g_NE_ok : ∀ k, k < 8 → parseFieldDescriptor (F_NE k).2.2.1 = some (g_NE k) := by decide +kernel
theorem in_NE : ∀ w ∈ u_ws R_NE F_NE 8, w ∈ lw_tbl ∧ goodWord w = true := by
  intro w hw
  obtain ⟨k, hk, rfl⟩ := List.mem_map.mp hw
  have hk := List.mem_range.mp hk
  match k, hk with
  | 0, _ => exact ⟨t_169, rfl⟩
  | 1, _ => exact ⟨t_171, rfl⟩
  | 2, _ => exact ⟨t_173, rfl⟩
  | 3, _ => exact ⟨t_175, rfl⟩
  | 4, _ => exact ⟨t_177, rfl⟩
  | 5, _ => exact ⟨t_179, rfl⟩
  | 6, _ => exact ⟨t_181, rfl⟩
  | 7, _ => exact ⟨t_183, rfl⟩
  | k + 8, h => omega
def R_PL : String := "StudyAudit$Plan"
def F_PL : u_T := fun k => match k with
  | _ => ("StudyAudit$Plan", "network", "LStudyAudit$Network;", true)
def g_PL : Nat → FieldType := fun k => match k with
  | _ => .object "StudyAudit$Network"
theorem n_PL : ∀ a, a < 1 → ∀ b, b < 1 → a ≠ b → (F_PL a).2.1 ≠ (F_PL b).2.1 := by decide +kernel
theorem g_PL_ok : ∀ k, k < 1 → parseFieldDescriptor (F_PL k).2.2.1 = some (g_PL k) := by decide +kernel
theorem in_PL : ∀ w ∈ u_ws R_PL F_PL 1, w ∈ lw_tbl ∧ goodWord w = true := by
  intro w hw
  obtain ⟨k, hk, rfl⟩ := List.mem_map.mp hw
  have hk := List.mem_range.mp hk
  match k, hk with
  | 0, _ => exact ⟨t_188, rfl⟩
  | k + 1, h => omega
def R_PR : String := "StudyAudit$Programme"
def F_PR : u_T := fun k => match k with
  | 0 => ("StudyAudit$Programme", "requirements", "I", false)
  | 1 => ("StudyAudit$Programme", "demand", "[I", true)
  | _ => ("StudyAudit$Programme", "allowed", "[I", true)
def g_PR : Nat → FieldType := fun k => match k with
  | 0 => .int
  | 1 => .array .int
  | _ => .array .int
theorem n_PR : ∀ a, a < 3 → ∀ b, b < 3 → a ≠ b → (F_PR a).2.1 ≠ (F_PR b).2.1 := by decide +kernel
theorem g_PR_ok : ∀ k, k < 3 → parseFieldDescriptor (F_PR k).2.2.1 = some (g_PR k) := by decide +kernel
theorem in_PR : ∀ w ∈ u_ws R_PR F_PR 3, w ∈ lw_tbl ∧ goodWord w = true := by
  intro w hw
  obtain ⟨k, hk, rfl⟩ := List.mem_map.mp hw
  have hk := List.mem_range.mp hk
  match k, hk with
  | 0, _ => exact ⟨t_87, rfl⟩
  | 1, _ => exact ⟨t_89, rfl⟩
  | 2, _ => exact ⟨t_91, rfl⟩
  | k + 3, h => omega
def R_RE : String := "StudyAudit$Receipt"
def F_RE : u_T := fun k => match k with
  | 0 => ("StudyAudit$Receipt", "isThere", "Z", false)
  | 1 => ("StudyAudit$Receipt", "student", "I", false)
  | 2 => ("StudyAudit$Receipt", "term", "I", false)
  | 3 => ("StudyAudit$Receipt", "need", "I", false)
  | 4 => ("StudyAudit$Receipt", "given", "I", false)
  | 5 => ("StudyAudit$Receipt", "requirementOf", "[I", true)
  | 6 => ("StudyAudit$Receipt", "unmet", "I", false)
  | 7 => ("StudyAudit$Receipt", "unmetNeed", "I", false)
  | _ => ("StudyAudit$Receipt", "unmetSupply", "I", false)
def g_RE : Nat → FieldType := fun k => match k with
  | 0 => .boolean
  | 1 => .int
  | 2 => .int
  | 3 => .int
  | 4 => .int
  | 5 => .array .int
  | 6 => .int
  | 7 => .int
  | _ => .int
theorem n_RE : ∀ a, a < 9 → ∀ b, b < 9 → a ≠ b → (F_RE a).2.1 ≠ (F_RE b).2.1 := by decide +kernel
theorem g_RE_ok : ∀ k, k < 9 → parseFieldDescriptor (F_RE k).2.2.1 = some (g_RE k) := by decide +kernel
theorem in_RE : ∀ w ∈ u_ws R_RE F_RE 9, w ∈ lw_tbl ∧ goodWord w = true := by
  intro w hw
  obtain ⟨k, hk, rfl⟩ := List.mem_map.mp hw
  have hk := List.mem_range.mp hk
  match k, hk with
  | 0, _ => exact ⟨t_210, rfl⟩
  | 1, _ => exact ⟨t_212, rfl⟩
  | 2, _ => exact ⟨t_214, rfl⟩
  | 3, _ => exact ⟨t_216, rfl⟩
  | 4, _ => exact ⟨t_218, rfl⟩
  | 5, _ => exact ⟨t_220, rfl⟩
  | 6, _ => exact ⟨t_222, rfl⟩
  | 7, _ => exact ⟨t_224, rfl⟩
  | 8, _ => exact ⟨t_226, rfl⟩
  | k + 9, h => omega
def R_ST : String := "StudyAudit$Student"
def F_ST : u_T := fun k => match k with
  | 0 => ("StudyAudit$Student", "programme", "I", false)
  | 1 => ("StudyAudit$Student", "passed", "[I", true)
  | 2 => ("StudyAudit$Student", "standsFor", "[I", true)
  | 3 => ("StudyAudit$Student", "petitions", "I", false)
  | _ => ("StudyAudit$Student", "exemption", "[I", true)
def g_ST : Nat → FieldType := fun k => match k with
  | 0 => .int
  | 1 => .array .int
  | 2 => .array .int
  | 3 => .int
  | _ => .array .int
theorem n_ST : ∀ a, a < 5 → ∀ b, b < 5 → a ≠ b → (F_ST a).2.1 ≠ (F_ST b).2.1 := by decide +kernel
theorem g_ST_ok : ∀ k, k < 5 → parseFieldDescriptor (F_ST k).2.2.1 = some (g_ST k) := by decide +kernel
theorem in_ST : ∀ w ∈ u_ws R_ST F_ST 5, w ∈ lw_tbl ∧ goodWord w = true := by
  intro w hw
  obtain ⟨k, hk, rfl⟩ := List.mem_map.mp hw
  have hk := List.mem_range.mp hk
  match k, hk with
  | 0, _ => exact ⟨t_114, rfl⟩
  | 1, _ => exact ⟨t_116, rfl⟩
  | 2, _ => exact ⟨t_118, rfl⟩
  | 3, _ => exact ⟨t_120, rfl⟩
  | 4, _ => exact ⟨t_122, rfl⟩
  | k + 5, h => omega
def R_MO : String := "StudyAuditModel"
def F_MO : u_T := fun k => match k with
  | 0 => ("StudyAuditModel", "thrown", "I", false)
  | 1 => ("StudyAuditModel", "groups", "I", false)
  | 2 => ("StudyAuditModel", "parents", "[I", true)
  | 3 => ("StudyAuditModel", "limits", "[I", true)
  | 4 => ("StudyAuditModel", "courses", "I", false)
  | 5 => ("StudyAuditModel", "groupOf", "[I", true)
  | 6 => ("StudyAuditModel", "opens", "[Z", true)
  | 7 => ("StudyAuditModel", "lifes", "[I", true)
  | 8 => ("StudyAuditModel", "many", "[I", true)
  | 9 => ("StudyAuditModel", "demands", "[I", true)
  | 10 => ("StudyAuditModel", "allowed", "[I", true)
  | 11 => ("StudyAuditModel", "programmes", "[I", true)
  | 12 => ("StudyAuditModel", "passes", "[I", true)
  | 13 => ("StudyAuditModel", "petitions", "[I", true)
  | 14 => ("StudyAuditModel", "from", "[I", true)
  | 15 => ("StudyAuditModel", "to", "[I", true)
  | 16 => ("StudyAuditModel", "exemptions", "[I", true)
  | 17 => ("StudyAuditModel", "needs", "[I", true)
  | 18 => ("StudyAuditModel", "counts", "[I", true)
  | 19 => ("StudyAuditModel", "given", "[I", true)
  | 20 => ("StudyAuditModel", "taken", "[I", true)
  | 21 => ("StudyAuditModel", "have", "[I", true)
  | 22 => ("StudyAuditModel", "has", "Z", false)
  | 23 => ("StudyAuditModel", "receipts", "[I", true)
  | _ => ("StudyAuditModel", "gives", "[I", true)
def g_MO : Nat → FieldType := fun k => match k with
  | 0 => .int
  | 1 => .int
  | 2 => .array .int
  | 3 => .array .int
  | 4 => .int
  | 5 => .array .int
  | 6 => .array .boolean
  | 7 => .array .int
  | 8 => .array .int
  | 9 => .array .int
  | 10 => .array .int
  | 11 => .array .int
  | 12 => .array .int
  | 13 => .array .int
  | 14 => .array .int
  | 15 => .array .int
  | 16 => .array .int
  | 17 => .array .int
  | 18 => .array .int
  | 19 => .array .int
  | 20 => .array .int
  | 21 => .array .int
  | 22 => .boolean
  | 23 => .array .int
  | _ => .array .int
theorem n_MO : ∀ a, a < 25 → ∀ b, b < 25 → a ≠ b → (F_MO a).2.1 ≠ (F_MO b).2.1 := by decide +kernel
theorem g_MO_ok : ∀ k, k < 25 → parseFieldDescriptor (F_MO k).2.2.1 = some (g_MO k) := by decide +kernel
theorem in_MO : ∀ w ∈ u_ws R_MO F_MO 25, w ∈ lw_tbl ∧ goodWord w = true := by
  intro w hw
  obtain ⟨k, hk, rfl⟩ := List.mem_map.mp hw
  have hk := List.mem_range.mp hk
  match k, hk with
  | 0, _ => exact ⟨t_730, rfl⟩
  | 1, _ => exact ⟨t_732, rfl⟩
  | 2, _ => exact ⟨t_734, rfl⟩
  | 3, _ => exact ⟨t_736, rfl⟩
  | 4, _ => exact ⟨t_738, rfl⟩
  | 5, _ => exact ⟨t_740, rfl⟩
  | 6, _ => exact ⟨t_742, rfl⟩
  | 7, _ => exact ⟨t_744, rfl⟩
  | 8, _ => exact ⟨t_746, rfl⟩
  | 9, _ => exact ⟨t_748, rfl⟩
  | 10, _ => exact ⟨t_750, rfl⟩
  | 11, _ => exact ⟨t_752, rfl⟩
  | 12, _ => exact ⟨t_754, rfl⟩
  | 13, _ => exact ⟨t_756, rfl⟩
  | 14, _ => exact ⟨t_758, rfl⟩
  | 15, _ => exact ⟨t_760, rfl⟩
  | 16, _ => exact ⟨t_762, rfl⟩
  | 17, _ => exact ⟨t_764, rfl⟩
  | 18, _ => exact ⟨t_766, rfl⟩
  | 19, _ => exact ⟨t_768, rfl⟩
  | 20, _ => exact ⟨t_770, rfl⟩
  | 21, _ => exact ⟨t_772, rfl⟩
  | 22, _ => exact ⟨t_774, rfl⟩
  | 23, _ => exact ⟨t_776, rfl⟩
  | 24, _ => exact ⟨t_778, rfl⟩
  | k + 25, h => omega
abbrev cls : List vw_C := [(R_SA, F_SA, 6), (R_CA, F_CA, 9), (R_CM, F_CM, 3), (R_NE, F_NE, 8), (R_PL, F_PL, 1), (R_PR, F_PR, 3), (R_RE, F_RE, 9), (R_ST, F_ST, 5), (R_MO, F_MO, 25)]
