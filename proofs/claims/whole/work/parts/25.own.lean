/-! the words that a throw needs -/
def zx_up : List String := ["java/lang/RuntimeException", "java/lang/Exception"]
def zx_iae : String := "java/lang/IllegalArgumentException"
def zx_ise : String := "java/lang/IllegalStateException"
def zx_nse : String := "java/util/NoSuchElementException"
def zx_four : List Cond := [.laysStatic "java/lang/Throwable" "UNASSIGNED_STACK" "[Ljava/lang/StackTraceElement;", .laysStatic "java/lang/Throwable" "SUPPRESSED_SENTINEL" "Ljava/util/List;", .isRef (.static "java/lang/Throwable" "UNASSIGNED_STACK" "[Ljava/lang/StackTraceElement;"), .isRef (.static "java/lang/Throwable" "SUPPRESSED_SENTINEL" "Ljava/util/List;")]
theorem zx_four_ok {s : State} {args : Array Value} (hs : zs_ok s s.heap) : ∀ w ∈ zx_four, w.before args s = true := by
  obtain ⟨a, b, h1, h2⟩ := hs
  intro w hw
  simp only [zx_four, List.mem_cons, List.not_mem_nil, or_false] at hw
  rcases hw with rfl | rfl | rfl | rfl
  · exact h1.lays
  · exact h2.lays
  · exact h1.isRef
  · exact h2.isRef
theorem zx_use {s : State} {args : Array Value} {L : List Cond} (hok : tb_ok s) (hs : zs_ok s s.heap) (h : L.all (fun w => (decide (w ∈ lw_tbl) && tb_kind w) || decide (w ∈ zx_four)) = true) : ∀ w ∈ L, w.before args s = true := by
  intro w hw
  have h1 := List.all_eq_true.mp h w hw
  rw [Bool.or_eq_true, Bool.and_eq_true, decide_eq_true_eq, decide_eq_true_eq] at h1
  rcases h1 with ⟨a, b⟩ | a
  · exact hok w a b args
  · exact zx_four_ok hs w a
set_option maxRecDepth 100000 in
theorem zx_iae_l : (Bundle.ownAtoms "StudyAudit" 261 zx_iae zx_up).all (fun w => (decide (w ∈ lw_tbl) && tb_kind w) || decide (w ∈ zx_four)) = true := by decide +kernel
set_option maxRecDepth 100000 in
theorem zx_ise_l : (Bundle.ownAtoms "StudyAudit" 67 zx_ise zx_up).all (fun w => (decide (w ∈ lw_tbl) && tb_kind w) || decide (w ∈ zx_four)) = true := by decide +kernel
