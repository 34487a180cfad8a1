/-! names, by program (wip/whole/gen_names.py) -/
def TB : List Cond := lw_tbl.filter goodWord
def tbl (k : Nat) : List Cond := match k with | 1 => k2_sels lw_privs_1 | 2 => k2_sels lw_privs_2 | 3 => k2_sels lw_privs_3 | 4 => k2_sels lw_privs_4 | 5 => k2_sels lw_privs_5 | 6 => k2_sels lw_privs_6 | 7 => k2_sels lw_privs_7 | 8 => k2_sels lw_privs_8 | 9 => k2_sels lw_privs_9 | 11 => tables_1_1 | 12 => tables_1_2 | 13 => tables_1_3 | 14 => tables_1_4 | 15 => tables_1_5 | 16 => tables_1_6 | 17 => tables_1_7 | 18 => tables_1_8 | 19 => tables_1_9 | 20 => tables_1_10 | _ => []
theorem tbl_in {k : Nat} {w : Cond} (h : w ∈ tbl k) : w ∈ lw_tbl := by
  unfold tbl at h
  unfold lw_tbl tables_1 lw_privs k2_sels
  split at h <;> (first | exact absurd h List.not_mem_nil | (unfold k2_sels at h; simp only [List.map_append, List.mem_append]; simp only [h, true_or, or_true]) | (simp only [List.map_append, List.mem_append]; simp only [h, true_or, or_true]))
def tbAt (q : Nat × Cond) : Bool := decide ((tbl (q.1 / 1000))[q.1 % 1000]? = some q.2) && goodWord q.2
theorem tb_of {i : Nat} {w : Cond} (h : tbAt (i, w) = true) : w ∈ TB := by
  simp only [tbAt, Bool.and_eq_true, decide_eq_true_eq] at h
  exact List.mem_filter.mpr ⟨tbl_in (List.mem_of_getElem? h.1), h.2⟩
def isNw : Cond → Bool
  | .fieldLinkNest _ _ _ _ _ _ => true
  | .methodLinkNest _ _ _ _ => true
  | .declares _ => true
  | .castable _ _ => true
  | _ => false
def NW : List Cond := lw_tbl.filter isNw
def nwAt (q : Nat × Cond) : Bool := decide ((tbl (q.1 / 1000))[q.1 % 1000]? = some q.2) && isNw q.2
theorem nw_of {i : Nat} {w : Cond} (h : nwAt (i, w) = true) : w ∈ NW := by
  simp only [nwAt, Bool.and_eq_true, decide_eq_true_eq] at h
  exact List.mem_filter.mpr ⟨tbl_in (List.mem_of_getElem? h.1), h.2⟩
def cT0 : u_T := fun k => match k with
  | 0 => ("SaidOnce$Law", "lines", "I", false)
  | 1 => ("SaidOnce$Law", "kinds", "[I", true)
  | 2 => ("SaidOnce$Law", "amounts", "[I", true)
  | 3 => ("SaidOnce$Law", "ends", "[I", true)
  | 4 => ("SaidOnce$Law", "code", "[I", true)
  | 5 => ("SaidOnce$Law", "codeLength", "I", false)
  | 6 => ("SaidOnce$Law", "given", "[I", true)
  | 7 => ("SaidOnce$Law", "stack", "[I", true)
  | 8 => ("SaidOnce$Law", "farther", "I", false)
  | _ => ("SaidOnce$Law", "shift", "I", false)
theorem cI0 : ∀ k, k < 10 → tbAt (([11223, 11225, 11227, 11229, 11231, 11233, 11235, 11237, 11239, 12001] : List Nat).getD k 0, u_lay "SaidOnce$Law" cT0 k) = true := by decide +kernel
def cT1 : u_T := fun k => match k with
  | 0 => ("SaidOnce$LineReader", "tape", "LSaidOnce$Tape;", true)
  | 1 => ("SaidOnce$LawReader", "law", "LSaidOnce$Law;", true)
  | 2 => ("SaidOnce$LawReader", "waiting", "[I", true)
  | 3 => ("SaidOnce$LawReader", "waitingCount", "I", false)
  | 4 => ("SaidOnce$LawReader", "depth", "I", false)
  | _ => ("SaidOnce$LawReader", "brackets", "I", false)
theorem cI1 : ∀ k, k < 6 → tbAt (([12159, 12149, 12151, 12153, 12155, 12157] : List Nat).getD k 0, u_lay "SaidOnce$LawReader" cT1 k) = true := by decide +kernel
def cT2 : u_T := fun k => match k with
  | 0 => ("SaidOnce$Log", "days", "[I", true)
  | 1 => ("SaidOnce$Log", "speakers", "[I", true)
  | 2 => ("SaidOnce$Log", "sayings", "[I", true)
  | 3 => ("SaidOnce$Log", "learners", "[I", true)
  | 4 => ("SaidOnce$Log", "learnt", "[J", true)
  | _ => ("SaidOnce$Log", "stammered", "[Z", true)
theorem cI2 : ∀ k, k < 6 → tbAt (([12027, 12029, 12031, 12033, 12035, 12037] : List Nat).getD k 0, u_lay "SaidOnce$Log" cT2 k) = true := by decide +kernel
def cT3 : u_T := fun k => match k with
  | 0 => ("SaidOnce$Planner", "school", "LSaidOnce$School;", true)
  | 1 => ("SaidOnce$Planner", "right", "[I", true)
  | 2 => ("SaidOnce$Planner", "reached", "[J", true)
  | 3 => ("SaidOnce$Planner", "left", "I", false)
  | 4 => ("SaidOnce$Planner", "all", "I", false)
  | _ => ("SaidOnce$Planner", "first", "I", false)
theorem cI3 : ∀ k, k < 6 → tbAt (([12082, 12084, 12086, 12088, 12090, 12092] : List Nat).getD k 0, u_lay "SaidOnce$Planner" cT3 k) = true := by decide +kernel
def cT4 : u_T := fun k => match k with
  | 0 => ("SaidOnce$School", "setup", "LSaidOnce$Setup;", true)
  | 1 => ("SaidOnce$School", "state", "LSaidOnce$State;", true)
  | 2 => ("SaidOnce$School", "law", "LSaidOnce$Law;", true)
  | 3 => ("SaidOnce$School", "log", "LSaidOnce$Log;", true)
  | 4 => ("SaidOnce$School", "held", "LSaidOnce$State;", true)
  | _ => ("SaidOnce$School", "minds", "[I", true)
theorem cI4 : ∀ k, k < 6 → tbAt (([12057, 12059, 12061, 12063, 12065, 12067] : List Nat).getD k 0, u_lay "SaidOnce$School" cT4 k) = true := by decide +kernel
def cT5 : u_T := fun k => match k with
  | 0 => ("SaidOnce$LineReader", "tape", "LSaidOnce$Tape;", true)
  | 1 => ("SaidOnce$SchoolReader", "setup", "LSaidOnce$Setup;", true)
  | _ => ("SaidOnce$SchoolReader", "state", "LSaidOnce$State;", true)
theorem cI5 : ∀ k, k < 3 → tbAt (([12132, 12128, 12130] : List Nat).getD k 0, u_lay "SaidOnce$SchoolReader" cT5 k) = true := by decide +kernel
def cT6 : u_T := fun k => match k with
  | 0 => ("SaidOnce$Search", "school", "LSaidOnce$School;", true)
  | _ => ("SaidOnce$Search", "heardFrom", "[I", true)
theorem cI6 : ∀ k, k < 2 → tbAt (([12103, 12105] : List Nat).getD k 0, u_lay "SaidOnce$Search" cT6 k) = true := by decide +kernel
def cT7 : u_T := fun k => match k with
  | 0 => ("SaidOnce$Setup", "things", "I", false)
  | 1 => ("SaidOnce$Setup", "wordings", "[I", true)
  | 2 => ("SaidOnce$Setup", "people", "I", false)
  | 3 => ("SaidOnce$Setup", "ears", "[I", true)
  | 4 => ("SaidOnce$Setup", "stammers", "[I", true)
  | 5 => ("SaidOnce$Setup", "rules", "I", false)
  | 6 => ("SaidOnce$Setup", "firsts", "[I", true)
  | 7 => ("SaidOnce$Setup", "seconds", "[I", true)
  | 8 => ("SaidOnce$Setup", "thirds", "[I", true)
  | 9 => ("SaidOnce$Setup", "loud", "I", false)
  | _ => ("SaidOnce$Setup", "texts", "I", false)
theorem cI7 : ∀ k, k < 11 → tbAt (([11130, 11132, 11134, 11136, 11138, 11140, 11142, 11144, 11146, 11148, 11150] : List Nat).getD k 0, u_lay "SaidOnce$Setup" cT7 k) = true := by decide +kernel
def cT8 : u_T := fun k => match k with
  | 0 => ("SaidOnce$State", "store", "J", false)
  | 1 => ("SaidOnce$State", "knows", "[I", true)
  | 2 => ("SaidOnce$State", "xs", "[I", true)
  | 3 => ("SaidOnce$State", "ys", "[I", true)
  | 4 => ("SaidOnce$State", "absent", "I", false)
  | 5 => ("SaidOnce$State", "day", "I", false)
  | 6 => ("SaidOnce$State", "seed", "I", false)
  | _ => ("SaidOnce$State", "rows", "I", false)
theorem cI8 : ∀ k, k < 8 → tbAt (([11187, 11189, 11191, 11193, 11195, 11197, 11199, 11201] : List Nat).getD k 0, u_lay "SaidOnce$State" cT8 k) = true := by decide +kernel
def cT9 : u_T := fun k => match k with
  | 0 => ("SaidOnce$Tape", "bytes", "[B", true)
  | 1 => ("SaidOnce$Tape", "length", "I", false)
  | 2 => ("SaidOnce$Tape", "fault", "I", false)
  | 3 => ("SaidOnce$Tape", "kind", "I", false)
  | 4 => ("SaidOnce$Tape", "start", "I", false)
  | 5 => ("SaidOnce$Tape", "stop", "I", false)
  | _ => ("SaidOnce$Tape", "number", "I", false)
theorem cI9 : ∀ k, k < 7 → tbAt (([11059, 11061, 11063, 11065, 11067, 11069, 11071] : List Nat).getD k 0, u_lay "SaidOnce$Tape" cT9 k) = true := by decide +kernel
def cT10 : u_T := fun k => match k with
  | 0 => ("SaidOnce", "tape", "LSaidOnce$Tape;", true)
  | 1 => ("SaidOnce", "now", "LSaidOnce$School;", true)
  | 2 => ("SaidOnce", "pictured", "LSaidOnce$School;", true)
  | 3 => ("SaidOnce", "planner", "LSaidOnce$Planner;", true)
  | 4 => ("SaidOnce", "search", "LSaidOnce$Search;", true)
  | 5 => ("SaidOnce", "schoolReader", "LSaidOnce$SchoolReader;", true)
  | 6 => ("SaidOnce", "lawReader", "LSaidOnce$LawReader;", true)
  | 7 => ("SaidOnce", "past", "[LSaidOnce$State;", true)
  | 8 => ("SaidOnce", "remembered", "I", false)
  | _ => ("SaidOnce", "imaged", "Z", false)
theorem cI10 : ∀ k, k < 10 → tbAt (([12174, 12176, 12178, 12180, 12182, 12184, 12186, 12188, 12190, 12192] : List Nat).getD k 0, u_lay "SaidOnce" cT10 k) = true := by decide +kernel
def cT11 : u_T := fun k => match k with
  | 0 => ("SaidOnceModel", "thrown", "I", false)
  | 1 => ("SaidOnceModel", "world", "[I", true)
  | 2 => ("SaidOnceModel", "image", "[I", true)
  | 3 => ("SaidOnceModel", "before", "[I", true)
  | 4 => ("SaidOnceModel", "trial", "[I", true)
  | 5 => ("SaidOnceModel", "acts", "[I", true)
  | 6 => ("SaidOnceModel", "store", "J", false)
  | 7 => ("SaidOnceModel", "imageStore", "J", false)
  | 8 => ("SaidOnceModel", "beforeStore", "J", false)
  | 9 => ("SaidOnceModel", "trialStore", "J", false)
  | 10 => ("SaidOnceModel", "actsStore", "[J", true)
  | 11 => ("SaidOnceModel", "hasImage", "Z", false)
  | 12 => ("SaidOnceModel", "remembered", "I", false)
  | 13 => ("SaidOnceModel", "tape", "[B", true)
  | 14 => ("SaidOnceModel", "taped", "I", false)
  | 15 => ("SaidOnceModel", "point", "I", false)
  | 16 => ("SaidOnceModel", "end", "I", false)
  | 17 => ("SaidOnceModel", "begin", "I", false)
  | 18 => ("SaidOnceModel", "deep", "I", false)
  | 19 => ("SaidOnceModel", "faultAt", "I", false)
  | 20 => ("SaidOnceModel", "five", "[I", true)
  | 21 => ("SaidOnceModel", "steps", "I", false)
  | 22 => ("SaidOnceModel", "value", "[I", true)
  | 23 => ("SaidOnceModel", "taken", "[I", true)
  | 24 => ("SaidOnceModel", "right", "[I", true)
  | 25 => ("SaidOnceModel", "fewest", "[B", true)
  | _ => ("SaidOnceModel", "teaches", "[I", true)
theorem cI11 : ∀ k, k < 27 → tbAt (([17096, 17098, 17100, 17102, 17104, 17106, 17108, 17110, 17112, 17114, 17116, 17118, 17120, 17122, 17124, 17126, 17128, 17130, 17132, 17134, 17136, 17138, 17140, 17142, 17144, 17146, 17148] : List Nat).getD k 0, u_lay "SaidOnceModel" cT11 k) = true := by decide +kernel
abbrev cls : List vw_C := [("SaidOnce$Law", cT0, 10), ("SaidOnce$LawReader", cT1, 6), ("SaidOnce$Log", cT2, 6), ("SaidOnce$Planner", cT3, 6), ("SaidOnce$School", cT4, 6), ("SaidOnce$SchoolReader", cT5, 3), ("SaidOnce$Search", cT6, 2), ("SaidOnce$Setup", cT7, 11), ("SaidOnce$State", cT8, 8), ("SaidOnce$Tape", cT9, 7), ("SaidOnce", cT10, 10), ("SaidOnceModel", cT11, 27)]
def cTy (T : u_T) (k : Nat) : FieldType := (parseFieldDescriptor (T k).2.2.1).getD .int
theorem cN0 : (∀ k, k < 10 → parseFieldDescriptor (cT0 k).2.2.1 = some (cTy cT0 k)) ∧ ∀ a, a < 10 → ∀ b, b < 10 → a ≠ b → (cT0 a).2.1 ≠ (cT0 b).2.1 := by decide +kernel
theorem cN1 : (∀ k, k < 6 → parseFieldDescriptor (cT1 k).2.2.1 = some (cTy cT1 k)) ∧ ∀ a, a < 6 → ∀ b, b < 6 → a ≠ b → (cT1 a).2.1 ≠ (cT1 b).2.1 := by decide +kernel
theorem cN2 : (∀ k, k < 6 → parseFieldDescriptor (cT2 k).2.2.1 = some (cTy cT2 k)) ∧ ∀ a, a < 6 → ∀ b, b < 6 → a ≠ b → (cT2 a).2.1 ≠ (cT2 b).2.1 := by decide +kernel
theorem cN3 : (∀ k, k < 6 → parseFieldDescriptor (cT3 k).2.2.1 = some (cTy cT3 k)) ∧ ∀ a, a < 6 → ∀ b, b < 6 → a ≠ b → (cT3 a).2.1 ≠ (cT3 b).2.1 := by decide +kernel
theorem cN4 : (∀ k, k < 6 → parseFieldDescriptor (cT4 k).2.2.1 = some (cTy cT4 k)) ∧ ∀ a, a < 6 → ∀ b, b < 6 → a ≠ b → (cT4 a).2.1 ≠ (cT4 b).2.1 := by decide +kernel
theorem cN5 : (∀ k, k < 3 → parseFieldDescriptor (cT5 k).2.2.1 = some (cTy cT5 k)) ∧ ∀ a, a < 3 → ∀ b, b < 3 → a ≠ b → (cT5 a).2.1 ≠ (cT5 b).2.1 := by decide +kernel
theorem cN6 : (∀ k, k < 2 → parseFieldDescriptor (cT6 k).2.2.1 = some (cTy cT6 k)) ∧ ∀ a, a < 2 → ∀ b, b < 2 → a ≠ b → (cT6 a).2.1 ≠ (cT6 b).2.1 := by decide +kernel
theorem cN7 : (∀ k, k < 11 → parseFieldDescriptor (cT7 k).2.2.1 = some (cTy cT7 k)) ∧ ∀ a, a < 11 → ∀ b, b < 11 → a ≠ b → (cT7 a).2.1 ≠ (cT7 b).2.1 := by decide +kernel
theorem cN8 : (∀ k, k < 8 → parseFieldDescriptor (cT8 k).2.2.1 = some (cTy cT8 k)) ∧ ∀ a, a < 8 → ∀ b, b < 8 → a ≠ b → (cT8 a).2.1 ≠ (cT8 b).2.1 := by decide +kernel
theorem cN9 : (∀ k, k < 7 → parseFieldDescriptor (cT9 k).2.2.1 = some (cTy cT9 k)) ∧ ∀ a, a < 7 → ∀ b, b < 7 → a ≠ b → (cT9 a).2.1 ≠ (cT9 b).2.1 := by decide +kernel
theorem cN10 : (∀ k, k < 10 → parseFieldDescriptor (cT10 k).2.2.1 = some (cTy cT10 k)) ∧ ∀ a, a < 10 → ∀ b, b < 10 → a ≠ b → (cT10 a).2.1 ≠ (cT10 b).2.1 := by decide +kernel
theorem cN11 : (∀ k, k < 27 → parseFieldDescriptor (cT11 k).2.2.1 = some (cTy cT11 k)) ∧ ∀ a, a < 27 → ∀ b, b < 27 → a ≠ b → (cT11 a).2.1 ≠ (cT11 b).2.1 := by decide +kernel
/-- what is said of a class of the list -/
def clsOK (q : vw_C) : Prop := (∀ w ∈ u_ws q.1 q.2.1 q.2.2, w ∈ TB) ∧ (∀ k, k < q.2.2 → parseFieldDescriptor (q.2.1 k).2.2.1 = some (cTy q.2.1 k)) ∧ ∀ a, a < q.2.2 → ∀ b, b < q.2.2 → a ≠ b → (q.2.1 a).2.1 ≠ (q.2.1 b).2.1
theorem cls_w {C : String} {T : u_T} {N : Nat} {l : List Nat} (h : ∀ k, k < N → tbAt (l.getD k 0, u_lay C T k) = true) : ∀ w ∈ u_ws C T N, w ∈ TB := by
  intro w hw
  obtain ⟨k, hk, rfl⟩ := List.mem_map.mp hw
  exact tb_of (h k (List.mem_range.mp hk))
theorem cls_ok {k : Nat} {q : vw_C} (h : cls[k]? = some q) : clsOK q := by
  match k, h with
  | 0, h => cases h; exact ⟨cls_w cI0, cN0⟩
  | 1, h => cases h; exact ⟨cls_w cI1, cN1⟩
  | 2, h => cases h; exact ⟨cls_w cI2, cN2⟩
  | 3, h => cases h; exact ⟨cls_w cI3, cN3⟩
  | 4, h => cases h; exact ⟨cls_w cI4, cN4⟩
  | 5, h => cases h; exact ⟨cls_w cI5, cN5⟩
  | 6, h => cases h; exact ⟨cls_w cI6, cN6⟩
  | 7, h => cases h; exact ⟨cls_w cI7, cN7⟩
  | 8, h => cases h; exact ⟨cls_w cI8, cN8⟩
  | 9, h => cases h; exact ⟨cls_w cI9, cN9⟩
  | 10, h => cases h; exact ⟨cls_w cI10, cN10⟩
  | 11, h => cases h; exact ⟨cls_w cI11, cN11⟩
  | k + 12, h => simp [cls] at h
/-- field kinds: 0 int, 1 long, 3 boolean, 4 reference -/
def FT : List (List Nat) := [[0, 4, 4, 4, 4, 0, 4, 4, 0, 0], [4, 4, 4, 0, 0, 0], [4, 4, 4, 4, 4, 4], [4, 4, 4, 0, 0, 0], [4, 4, 4, 4, 4, 4], [4, 4, 4], [4, 4], [0, 4, 0, 4, 4, 0, 4, 4, 4, 0, 0], [1, 4, 4, 4, 0, 0, 0, 0], [4, 0, 0, 0, 0, 0, 0], [4, 4, 4, 4, 4, 4, 4, 4, 0, 3], [0, 4, 4, 4, 4, 4, 1, 1, 1, 1, 4, 3, 0, 4, 0, 0, 0, 0, 0, 0, 4, 0, 4, 4, 4, 4, 4]]
def ftc (ci j : Nat) : Nat := (FT.getD ci []).getD j 0
/-- shapes: an object (its class, its number of fields), an array (100 and its kind, its length) -/
def SH : List (List (Nat × Nat)) := [[(10, 10), (9, 7), (102, 400), (4, 6), (7, 11), (100, 10), (100, 10), (100, 10), (100, 12), (100, 12), (100, 12), (8, 8), (100, 10), (100, 10), (100, 10), (0, 10)], [(100, 12), (100, 12), (100, 12), (100, 400), (100, 8), (100, 32), (2, 6), (100, 60), (100, 60), (100, 60), (100, 60), (101, 60), (103, 60), (8, 8), (100, 10), (100, 10)], [(100, 10), (100, 10), (4, 6), (7, 11), (100, 10), (100, 10), (100, 10), (100, 12), (100, 12), (100, 12), (8, 8), (100, 10), (100, 10), (100, 10), (0, 10), (100, 12)], [(100, 12), (100, 12), (100, 400), (100, 8), (100, 32), (2, 6), (100, 60), (100, 60), (100, 60), (100, 60), (101, 60), (103, 60), (8, 8), (100, 10), (100, 10), (100, 10)], [(100, 10), (3, 6), (100, 60), (101, 1024), (6, 2), (100, 10), (5, 3), (7, 11), (100, 10), (100, 10), (100, 10), (100, 12), (100, 12), (100, 12), (8, 8), (100, 10)], [(100, 10), (100, 10), (1, 6), (0, 10), (100, 12), (100, 12), (100, 12), (100, 400), (100, 8), (100, 32), (100, 32), (104, 12), (8, 8), (100, 10), (100, 10), (100, 10)], [(8, 8), (100, 10), (100, 10), (100, 10), (8, 8), (100, 10), (100, 10), (100, 10), (8, 8), (100, 10), (100, 10), (100, 10), (8, 8), (100, 10), (100, 10), (100, 10)], [(8, 8), (100, 10), (100, 10), (100, 10), (8, 8), (100, 10), (100, 10), (100, 10), (8, 8), (100, 10), (100, 10), (100, 10), (8, 8), (100, 10), (100, 10), (100, 10)], [(8, 8), (100, 10), (100, 10), (100, 10), (8, 8), (100, 10), (100, 10), (100, 10), (8, 8), (100, 10), (100, 10), (100, 10), (11, 27), (100, 2713), (100, 1864), (100, 1864)], [(100, 1015), (100, 12180), (101, 12), (102, 400), (100, 5), (100, 400), (100, 10), (100, 60), (102, 65536), (100, 10), (101, 1)]]
def sh (k : Nat) : Nat × Nat := (SH.getD (k / 16) []).getD (k % 16) (999, 0)
/-- references of objects: they never change -/
def RT : List (List (List (Option Nat))) := [[[some 1, some 3, some 34, some 65, some 68, some 70, some 82, some 91, none, none], [some 2, none, none, none, none, none, none], [], [some 4, some 11, some 15, some 22, some 29, some 33], [none, some 5, none, some 6, some 7, none, some 8, some 9, some 10, none, none], [], [], [], [], [], [], [none, some 12, some 13, some 14, none, none, none, none], [], [], [], [none, some 16, some 17, some 18, some 19, none, some 20, some 21, none, none]], [[], [], [], [], [], [], [some 23, some 24, some 25, some 26, some 27, some 28], [], [], [], [], [], [], [none, some 30, some 31, some 32, none, none, none, none], [], []], [[], [], [some 35, some 42, some 46, some 53, some 60, some 64], [none, some 36, none, some 37, some 38, none, some 39, some 40, some 41, none, none], [], [], [], [], [], [], [none, some 43, some 44, some 45, none, none, none, none], [], [], [], [none, some 47, some 48, some 49, some 50, none, some 51, some 52, none, none], []], [[], [], [], [], [], [some 54, some 55, some 56, some 57, some 58, some 59], [], [], [], [], [], [], [none, some 61, some 62, some 63, none, none, none, none], [], [], []], [[], [some 3, some 66, some 67, none, none, none], [], [], [some 3, some 69], [], [some 1, some 71, some 78], [none, some 72, none, some 73, some 74, none, some 75, some 76, some 77, none, none], [], [], [], [], [], [], [none, some 79, some 80, some 81, none, none, none, none], []], [[], [], [some 1, some 83, some 90, none, none, none], [none, some 84, some 85, some 86, some 87, none, some 88, some 89, none, none], [], [], [], [], [], [], [], [], [none, some 93, some 94, some 95, none, none, none, none], [], [], []], [[none, some 97, some 98, some 99, none, none, none, none], [], [], [], [none, some 101, some 102, some 103, none, none, none, none], [], [], [], [none, some 105, some 106, some 107, none, none, none, none], [], [], [], [none, some 109, some 110, some 111, none, none, none, none], [], [], []], [[none, some 113, some 114, some 115, none, none, none, none], [], [], [], [none, some 117, some 118, some 119, none, none, none, none], [], [], [], [none, some 121, some 122, some 123, none, none, none, none], [], [], [], [none, some 125, some 126, some 127, none, none, none, none], [], [], []], [[none, some 129, some 130, some 131, none, none, none, none], [], [], [], [none, some 133, some 134, some 135, none, none, none, none], [], [], [], [none, some 137, some 138, some 139, none, none, none, none], [], [], [], [none, some 141, some 142, some 143, some 144, some 145, none, none, none, none, some 146, none, none, some 147, none, none, none, none, none, none, some 148, none, some 149, some 150, some 151, some 152, some 153], [], [], []], [[], [], [], [], [], [], [], [], [], [], []]]
def rt (k j : Nat) : Option Nat := ((RT.getD (k / 16) []).getD (k % 16) []).getD j none
abbrev NC : Nat := 155
/-- the texts that code loads: whose, where, what -/
def STR : List (String × Nat × String) := [("SaidOnce$LawReader", 31, "far"), ("SaidOnce$LawReader", 39, "near"), ("SaidOnce$LawReader", 41, "as"), ("SaidOnce$LawReader", 50, "if"), ("SaidOnce$LawReader", 97, "not"), ("SaidOnce$LawReader", 102, "known"), ("SaidOnce$LawReader", 118, "thing"), ("SaidOnce$LawReader", 120, "wording"), ("SaidOnce$LawReader", 122, "who"), ("SaidOnce$LawReader", 124, "whom"), ("SaidOnce$LawReader", 126, "apart"), ("SaidOnce$LawReader", 128, "ear"), ("SaidOnce$LawReader", 130, "day"), ("SaidOnce$LawReader", 82, "and"), ("SaidOnce$LawReader", 84, "or"), ("SaidOnce$SchoolReader", 42, "thing"), ("SaidOnce$SchoolReader", 58, "person"), ("SaidOnce$SchoolReader", 114, "ear"), ("SaidOnce$SchoolReader", 116, "stammer"), ("SaidOnce$SchoolReader", 118, "knows"), ("SaidOnce$SchoolReader", 66, "follow"), ("SaidOnce$SchoolReader", 74, "said"), ("SaidOnce$SchoolReader", 82, "absent"), ("SaidOnce$SchoolReader", 87, "loud"), ("SaidOnce", 86, "the text of the school is wrong"), ("SaidOnce", 102, "the school has all its texts"), ("SaidOnce", 114, "the text of the law is wrong"), ("SaidOnce", 419, "there is no such thing"), ("SaidOnce", 148, "of a thing there is no such number"), ("SaidOnce", 424, "there is no such person"), ("SaidOnce", 186, "of a person there is no such number"), ("SaidOnce", 188, "of a rule there is no such number"), ("SaidOnce", 426, "both are one"), ("SaidOnce", 422, "there is no such wording"), ("SaidOnce", 237, "this cannot be said"), ("SaidOnce", 428, "a term has not so many sayings"), ("SaidOnce", 291, "the tape has not a byte for each person"), ("SaidOnce", 299, "a byte of the tape is no thing"), ("SaidOnce", 376, "of a row of the log there is no such number"), ("SaidOnceModel", 167, "thing"), ("SaidOnceModel", 172, "person"), ("SaidOnceModel", 144, "ear"), ("SaidOnceModel", 150, "stammer"), ("SaidOnceModel", 152, "knows"), ("SaidOnceModel", 177, "follow"), ("SaidOnceModel", 182, "said"), ("SaidOnceModel", 187, "absent"), ("SaidOnceModel", 189, "loud"), ("SaidOnceModel", 237, "as"), ("SaidOnceModel", 239, "far"), ("SaidOnceModel", 241, "near"), ("SaidOnceModel", 243, "if"), ("SaidOnceModel", 220, "not"), ("SaidOnceModel", 225, "known"), ("SaidOnceModel", 198, "wording"), ("SaidOnceModel", 200, "who"), ("SaidOnceModel", 202, "whom"), ("SaidOnceModel", 204, "apart"), ("SaidOnceModel", 206, "day"), ("SaidOnceModel", 230, "and"), ("SaidOnceModel", 235, "or")]
def SBY : List (List Int32) := [[102, 97, 114], [110, 101, 97, 114], [97, 115], [105, 102], [110, 111, 116], [107, 110, 111, 119, 110], [116, 104, 105, 110, 103], [119, 111, 114, 100, 105, 110, 103], [119, 104, 111], [119, 104, 111, 109], [97, 112, 97, 114, 116], [101, 97, 114], [100, 97, 121], [97, 110, 100], [111, 114], [116, 104, 105, 110, 103], [112, 101, 114, 115, 111, 110], [101, 97, 114], [115, 116, 97, 109, 109, 101, 114], [107, 110, 111, 119, 115], [102, 111, 108, 108, 111, 119], [115, 97, 105, 100], [97, 98, 115, 101, 110, 116], [108, 111, 117, 100], [116, 104, 101, 32, 116, 101, 120, 116, 32, 111, 102, 32, 116, 104, 101, 32, 115, 99, 104, 111, 111, 108, 32, 105, 115, 32, 119, 114, 111, 110, 103], [116, 104, 101, 32, 115, 99, 104, 111, 111, 108, 32, 104, 97, 115, 32, 97, 108, 108, 32, 105, 116, 115, 32, 116, 101, 120, 116, 115], [116, 104, 101, 32, 116, 101, 120, 116, 32, 111, 102, 32, 116, 104, 101, 32, 108, 97, 119, 32, 105, 115, 32, 119, 114, 111, 110, 103], [116, 104, 101, 114, 101, 32, 105, 115, 32, 110, 111, 32, 115, 117, 99, 104, 32, 116, 104, 105, 110, 103], [111, 102, 32, 97, 32, 116, 104, 105, 110, 103, 32, 116, 104, 101, 114, 101, 32, 105, 115, 32, 110, 111, 32, 115, 117, 99, 104, 32, 110, 117, 109, 98, 101, 114], [116, 104, 101, 114, 101, 32, 105, 115, 32, 110, 111, 32, 115, 117, 99, 104, 32, 112, 101, 114, 115, 111, 110], [111, 102, 32, 97, 32, 112, 101, 114, 115, 111, 110, 32, 116, 104, 101, 114, 101, 32, 105, 115, 32, 110, 111, 32, 115, 117, 99, 104, 32, 110, 117, 109, 98, 101, 114], [111, 102, 32, 97, 32, 114, 117, 108, 101, 32, 116, 104, 101, 114, 101, 32, 105, 115, 32, 110, 111, 32, 115, 117, 99, 104, 32, 110, 117, 109, 98, 101, 114], [98, 111, 116, 104, 32, 97, 114, 101, 32, 111, 110, 101], [116, 104, 101, 114, 101, 32, 105, 115, 32, 110, 111, 32, 115, 117, 99, 104, 32, 119, 111, 114, 100, 105, 110, 103], [116, 104, 105, 115, 32, 99, 97, 110, 110, 111, 116, 32, 98, 101, 32, 115, 97, 105, 100], [97, 32, 116, 101, 114, 109, 32, 104, 97, 115, 32, 110, 111, 116, 32, 115, 111, 32, 109, 97, 110, 121, 32, 115, 97, 121, 105, 110, 103, 115], [116, 104, 101, 32, 116, 97, 112, 101, 32, 104, 97, 115, 32, 110, 111, 116, 32, 97, 32, 98, 121, 116, 101, 32, 102, 111, 114, 32, 101, 97, 99, 104, 32, 112, 101, 114, 115, 111, 110], [97, 32, 98, 121, 116, 101, 32, 111, 102, 32, 116, 104, 101, 32, 116, 97, 112, 101, 32, 105, 115, 32, 110, 111, 32, 116, 104, 105, 110, 103], [111, 102, 32, 97, 32, 114, 111, 119, 32, 111, 102, 32, 116, 104, 101, 32, 108, 111, 103, 32, 116, 104, 101, 114, 101, 32, 105, 115, 32, 110, 111, 32, 115, 117, 99, 104, 32, 110, 117, 109, 98, 101, 114], [116, 104, 105, 110, 103], [112, 101, 114, 115, 111, 110], [101, 97, 114], [115, 116, 97, 109, 109, 101, 114], [107, 110, 111, 119, 115], [102, 111, 108, 108, 111, 119], [115, 97, 105, 100], [97, 98, 115, 101, 110, 116], [108, 111, 117, 100], [97, 115], [102, 97, 114], [110, 101, 97, 114], [105, 102], [110, 111, 116], [107, 110, 111, 119, 110], [119, 111, 114, 100, 105, 110, 103], [119, 104, 111], [119, 104, 111, 109], [97, 112, 97, 114, 116], [100, 97, 121], [97, 110, 100], [111, 114]]
def EN (e : Nat) : String := match e with | 0 => "java/lang/IllegalArgumentException" | 1 => "java/lang/UnsupportedOperationException" | 2 => "java/lang/IndexOutOfBoundsException" | 3 => "java/util/NoSuchElementException" | _ => "java/lang/IllegalStateException"
