/-! the abstract machine: memory of the static object graph, frames, the judgement Wm -/
abbrev Mem : Type := (Nat → Nat) × (Nat → Nat → Int32) × (Nat → Nat → Int64)
def mP (μ : Mem) : Nat → Nat := μ.1
def mI (μ : Mem) : Nat → Nat → Int32 := μ.2.1
def mL (μ : Mem) : Nat → Nat → Int64 := μ.2.2
def u2 {α : Type} (f : Nat → Nat → α) (k j : Nat) (v : α) : Nat → Nat → α := fun a b => if a = k then (if b = j then v else f a b) else f a b
def sI (μ : Mem) (k j : Nat) (v : Int32) : Mem := (μ.1, u2 μ.2.1 k j v, μ.2.2)
def sL (μ : Mem) (k j : Nat) (v : Int64) : Mem := (μ.1, μ.2.1, u2 μ.2.2 k j v)
def sP (μ : Mem) (j v : Nat) : Mem := (va_up μ.1 j v, μ.2.1, μ.2.2)
/-- a row copied -/
def sRI (μ : Mem) (k : Nat) (f : Nat → Int32) : Mem := (μ.1, fun a b => if a = k then f b else μ.2.1 a b, μ.2.2)
def sRL (μ : Mem) (k : Nat) (f : Nat → Int64) : Mem := (μ.1, μ.2.1, fun a b => if a = k then f b else μ.2.2 a b)
abbrev Gl : Type := Launch × va_G × (Nat → ClassId) × (Nat → Nat) × (Nat → Nat) × (Nat → Nat) × Nat × Nat × Nat × (Nat → Int32) × Option Nat
def gl (g : Gl) : Launch := g.1
def gD (g : Gl) : va_G := g.2.1
def gA (g : Gl) : Nat → ClassId := g.2.2.1
/-- where the cells of the graph lie -/
def ga (g : Gl) : Nat → Nat := g.2.2.2.1
def gs (g : Gl) : Nat → Nat := g.2.2.2.2.1
def gv (g : Gl) : Nat → Nat := g.2.2.2.2.2.1
def gb (g : Gl) : Nat := g.2.2.2.2.2.2.1
def gB (g : Gl) : Nat := g.2.2.2.2.2.2.2.1
def gN (g : Gl) : Nat := g.2.2.2.2.2.2.2.2.1
def gX (g : Gl) : Nat → Int32 := g.2.2.2.2.2.2.2.2.2.1
def gZ (g : Gl) : Option Nat := g.2.2.2.2.2.2.2.2.2.2
def gP (g : Gl) : Nat → Prop := fun q => gb g ≤ q
/-- an id's address: a cell, a text (1000 and on), the script (2000), a text's bytes (3000 and on), the JDK's formatter (4000) -/
def gr (g : Gl) (k : Nat) : Nat := if k < 1000 then ga g k else if k < 2000 then gs g (k - 1000) else if k < 3000 then gB g else if k < 4000 then gv g (k - 3000) else (gZ g).getD 0
def szv (g : Gl) : Value := match gZ g with
  | none => .null
  | some _ => .ref 4000
def szT (g : Gl) : Value := match gZ g with
  | none => .null
  | some t => .ref t
def tv (g : Gl) : Value → Value
  | .ref k => .ref (gr g k)
  | v => v
def tl (g : Gl) (ls : List (Nat × Value)) : List (Nat × Value) := ls.map fun q => (q.1, tv g q.2)
theorem tv_szv (g : Gl) : tv g (szv g) = szT g := by
  unfold szv szT
  cases h : gZ g with
  | none => rfl
  | some t => show Value.ref (gr g 4000) = _; simp [gr, h]
theorem tv_cat (g : Gl) (v : Value) : (tv g v).category = v.category := by cases v <;> rfl
def fv (g : Gl) (μ : Mem) (k j t : Nat) : Value := if t = 1 then .long (mL μ k j) else if t = 4 then va_rf ((rt k j).map (ga g)) else .int (mI μ k j)
def cE (g : Gl) (μ : Mem) (k : Nat) : va_E :=
  if (sh k).1 < 100 then .inr ((sh k).1, (List.range (sh k).2).map fun j => fv g μ k j (ftc (sh k).1 j))
  else if (sh k).1 = 101 then .inl (gA g 1, (sh k).2, .inr (.inl (mL μ k)))
  else if (sh k).1 = 104 then .inl (gA g 4, (sh k).2, .inr (.inr (.inr (.inr fun i => some (ga g (mP μ i))))))
  else .inl (gA g ((sh k).1 - 100), (sh k).2, .inl (mI μ k))
def wd (g : Gl) (μ : Mem) : va_W := (List.range NC).map fun k => (ga g k, cE g μ k)
def Rep (g : Gl) (μ : Mem) (H : Heap) : Prop := va_P (gD g) cls (wd g μ) H
def tysG (g : Gl) : List (ClassId × FieldType) := [(gA g 0, .int), (gA g 1, .long), (gA g 2, .byte), (gA g 3, .boolean), (gA g 4, .object "SaidOnce$State")]
def strOK (g : Gl) (j : Nat) (s : State) : Prop := vk_R (STR.getD j ("", 0, "")).1 (STR.getD j ("", 0, "")).2.1 (STR.getD j ("", 0, "")).2.2 (gs g j) s ∧
  va_O "java/lang/String" (gs g j) (gP g) s s.heap ∧ va_OF "java/lang/String" "coder" "B" (.int 0) (gs g j) (gP g) s s.heap ∧ va_OF "java/lang/String" "value" "[B" (.ref (gv g j)) (gs g j) (gP g) s s.heap ∧
  va_T .byte (gv g j) (SBY.getD j []).length (fun i => .int ((SBY.getD j []).getD i 0)) (gP g) s s.heap
def EnvS (g : Gl) (s : State) : Prop := va_K (gD g) cls (tysG g) s ∧ (∀ w ∈ NW, va_Nw w s) ∧ (∀ j, j < 61 → strOK g j s) ∧
  vx_Zq Bundle.tN "UNASSIGNED_STACK" Bundle.steD (gP g) s s.heap ∧ vx_Zq Bundle.tN "SUPPRESSED_SENTINEL" Bundle.listD (gP g) s s.heap ∧ va_Z "java/lang/String" "COMPACT_STRINGS" "Z" (.int 1) (gP g) s s.heap ∧
  gb g ≤ s.heap.size ∧ (gl g).stackTraces = false ∧ va_X (gB g) (gN g) (gX g) s s.heap ∧ gB g < gb g ∧ (∀ k, k < NC → gb g ≤ ga g k) ∧ (∀ i j, i < NC → j < NC → ga g i = ga g j → i = j) ∧
  (∀ a b, a < 5 → b < 5 → a ≠ b → va_Nc (EN a) (EN b) s) ∧ va_Z "jdk/internal/util/Preconditions" "SIOOBE_FORMATTER" "Ljava/util/function/BiFunction;" (szT g) (gP g) s s.heap
theorem nw_warm {w : Cond} (hw : isNw w = true) {s U : State} (hW : s.WarmedH U.vm) (h : va_Nw w s) : va_Nw w U := by
  cases w <;> first | exact va_Nw.warmF hW h | exact va_Nw.warmM hW h | exact va_Nw.warmD hW h | exact va_Nw.warmC hW h | exact absurd hw (by simp [isNw])
theorem EnvS.move {g : Gl} {s U : State} {locs : List Loc} (h : EnvS g s) (hW : s.WarmedH U.vm) (hS : va_S (gP g) s.heap U.heap locs) : EnvS g U := by
  obtain ⟨h1, h2, h3, h4, h5, h6, h7, h8, h9, h10, h11, h12, h13, h14⟩ := h
  have hq : ∀ a : Nat, a < s.heap.size → ¬ gP g a → U.heap[a]? = s.heap[a]? := hS.2.1
  refine ⟨h1.moved hW.alike, fun w hw => nw_warm (List.mem_filter.mp hw).2 hW (h2 w hw), fun j hj => ?_, (h4.moved hW.alike).kept hq, (h5.moved hW.alike).kept hq, (h6.moved hW.alike).kept hq, Nat.le_trans h7 hS.1, h8, ?_, h10, h11, h12, fun a b ha hb hn => (h13 a b ha hb hn).moved hW.alike, (h14.moved hW.alike).kept hq⟩
  · obtain ⟨k1, k2, k3, k4, k5⟩ := h3 j hj
    exact ⟨k1.warm hW, (k2.moved hW.alike).kept hq, (k3.moved hW.alike).kept hq, (k4.moved hW.alike).kept hq, (k5.moved hW.alike).kept hq⟩
  · exact (h9.moved hW.alike).kept (hq _ (Nat.lt_of_lt_of_le h10 h7) (Nat.not_le.mpr h10))
