/-! the computation of verification conditions -/
def fnd {α : Type} : List (Nat × α) → Nat → Option α
  | [], _ => none
  | q :: t, i => match Nat.beq q.1 i with
    | true => some q.2
    | false => fnd t i
theorem fnd_mem {α : Type} {l : List (Nat × α)} {i : Nat} {a : α} (h : fnd l i = some a) : (i, a) ∈ l := by
  induction l with
  | nil => cases h
  | cons q t ih =>
    unfold fnd at h
    cases hb : Nat.beq q.1 i with
    | true =>
      rw [hb] at h
      rw [← Nat.eq_of_beq_eq_true hb, ← Option.some.inj h]
      exact List.mem_cons_self
    | false =>
      rw [hb] at h
      exact List.mem_cons_of_mem _ (ih h)
abbrev Lo : Type := List (Nat × Value)
abbrev Kt : Type := Nat → Nat → Nat → Lo → List Value → Mem → Prop
/-- callees: the method, whether it is of a recursive group, its number of arguments, the words' places; of an inherited one its name, its owner -/
abbrev Mth : Type := MI × Bool × Nat × List Nat
abbrev MthU : Type := MI × Bool × Nat × List Nat × MethodName × String × Nat
abbrev Pool : Type := List (Nat × Nat × Nat × Nat × Nat × Nat) × List (Nat × Mth) × List (Nat × Mth) × List (Nat × Mth) × List (Nat × MthU) × List (Nat × Int32 × Nat) × List (Nat × Int64 × Nat) × List (Nat × Nat) × List (Nat × Nat × Nat × Nat × Nat) × List (Nat × Nat × List Nat) × List (Nat × Nat × Nat) × List (Nat × Nat × Nat) × List (Nat × Mth)
def pF (P : Pool) := P.1
def pV (P : Pool) := P.2.1
def pS (P : Pool) := P.2.2.1
def pN (P : Pool) := P.2.2.2.1
def pU (P : Pool) := P.2.2.2.2.1
def pC (P : Pool) := P.2.2.2.2.2.1
def pJ (P : Pool) := P.2.2.2.2.2.2.1
def pT (P : Pool) := P.2.2.2.2.2.2.2.1
def pA (P : Pool) := P.2.2.2.2.2.2.2.2.1
def pM (P : Pool) := P.2.2.2.2.2.2.2.2.2.1
/-- statics (0 COMPACT_STRINGS, 1 the formatter), a text's fields (0 value, 1 coder), calls on a text -/
def pG (P : Pool) := P.2.2.2.2.2.2.2.2.2.2.1
def pQ (P : Pool) := P.2.2.2.2.2.2.2.2.2.2.2.1
def pW (P : Pool) := P.2.2.2.2.2.2.2.2.2.2.2.2
def isS (k : Nat) : Bool := Nat.ble 1000 k && Nat.blt k 1061
theorem isS_ok {k : Nat} (h : isS k = true) : 1000 ≤ k ∧ k < 1061 := by
  simp only [isS, Bool.and_eq_true] at h; exact ⟨Nat.le_of_ble_eq_true h.1, Nat.le_of_ble_eq_true h.2⟩
theorem isS_of {k : Nat} (h1 : 1000 ≤ k) (h2 : k < 1061) : isS k = true := by
  simp only [isS, Bool.and_eq_true]; exact ⟨Nat.ble_eq_true_of_le h1, Nat.ble_eq_true_of_le h2⟩
def mabs (x : Int32) : Int32 := if 0 ≤ x then x else 0 - x
def mmax (x y : Int32) : Int32 := if x < y then y else x
def mmin (x y : Int32) : Int32 := if y < x then y else x
def mathB (own : String) (q : Nat × Nat × List Nat) : Bool := tbAt (q.2.2.getD 3 0, .initialized "java/lang/Math") && (match q.2.1 with
  | 0 => tbAt (q.2.2.getD 0 0, .methodLink own q.1 Lib.Math.abs.name) && tbAt (q.2.2.getD 1 0, .static Lib.Math.abs.name) && tbAt (q.2.2.getD 2 0, .code Lib.Math.abs.name Lib.Math.abs.code 1 (some .int))
  | 1 => tbAt (q.2.2.getD 0 0, .methodLink own q.1 Lib.Math.max.name) && tbAt (q.2.2.getD 1 0, .static Lib.Math.max.name) && tbAt (q.2.2.getD 2 0, .code Lib.Math.max.name Lib.Math.max.code 2 (some .int))
  | _ => tbAt (q.2.2.getD 0 0, .methodLink own q.1 Lib.Math.min.name) && tbAt (q.2.2.getD 1 0, .static Lib.Math.min.name) && tbAt (q.2.2.getD 2 0, .code Lib.Math.min.name Lib.Math.min.code 2 (some .int)))
/-- throws: at a pc, the class's index, the text's index, its place, the constructor's index, the kind, whether wide; handlers: from, to, handler, its class's index, kind, local, length -/
abbrev Thr : Type := Nat × Nat × Nat × Nat × Nat × Bool
abbrev Hdl : Type := Nat × Nat × Nat × Nat × Nat × Nat × Nat
abbrev MT : Type := List (Nat × Instr × Nat) × Pool × List (Nat × Thr) × List Hdl
def onI (f : Int32 → Mem → Prop) (x : Nat → Mem → Prop) : Out → Mem → Prop
  | .inl (some (.int r)), μ => f r μ
  | .inr e, μ => x e μ
  | _, _ => False
def onL (f : Int64 → Mem → Prop) (x : Nat → Mem → Prop) : Out → Mem → Prop
  | .inl (some (.long r)), μ => f r μ
  | .inr e, μ => x e μ
  | _, _ => False
def onV (f : Mem → Prop) (x : Nat → Mem → Prop) : Out → Mem → Prop
  | .inl none, μ => f μ
  | .inr e, μ => x e μ
  | _, _ => False
def onR (t : Option FieldType) (f : List Value → Mem → Prop) (x : Nat → Mem → Prop) : Out → Mem → Prop := match t with
  | none => onV (f []) x
  | some .long => onL (fun r => f [.long r]) x
  | some _ => onI (fun r => f [.int r]) x
def hx (K : Nat → Nat → Nat → Prop) (pc e : Nat) : List Hdl → Prop
  | [] => False
  | (a, b, hp, _, e', n, ln) :: t => match Nat.beq e' e with
    | true => match Nat.ble a pc && Nat.blt pc b with
      | true => K hp n ln
      | false => False
    | false => hx K pc e t
def spl : Nat → List Value → List Value → (List Value → List Value → Prop) → Prop
  | 0, st, acc, f => f acc st
  | n + 1, v :: st, acc, f => spl n st (v :: acc) f
  | _ + 1, [], _, _ => False
theorem spl_ok : ∀ {n : Nat} {st acc : List Value} {f : List Value → List Value → Prop}, spl n st acc f → ∃ As t, f As t ∧ As.reverse ++ t = acc.reverse ++ st ∧ As.length = n + acc.length := by
  intro n
  induction n with
  | zero => intro st acc f h; exact ⟨acc, st, h, rfl, by omega⟩
  | succ n ih =>
    intro st acc f h
    cases st with
    | nil => exact h.elim
    | cons v st =>
      obtain ⟨As, t, h1, h2, h3⟩ := ih h
      exact ⟨As, t, h1, by rw [h2]; simp, by rw [h3]; simp; omega⟩
def isK (k c : Nat) (X : Prop) : Prop := match Nat.blt k NC && Nat.beq (sh k).1 c with
  | true => X
  | false => False
theorem isK_ok {k c : Nat} {X : Prop} (h : isK k c X) : k < NC ∧ (sh k).1 = c ∧ X := by
  unfold isK at h
  cases hb : Nat.blt k NC && Nat.beq (sh k).1 c with
  | false => rw [hb] at h; exact h.elim
  | true =>
    rw [hb] at h
    simp only [Bool.and_eq_true] at hb
    exact ⟨Nat.le_of_ble_eq_true hb.1, Nat.eq_of_beq_eq_true hb.2, h⟩
theorem isK_of {k c : Nat} {X : Prop} (h1 : k < NC) (h2 : (sh k).1 = c) (h : X) : isK k c X := by
  unfold isK
  have : (Nat.blt k NC && Nat.beq (sh k).1 c) = true := by
    rw [Bool.and_eq_true]; exact ⟨Nat.ble_eq_true_of_le h1, by rw [h2]; exact Nat.beq_refl c⟩
  rw [this]; exact h
def isT (b : Bool) (X : Prop) : Prop := match b with
  | true => X
  | false => False
theorem isT_ok {b : Bool} {X : Prop} (h : isT b X) : b = true ∧ X := by cases b with
  | true => exact ⟨rfl, h⟩
  | false => exact h.elim
def kb (k : Nat) : Nat := k - 2000
theorem kb_add {k : Nat} (h : Nat.ble 3000 k = true) : k = kb k + 2000 := (Nat.sub_add_cancel (Nat.le_trans (Nat.le_of_ble_eq_true rfl) (Nat.le_of_ble_eq_true h))).symm
def if2 (b : Bool) (X Y : Prop) : Prop := match b with
  | true => X
  | false => Y
theorem if2_ok {b : Bool} {X Y : Prop} (h : if2 b X Y) : (b = true ∧ X) ∨ (b = false ∧ Y) := by
  cases b with
  | true => exact Or.inl ⟨rfl, h⟩
  | false => exact Or.inr ⟨rfl, h⟩
def rmB (R : Room) (mj : MI) (nc ns : Nat) : Bool := Nat.ble (miD mj + 1) R.frames && Nat.ble (59 + 100 * miD mj) R.locals && Nat.ble (nc + miK mj) R.cells && Nat.ble (ns + miS mj) R.slots
def callK (R : Room) (mj : MI) (rc : Bool) (nc ns : Nat) (S : Nat → Prop) : Prop := match rc with
  | false => isT (rmB R mj nc ns) (S 0)
  | true => ∃ dx, CallR R mj dx nc ns ∧ S dx
theorem callK_ok {R : Room} {mj : MI} {rc : Bool} {nc ns : Nat} {S : Nat → Prop} (h : callK R mj rc nc ns S) : ∃ dx, CallR R mj dx nc ns ∧ S dx := by
  cases rc with
  | true => exact h
  | false =>
    obtain ⟨h1, h2⟩ := isT_ok h
    simp only [rmB, Bool.and_eq_true] at h1
    obtain ⟨⟨⟨a1, a2⟩, a3⟩, a4⟩ := h1
    exact ⟨0, ⟨Nat.le_of_ble_eq_true a1, Nat.le_of_ble_eq_true a2, Nat.le_of_ble_eq_true a3, Nat.le_of_ble_eq_true a4⟩, h2⟩
def catS : List Value → Nat
  | [] => 0
  | v :: t => v.category + catS t
theorem catS_eq (st : List Value) : (st.map fun v => v.category).sum = catS st := by
  induction st with
  | nil => rfl
  | cons v t ih => rw [List.map_cons, List.sum_cons, ih]; rfl
/-- an int's return, as its type wants it -/
def rtI (t : Option FieldType) (v : Int32) (X : Prop) : Prop := match t with
  | some .int => X
  | some .boolean => (v = 0 ∨ v = 1) ∧ X
  | some ty => narrow ty (.int v) = .int v ∧ X
  | none => False
theorem rtI_ok {t : Option FieldType} {v : Int32} {X : Prop} (h : rtI t v X) : ∃ ty, t = some ty ∧ narrow ty (.int v) = .int v ∧ X := by
  unfold rtI at h
  split at h
  · exact ⟨_, rfl, rfl, h⟩
  · refine ⟨_, rfl, ?_, h.2⟩
    rcases h.1 with rfl | rfl <;> decide +kernel
  · exact ⟨_, rfl, h.1, h.2⟩
  · exact h.elim
def vI : Option Value → (Int32 → Prop) → Prop
  | some (.int x), f => f x
  | _, _ => False
def vL : Option Value → (Int64 → Prop) → Prop
  | some (.long x), f => f x
  | _, _ => False
def vA : Option Value → (Nat → Prop) → Prop
  | some (.ref x), f => f x
  | _, _ => False
def s1 : List Value → (Int32 → List Value → Prop) → Prop
  | .int x :: r, f => f x r
  | _, _ => False
def s2 : List Value → (Int32 → Int32 → List Value → Prop) → Prop
  | .int y :: .int x :: r, f => f x y r
  | _, _ => False
def j1 : List Value → (Int64 → List Value → Prop) → Prop
  | .long x :: r, f => f x r
  | _, _ => False
def j2 : List Value → (Int64 → Int64 → List Value → Prop) → Prop
  | .long y :: .long x :: r, f => f x y r
  | _, _ => False
def ji : List Value → (Int64 → Int32 → List Value → Prop) → Prop
  | .int y :: .long x :: r, f => f x y r
  | _, _ => False
def a1 : List Value → (Nat → List Value → Prop) → Prop
  | .ref k :: r, f => f k r
  | _, _ => False
def ai : List Value → (Nat → Int32 → List Value → Prop) → Prop
  | .int i :: .ref k :: r, f => f k i r
  | _, _ => False
def aii : List Value → (Nat → Int32 → Int32 → List Value → Prop) → Prop
  | .int x :: .int i :: .ref k :: r, f => f k i x r
  | _, _ => False
def aij : List Value → (Nat → Int32 → Int64 → List Value → Prop) → Prop
  | .long x :: .int i :: .ref k :: r, f => f k i x r
  | _, _ => False
def aia : List Value → (Nat → Int32 → Nat → List Value → Prop) → Prop
  | .ref v :: .int i :: .ref k :: r, f => f k i v r
  | _, _ => False
def c1 : List Value → (Value → List Value → Prop) → Prop
  | v :: r, f => isT (Nat.beq v.category 1) (f v r)
  | _, _ => False
def cp5 : List Value → (Nat → Int32 → Nat → Int32 → Int32 → Prop) → Prop
  | [.int n, .int dp, .ref k1, .int sp, .ref k0], f => f k0 sp k1 dp n
  | _, _ => False
/-- a field written -/
def putF (μ : Mem) (k j t : Nat) (v : Value) (X : Mem → Prop) : Prop := match t, v with
  | 0, .int x => X (sI μ k j x)
  | 3, .int x => (x = 0 ∨ x = 1) ∧ X (sI μ k j x)
  | 1, .long x => X (sL μ k j x)
  | _, _ => False
