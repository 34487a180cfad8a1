/-! methods, the judgement Wm, locals -/
abbrev MI : Type := MethodName × ByteArray × Nat × Option FieldType × List (Nat × Nat × Nat × Nat) × Nat × Nat × Nat
def miY (mi : MI) : MethodName := mi.1
def miC (mi : MI) : ByteArray := mi.2.1
def miN (mi : MI) : Nat := mi.2.2.1
def miT (mi : MI) : Option FieldType := mi.2.2.2.1
def miH (mi : MI) : List (Nat × Nat × Nat × Nat) := mi.2.2.2.2.1
def miD (mi : MI) : Nat := mi.2.2.2.2.2.1
def miK (mi : MI) : Nat := mi.2.2.2.2.2.2.1
def miS (mi : MI) : Nat := mi.2.2.2.2.2.2.2
abbrev Out : Type := Option Value ⊕ Nat
def rm (mi : MI) (dx : Nat) : Room := { frames := miD mi + dx, cells := miK mi, slots := miS mi, locals := 100 * (miD mi + dx) }
def Ctx (g : Gl) (mi : MI) (p : Program) (s : State) (m : MethodId) (args : Array Value) (meth : Method) (c : Code) : Prop :=
  p.tables.exec = Jvm.exec ∧ c.code = miC mi ∧ c.maxLocals = miN mi ∧ meth.sig.returnType = miT mi ∧ meth.locks = false ∧ s.vm.findClass (miY mi).cls = some m.cls ∧ (∀ w ∈ TB, w.before args s = true) ∧ c.exceptionTable.toList = tableOf (miH mi) ∧ EnvS g s
abbrev QT : Type := List Frame → Array Value → State → State → Prop
def Wm (g : Gl) (mi : MI) (R : Room) (Q : QT) (nc ns pc : Nat) (ls : List (Nat × Value)) (st : List Value) (μ : Mem) : Prop :=
  ∀ (p : Program) (e : Env) (s : State) (m : MethodId) (args : Array Value) (below : List Frame) (meth : Method) (c : Code), Ctx g mi p s m args meth c →
    ∀ (H : Heap) (locs : List Loc) (L : Array Slot), Rep g μ H → va_S (gP g) s.heap H locs → lv_has L (miN mi) (tl g ls) →
      W p (gl g) e R s m args below meth c H locs nc ns (Q below args s) (F0 m pc L (st.map (tv g)))
def lk : List (Nat × Value) → Nat → Option Value
  | [], _ => none
  | q :: t, i => match Nat.beq q.1 i with
    | true => some q.2
    | false => lk t i
def lput (ls : List (Nat × Value)) (i : Nat) (v : Value) : List (Nat × Value) :=
  ls.filter (fun q => Nat.ble (q.1 + q.2.category) i) ++ (i, v) :: ls.filter (fun q => Nat.ble (i + v.category) q.1)
def lpick (ls : List (Nat × Value)) (ks : List Nat) : List (Nat × Value) := ls.filter (fun q => ks.any (Nat.beq q.1))
theorem lk_mem {ls : List (Nat × Value)} {i : Nat} {v : Value} (h : lk ls i = some v) : (i, v) ∈ ls := by
  induction ls with
  | nil => cases h
  | cons q t ih =>
    unfold lk at h
    cases hb : Nat.beq q.1 i with
    | true =>
      rw [hb] at h
      have : q.1 = i := Nat.eq_of_beq_eq_true hb
      have h2 : q.2 = v := Option.some.inj h
      rw [← this, ← h2]
      exact List.mem_cons_self
    | false =>
      rw [hb] at h
      exact List.mem_cons_of_mem _ (ih h)
theorem lk_at {g : Gl} {L : Array Slot} {n : Nat} {ls : List (Nat × Value)} {i : Nat} {v : Value} (hl : lv_has L n (tl g ls)) (h : lk ls i = some v) : L[i]? = some (.val (tv g v)) :=
  hl.2.2 (i, tv g v) (List.mem_map.mpr ⟨(i, v), lk_mem h, rfl⟩)
theorem lv_weak {L : Array Slot} {n : Nat} {l l' : List (Nat × Value)} (h : lv_has L n l) (hs : ∀ q ∈ l', q ∈ l) : lv_has L n l' := ⟨h.1, h.2.1, fun q hq => h.2.2 q (hs q hq)⟩
theorem Wm.pick {g : Gl} {mi : MI} {R : Room} {Q : QT} {nc ns pc : Nat} {ls ls' : List (Nat × Value)} {st : List Value} {μ : Mem} (hs : ∀ q ∈ ls', q ∈ ls) (h : Wm g mi R Q nc ns pc ls' st μ) : Wm g mi R Q nc ns pc ls st μ := by
  intro p e s m args below meth c C H locs L hR hS hl
  refine h p e s m args below meth c C H locs L hR hS (lv_weak hl fun q hq => ?_)
  obtain ⟨r, hr, rfl⟩ := List.mem_map.mp hq
  exact List.mem_map.mpr ⟨r, hs r hr, rfl⟩
theorem lpick_sub {ls : List (Nat × Value)} {ks : List Nat} : ∀ q ∈ lpick ls ks, q ∈ ls := fun _ h => (List.mem_filter.mp h).1
theorem cat_pos (v : Value) : 1 ≤ v.category := by cases v <;> simp [Value.category]
theorem lput_sub1 {g : Gl} {ls : List (Nat × Value)} {i : Nat} {v : Value} (hc : v.category = 1) : ∀ q ∈ tl g (lput ls i v), q ∈ (i, tv g v) :: (tl g ls).filter (fun q => !(q.1 == i) && !(q.1 + 1 == i && q.2.category == 2)) := by
  intro q hq
  obtain ⟨r, hr, rfl⟩ := List.mem_map.mp hq
  rcases List.mem_append.mp hr with h | h
  · obtain ⟨h1, h2⟩ := List.mem_filter.mp h
    have h3 := Nat.le_of_ble_eq_true h2
    have := cat_pos r.2
    refine List.mem_cons_of_mem _ (List.mem_filter.mpr ⟨List.mem_map.mpr ⟨r, h1, rfl⟩, ?_⟩)
    simp only [tv_cat, Bool.and_eq_true, Bool.not_eq_true', beq_eq_false_iff_ne, Bool.and_eq_false_iff]
    refine ⟨by omega, ?_⟩
    by_cases hz : r.2.category = 2
    · left; omega
    · right; exact hz
  · rcases List.mem_cons.mp h with rfl | h
    · exact List.mem_cons_self
    · obtain ⟨h1, h2⟩ := List.mem_filter.mp h
      have h3 := Nat.le_of_ble_eq_true h2
      refine List.mem_cons_of_mem _ (List.mem_filter.mpr ⟨List.mem_map.mpr ⟨r, h1, rfl⟩, ?_⟩)
      simp only [tv_cat, Bool.and_eq_true, Bool.not_eq_true', beq_eq_false_iff_ne, Bool.and_eq_false_iff]
      exact ⟨by omega, Or.inl (by omega)⟩
theorem lput_sub2 {g : Gl} {ls : List (Nat × Value)} {i : Nat} {v : Value} (hc : v.category = 2) : ∀ q ∈ tl g (lput ls i v), q ∈ (i, tv g v) :: (tl g ls).filter (fun q => !(q.1 == i) && (!(q.1 == i + 1) && !(q.1 + 1 == i && q.2.category == 2))) := by
  intro q hq
  obtain ⟨r, hr, rfl⟩ := List.mem_map.mp hq
  rcases List.mem_append.mp hr with h | h
  · obtain ⟨h1, h2⟩ := List.mem_filter.mp h
    have h3 := Nat.le_of_ble_eq_true h2
    have := cat_pos r.2
    refine List.mem_cons_of_mem _ (List.mem_filter.mpr ⟨List.mem_map.mpr ⟨r, h1, rfl⟩, ?_⟩)
    simp only [tv_cat, Bool.and_eq_true, Bool.not_eq_true', beq_eq_false_iff_ne, Bool.and_eq_false_iff]
    refine ⟨by omega, by omega, ?_⟩
    by_cases hz : r.2.category = 2
    · left; omega
    · right; exact hz
  · rcases List.mem_cons.mp h with rfl | h
    · exact List.mem_cons_self
    · obtain ⟨h1, h2⟩ := List.mem_filter.mp h
      have h3 := Nat.le_of_ble_eq_true h2
      refine List.mem_cons_of_mem _ (List.mem_filter.mpr ⟨List.mem_map.mpr ⟨r, h1, rfl⟩, ?_⟩)
      simp only [tv_cat, Bool.and_eq_true, Bool.not_eq_true', beq_eq_false_iff_ne, Bool.and_eq_false_iff]
      exact ⟨by omega, by omega, Or.inl (by omega)⟩
def iv : Int → Int32
  | .ofNat n => Int32.ofNat n
  | .negSucc n => -(Int32.ofNat (n + 1))
theorem iv_ofInt (n : Int) : Int32.ofInt n = iv n := by
  cases n with
  | ofNat n => exact Int32.ofInt_eq_ofNat
  | negSucc n =>
    show Int32.ofInt (-(↑(n + 1) : Int)) = _
    rw [Int32.ofInt_neg]; rfl
/-- a pc plus a jump -/
def jt (pc : Nat) (off : Int) : Nat := ((pc : Int) + off).toNat
