/-! one step, and its soundness -/
def mF {α : Type} : Option α → (α → Prop) → Prop
  | some a, f => f a
  | none, _ => False
theorem mF_ok {α : Type} {o : Option α} {f : α → Prop} (h : mF o f) : ∃ a, o = some a ∧ f a := by
  cases o with
  | some a => exact ⟨a, rfl, h⟩
  | none => exact h.elim
def c12 : List Value → (Value → List Value → Prop) → Prop
  | v :: r, f => f v r
  | _, _ => False
theorem c12_ok {st : List Value} {f : Value → List Value → Prop} (h : c12 st f) : ∃ v r, st = v :: r ∧ f v r := by
  cases st with
  | nil => exact h.elim
  | cons v r => exact ⟨v, r, rfl, h⟩
theorem c1_ok {st : List Value} {f : Value → List Value → Prop} (h : c1 st f) : ∃ v r, st = v :: r ∧ v.category = 1 ∧ f v r := by
  cases st with
  | nil => exact h.elim
  | cons v r => obtain ⟨h1, h2⟩ := isT_ok h; exact ⟨v, r, rfl, Nat.eq_of_beq_eq_true h1, h2⟩
theorem s1_ok {st : List Value} {f : Int32 → List Value → Prop} (h : s1 st f) : ∃ x r, st = .int x :: r ∧ f x r := by
  unfold s1 at h
  split at h
  · exact ⟨_, _, rfl, h⟩
  · exact h.elim
theorem s2_ok {st : List Value} {f : Int32 → Int32 → List Value → Prop} (h : s2 st f) : ∃ x y r, st = .int y :: .int x :: r ∧ f x y r := by
  unfold s2 at h
  split at h
  · exact ⟨_, _, _, rfl, h⟩
  · exact h.elim
theorem j1_ok {st : List Value} {f : Int64 → List Value → Prop} (h : j1 st f) : ∃ x r, st = .long x :: r ∧ f x r := by
  unfold j1 at h
  split at h
  · exact ⟨_, _, rfl, h⟩
  · exact h.elim
theorem j2_ok {st : List Value} {f : Int64 → Int64 → List Value → Prop} (h : j2 st f) : ∃ x y r, st = .long y :: .long x :: r ∧ f x y r := by
  unfold j2 at h
  split at h
  · exact ⟨_, _, _, rfl, h⟩
  · exact h.elim
theorem ji_ok {st : List Value} {f : Int64 → Int32 → List Value → Prop} (h : ji st f) : ∃ x y r, st = .int y :: .long x :: r ∧ f x y r := by
  unfold ji at h
  split at h
  · exact ⟨_, _, _, rfl, h⟩
  · exact h.elim
theorem a1_ok {st : List Value} {f : Nat → List Value → Prop} (h : a1 st f) : ∃ x r, st = .ref x :: r ∧ f x r := by
  unfold a1 at h
  split at h
  · exact ⟨_, _, rfl, h⟩
  · exact h.elim
theorem ai_ok {st : List Value} {f : Nat → Int32 → List Value → Prop} (h : ai st f) : ∃ k i r, st = .int i :: .ref k :: r ∧ f k i r := by
  unfold ai at h
  split at h
  · exact ⟨_, _, _, rfl, h⟩
  · exact h.elim
theorem aii_ok {st : List Value} {f : Nat → Int32 → Int32 → List Value → Prop} (h : aii st f) : ∃ k i x r, st = .int x :: .int i :: .ref k :: r ∧ f k i x r := by
  unfold aii at h
  split at h
  · exact ⟨_, _, _, _, rfl, h⟩
  · exact h.elim
theorem aij_ok {st : List Value} {f : Nat → Int32 → Int64 → List Value → Prop} (h : aij st f) : ∃ k i x r, st = .long x :: .int i :: .ref k :: r ∧ f k i x r := by
  unfold aij at h
  split at h
  · exact ⟨_, _, _, _, rfl, h⟩
  · exact h.elim
theorem aia_ok {st : List Value} {f : Nat → Int32 → Nat → List Value → Prop} (h : aia st f) : ∃ k i x r, st = .ref x :: .int i :: .ref k :: r ∧ f k i x r := by
  unfold aia at h
  split at h
  · exact ⟨_, _, _, _, rfl, h⟩
  · exact h.elim
theorem cp5_ok {st : List Value} {f : Nat → Int32 → Nat → Int32 → Int32 → Prop} (h : cp5 st f) : ∃ k0 sp k1 dp n, st = [.int n, .int dp, .ref k1, .int sp, .ref k0] ∧ f k0 sp k1 dp n := by
  unfold cp5 at h
  split at h
  · exact ⟨_, _, _, _, _, rfl, h⟩
  · exact h.elim
theorem vI_ok {o : Option Value} {f : Int32 → Prop} (h : vI o f) : ∃ x, o = some (.int x) ∧ f x := by
  unfold vI at h
  split at h
  · exact ⟨_, rfl, h⟩
  · exact h.elim
theorem vL_ok {o : Option Value} {f : Int64 → Prop} (h : vL o f) : ∃ x, o = some (.long x) ∧ f x := by
  unfold vL at h
  split at h
  · exact ⟨_, rfl, h⟩
  · exact h.elim
theorem vA_ok {o : Option Value} {f : Nat → Prop} (h : vA o f) : ∃ x, o = some (.ref x) ∧ f x := by
  unfold vA at h
  split at h
  · exact ⟨_, rfl, h⟩
  · exact h.elim
theorem putF_ok {μ : Mem} {k j t : Nat} {v : Value} {X : Mem → Prop} (h : putF μ k j t v X) : ∃ μ', ((∃ x, v = .int x ∧ μ' = sI μ k j x ∧ (t = 0 ∨ t = 3 ∧ (x = 0 ∨ x = 1))) ∨ ∃ x, v = .long x ∧ μ' = sL μ k j x ∧ t = 1) ∧ X μ' := by
  unfold putF at h
  split at h
  · exact ⟨_, Or.inl ⟨_, rfl, rfl, Or.inl rfl⟩, h⟩
  · exact ⟨_, Or.inl ⟨_, rfl, rfl, Or.inr ⟨rfl, h.1⟩⟩, h.2⟩
  · exact ⟨_, Or.inr ⟨_, rfl, rfl, rfl⟩, h⟩
  · exact h.elim
def lcv (v : Fin 2) : Int64 := match v with | 0 => 0 | 1 => 1
theorem am_lconst {g : Gl} {mi : MI} {R : Room} {Q : QT} {nc ns pc : Nat} {ls : List (Nat × Value)} {st : List Value} {μ : Mem} {v : Fin 2} (hd : decode (miC mi) pc = .ok (.lconst v, 1)) (k : Wm g mi R Q nc ns (pc + 1) ls (.long (lcv v) :: st) μ) : Wm g mi R Q nc ns pc ls st μ := fun p e s m args below meth c C H locs L hR hS hl =>
  lv_lconst C.1 C.2.1 hd (by match v with | 0 => rfl | 1 => rfl) (k p e s m args below meth c C H locs L hR hS hl)
/-- a local stored, in one pass (lput goes twice through the list: what it yields grows with every store) -/
def lrest : List (Nat × Value) → Nat → List (Nat × Value)
  | [], _ => []
  | q :: t, c => match Nat.ble c q.1 with
    | true => q :: lrest t c
    | false => lrest t c
def lputq : List (Nat × Value) → Nat → Value → List (Nat × Value)
  | [], i, v => [(i, v)]
  | q :: t, i, v => match Nat.ble (q.1 + q.2.category) i with
    | true => q :: lputq t i v
    | false => (i, v) :: lrest (q :: t) (i + v.category)
theorem lrest_mem {c : Nat} {x : Nat × Value} : ∀ {ls : List (Nat × Value)}, x ∈ lrest ls c → x ∈ ls ∧ Nat.ble c x.1 = true := by
  intro ls
  induction ls with
  | nil => intro h; cases h
  | cons q t ih =>
    intro h
    unfold lrest at h
    cases hb : Nat.ble c q.1 with
    | true =>
      rw [hb] at h
      rcases List.mem_cons.mp h with rfl | h
      · exact ⟨List.mem_cons_self, hb⟩
      · exact ⟨List.mem_cons_of_mem _ (ih h).1, (ih h).2⟩
    | false =>
      rw [hb] at h
      exact ⟨List.mem_cons_of_mem _ (ih h).1, (ih h).2⟩
theorem lputq_mem {i : Nat} {v : Value} {x : Nat × Value} : ∀ {ls : List (Nat × Value)}, x ∈ lputq ls i v → x = (i, v) ∨ (x ∈ ls ∧ (Nat.ble (x.1 + x.2.category) i = true ∨ Nat.ble (i + v.category) x.1 = true)) := by
  intro ls
  induction ls with
  | nil => intro h; exact Or.inl (List.mem_singleton.mp h)
  | cons q t ih =>
    intro h
    unfold lputq at h
    cases hb : Nat.ble (q.1 + q.2.category) i with
    | true =>
      rw [hb] at h
      rcases List.mem_cons.mp h with rfl | h
      · exact Or.inr ⟨List.mem_cons_self, Or.inl hb⟩
      · rcases ih h with h | ⟨h1, h2⟩
        · exact Or.inl h
        · exact Or.inr ⟨List.mem_cons_of_mem _ h1, h2⟩
    | false =>
      rw [hb] at h
      rcases List.mem_cons.mp h with h | h
      · exact Or.inl h
      · obtain ⟨h1, h2⟩ := lrest_mem h
        exact Or.inr ⟨h1, Or.inr h2⟩
theorem lputq_sub {ls : List (Nat × Value)} {i : Nat} {v : Value} : ∀ x ∈ lputq ls i v, x ∈ lput ls i v := by
  intro x hx
  unfold lput
  rcases lputq_mem hx with rfl | ⟨h1, h2 | h2⟩
  · exact List.mem_append.mpr (Or.inr List.mem_cons_self)
  · exact List.mem_append.mpr (Or.inl (List.mem_filter.mpr ⟨h1, h2⟩))
  · exact List.mem_append.mpr (Or.inr (List.mem_cons_of_mem _ (List.mem_filter.mpr ⟨h1, h2⟩)))
def step (R : Room) (RET : Out → Nat → Nat → Mem → Prop) (g : Gl) (mi : MI) (M : MT) (i : Instr) (nc ns pc : Nat) (ls : Lo) (st : List Value) (μ : Mem) (K : Kt) : Prop := match i with
  | .iadd => s2 st fun x y r => K nc ns (pc + 1) ls (.int (x + y) :: r) μ
  | .isub => s2 st fun x y r => K nc ns (pc + 1) ls (.int (x - y) :: r) μ
  | .imul => s2 st fun x y r => K nc ns (pc + 1) ls (.int (x * y) :: r) μ
  | .iand => s2 st fun x y r => K nc ns (pc + 1) ls (.int (x &&& y) :: r) μ
  | .ior => s2 st fun x y r => K nc ns (pc + 1) ls (.int (x ||| y) :: r) μ
  | .ixor => s2 st fun x y r => K nc ns (pc + 1) ls (.int (x ^^^ y) :: r) μ
  | .ishl => s2 st fun x y r => K nc ns (pc + 1) ls (.int (x <<< (y &&& 31)) :: r) μ
  | .ishr => s2 st fun x y r => K nc ns (pc + 1) ls (.int (x >>> (y &&& 31)) :: r) μ
  | .iushr => s2 st fun x y r => K nc ns (pc + 1) ls (.int (ush x y) :: r) μ
  | .idiv => s2 st fun x y r => (¬ y = 0) ∧ K nc ns (pc + 1) ls (.int (x / y) :: r) μ
  | .irem => s2 st fun x y r => (¬ y = 0) ∧ K nc ns (pc + 1) ls (.int (x - x / y * y) :: r) μ
  | .ineg => s1 st fun x r => K nc ns (pc + 1) ls (.int (-x) :: r) μ
  | .ladd => j2 st fun x y r => K nc ns (pc + 1) ls (.long (x + y) :: r) μ
  | .lsub => j2 st fun x y r => K nc ns (pc + 1) ls (.long (x - y) :: r) μ
  | .land => j2 st fun x y r => K nc ns (pc + 1) ls (.long (x &&& y) :: r) μ
  | .lor => j2 st fun x y r => K nc ns (pc + 1) ls (.long (x ||| y) :: r) μ
  | .lxor => j2 st fun x y r => K nc ns (pc + 1) ls (.long (x ^^^ y) :: r) μ
  | .lushr => ji st fun x y r => K nc ns (pc + 1) ls (.long (lush x y) :: r) μ
  | .lshl => ji st fun x y r => K nc ns (pc + 1) ls (.long (x <<< (y.toInt64 &&& 63)) :: r) μ
  | .lshr => ji st fun x y r => K nc ns (pc + 1) ls (.long (x >>> (y.toInt64 &&& 63)) :: r) μ
  | .lcmp => j2 st fun x y r => K nc ns (pc + 1) ls (.int (lg_cmp x y) :: r) μ
  | .i2l => s1 st fun x r => K nc ns (pc + 1) ls (.long x.toInt64 :: r) μ
  | .l2i => j1 st fun x r => K nc ns (pc + 1) ls (.int x.toInt32 :: r) μ
  | .i2b => s1 st fun x r => K nc ns (pc + 1) ls (.int x.toInt8.toInt32 :: r) μ
  | .iconst v => K nc ns (pc + 1) ls (.int (iv v) :: st) μ
  | .bipush v => K nc ns (pc + 2) ls (.int (iv v) :: st) μ
  | .sipush v => K nc ns (pc + 3) ls (.int (iv v) :: st) μ
  | .lconst v => K nc ns (pc + 1) ls (.long (lcv v) :: st) μ
  | .iload_n v => vI (lk ls v) fun x => K nc ns (pc + 1) ls (.int x :: st) μ
  | .iload v => vI (lk ls v) fun x => K nc ns (pc + 2) ls (.int x :: st) μ
  | .lload_n v => vL (lk ls v) fun x => K nc ns (pc + 1) ls (.long x :: st) μ
  | .lload v => vL (lk ls v) fun x => K nc ns (pc + 2) ls (.long x :: st) μ
  | .aload_n v => vA (lk ls v) fun x => K nc ns (pc + 1) ls (.ref x :: st) μ
  | .aload v => vA (lk ls v) fun x => K nc ns (pc + 2) ls (.ref x :: st) μ
  | .istore_n v => s1 st fun x r => K nc ns (pc + 1) (lputq ls v (.int x)) r μ
  | .istore v => s1 st fun x r => K nc ns (pc + 2) (lputq ls v (.int x)) r μ
  | .lstore_n v => j1 st fun x r => K nc ns (pc + 1) (lputq ls v (.long x)) r μ
  | .lstore v => j1 st fun x r => K nc ns (pc + 2) (lputq ls v (.long x)) r μ
  | .astore_n v => a1 st fun x r => K nc ns (pc + 1) (lputq ls v (.ref x)) r μ
  | .astore v => a1 st fun x r => K nc ns (pc + 2) (lputq ls v (.ref x)) r μ
  | .iinc v w => vI (lk ls v) fun x => K nc ns (pc + 3) (lputq ls v (.int (x + iv w))) st μ
  | .dup => c1 st fun v r => K nc ns (pc + 1) ls (v :: v :: r) μ
  | .pop => c1 st fun v r => K nc ns (pc + 1) ls r μ
  | .dup2 => c1 st fun v r => c1 r fun w r => K nc ns (pc + 1) ls (v :: w :: v :: w :: r) μ
  | .goto o => K nc ns (jt pc o) ls st μ
  | .ifCond .eq o => s1 st fun x r => (x = 0 → K nc ns (jt pc o) ls r μ) ∧ (¬ x = 0 → K nc ns (pc + 3) ls r μ)
  | .if_icmp .eq o => s2 st fun x y r => (x = y → K nc ns (jt pc o) ls r μ) ∧ (¬ x = y → K nc ns (pc + 3) ls r μ)
  | .ifCond .ne o => s1 st fun x r => (¬ x = 0 → K nc ns (jt pc o) ls r μ) ∧ (x = 0 → K nc ns (pc + 3) ls r μ)
  | .if_icmp .ne o => s2 st fun x y r => (¬ x = y → K nc ns (jt pc o) ls r μ) ∧ (x = y → K nc ns (pc + 3) ls r μ)
  | .ifCond .lt o => s1 st fun x r => (x < 0 → K nc ns (jt pc o) ls r μ) ∧ (¬ x < 0 → K nc ns (pc + 3) ls r μ)
  | .if_icmp .lt o => s2 st fun x y r => (x < y → K nc ns (jt pc o) ls r μ) ∧ (¬ x < y → K nc ns (pc + 3) ls r μ)
  | .ifCond .ge o => s1 st fun x r => (0 ≤ x → K nc ns (jt pc o) ls r μ) ∧ (¬ 0 ≤ x → K nc ns (pc + 3) ls r μ)
  | .if_icmp .ge o => s2 st fun x y r => (y ≤ x → K nc ns (jt pc o) ls r μ) ∧ (¬ y ≤ x → K nc ns (pc + 3) ls r μ)
  | .ifCond .gt o => s1 st fun x r => (0 < x → K nc ns (jt pc o) ls r μ) ∧ (¬ 0 < x → K nc ns (pc + 3) ls r μ)
  | .if_icmp .gt o => s2 st fun x y r => (y < x → K nc ns (jt pc o) ls r μ) ∧ (¬ y < x → K nc ns (pc + 3) ls r μ)
  | .ifCond .le o => s1 st fun x r => (x ≤ 0 → K nc ns (jt pc o) ls r μ) ∧ (¬ x ≤ 0 → K nc ns (pc + 3) ls r μ)
  | .if_icmp .le o => s2 st fun x y r => (x ≤ y → K nc ns (jt pc o) ls r μ) ∧ (¬ x ≤ y → K nc ns (pc + 3) ls r μ)
  | .tableswitch d lo hi os => s1 st fun x r => tsw x (fun o => K nc ns (jt pc o) ls r μ) d lo os.toList
  | .getfield v => match fnd (pQ M.2.1) v with | some q => a1 st fun k r => isT (isS k) (match q.1 with | 0 => K nc ns (pc + 3) ls (.ref (k + 2000) :: r) μ | _ => K nc ns (pc + 3) ls (.int 0 :: r) μ) | none => mF (fnd (pF M.2.1) v) fun q => a1 st fun k r => isK k q.1 (K nc ns (pc + 3) ls (gF μ k q.2.1 (ftc q.1 q.2.1) :: r) μ)
  | .putfield v => mF (fnd (pF M.2.1) v) fun q => c12 st fun x r => a1 r fun k r => isK k q.1 (isT (flW (v, q)) (putF μ k q.2.1 (ftc q.1 q.2.1) x fun μ => K nc ns (pc + 3) ls r μ))
  | .iaload => ai st fun k i r => match Nat.beq k 2000 with | true => vp_in i (gN g) ∧ K nc ns (pc + 1) ls (.int (gX g (nx i)) :: r) μ | false => isK k 100 (vp_in i (sh k).2 ∧ K nc ns (pc + 1) ls (.int (mI μ k (nx i)) :: r) μ)
  | .laload => ai st fun k i r => isK k 101 (vp_in i (sh k).2 ∧ K nc ns (pc + 1) ls (.long (mL μ k (nx i)) :: r) μ)
  | .baload => ai st fun k i r => if2 (Nat.ble 3000 k) (isT (isS (kb k)) (vp_in i (sby (kb k)).length ∧ K nc ns (pc + 1) ls (.int ((sby (kb k)).getD (nx i) 0) :: r) μ)) (match Nat.beq (sh k).1 102 with | true => isK k 102 (vp_in i (sh k).2 ∧ K nc ns (pc + 1) ls (.int (mI μ k (nx i)) :: r) μ) | false => isK k 103 (vp_in i (sh k).2 ∧ K nc ns (pc + 1) ls (.int (mI μ k (nx i)) :: r) μ))
  | .aaload => ai st fun k i r => isK k 104 (vp_in i (sh k).2 ∧ mP μ (nx i) < NC ∧ K nc ns (pc + 1) ls (.ref (mP μ (nx i)) :: r) μ)
  | .arraylength => a1 st fun k r => if2 (Nat.ble 3000 k) (isT (isS (kb k)) (K nc ns (pc + 1) ls (.int (nI (sby (kb k)).length) :: r) μ)) (match Nat.beq k 2000 with | true => K nc ns (pc + 1) ls (.int (nI (gN g)) :: r) μ | false => isT (Nat.blt k NC && Nat.ble 100 (sh k).1 && Nat.blt (sh k).1 105) (K nc ns (pc + 1) ls (.int (nI (sh k).2) :: r) μ))
  | .getstatic v => mF (fnd (pG M.2.1) v) fun q => match q.1 with | 0 => K nc ns (pc + 3) ls (.int 1 :: st) μ | _ => K nc ns (pc + 3) ls (szv g :: st) μ
  | .i2c => s1 st fun x r => K nc ns (pc + 1) ls (.int (x.toUInt32 % 65536).toInt32 :: r) μ
  | .iastore => aii st fun k i x r => isK k 100 (vp_in i (sh k).2 ∧ K nc ns (pc + 1) ls r (sI μ k (nx i) x))
  | .lastore => aij st fun k i x r => isK k 101 (vp_in i (sh k).2 ∧ K nc ns (pc + 1) ls r (sL μ k (nx i) x))
  | .bastore => aii st fun k i x r => match Nat.beq (sh k).1 102 with | true => isK k 102 (vp_in i (sh k).2 ∧ K nc ns (pc + 1) ls r (sI μ k (nx i) x.toInt8.toInt32)) | false => isK k 103 (vp_in i (sh k).2 ∧ (x = 0 ∨ x = 1) ∧ K nc ns (pc + 1) ls r (sI μ k (nx i) x))
  | .aastore => aia st fun k i v r => isK k 104 (vp_in i (sh k).2 ∧ isK v 8 (K nc ns (pc + 1) ls r (sP μ (nx i) v)))
  | .ldc v => match fnd (pC M.2.1) v with | some q => K nc ns (pc + 2) ls (.int q.1 :: st) μ | none => mF (fnd (pT M.2.1) v) fun j => K nc ns (pc + 2) ls (.ref (1000 + j) :: st) μ
  | .ldc_w v => mF (fnd (pC M.2.1) v) fun q => K nc ns (pc + 3) ls (.int q.1 :: st) μ
  | .ldc2_w v => mF (fnd (pJ M.2.1) v) fun q => K nc ns (pc + 3) ls (.long q.1 :: st) μ
  | .ireturn => s1 st fun v r => match r with | [] => rtI (miT mi) v (RET (.inl (some (.int v))) nc ns μ) | _ => False
  | .lreturn => j1 st fun v r => match r with | [] => RET (.inl (some (.long v))) nc ns μ | _ => False
  | .return_ => match st with | [] => RET (.inl none) nc ns μ | _ => False
  | .new v => match st with | [] => mF (fnd M.2.2.1 pc) fun q => isT (Nat.beq q.1 v && Nat.ble 6 R.frames && Nat.ble 100 R.locals && Nat.ble (nc + 1) R.cells && Nat.ble (ns + 6) R.slots && M.2.2.2.isEmpty) (RET (.inr q.2.2.2.2.1) (nc + 1) (ns + 6) μ) | _ => False
  | .invokevirtual v => match fnd (pW M.2.1) v with | some q => spl q.2.2.1 st [] fun As t => a1 t fun k r => isT (isS k) (isT (Nat.ble (catS r) 8) (callK R q.1 q.2.1 nc ns fun dx => Spec g q.1 dx (.ref k :: As) μ (onR (miT q.1) (fun vs μ => K (nc + miK q.1) (ns + miS q.1) (pc + 3) ls (vs ++ r) μ) fun _ _ => False))) | none => match fnd (pV M.2.1) v with | some q => spl q.2.2.1 st [] fun As t => a1 t fun k r => isK k (q.2.2.2.getD 4 0) (isT (Nat.ble (catS r) 8) (callK R q.1 q.2.1 nc ns fun dx => Spec g q.1 dx (.ref k :: As) μ (onR (miT q.1) (fun vs μ => K (nc + miK q.1) (ns + miS q.1) (pc + 3) ls (vs ++ r) μ) (fun e μ => match M.2.2.2 with | [] => RET (.inr e) (nc + miK q.1) (ns + miS q.1) μ | h :: t => hx (fun hp n ln => K (nc + miK q.1) (ns + miS q.1) (hp + ln) (ls.filter fun q => Nat.ble (q.1 + q.2.category) n) [] μ) pc e (h :: t))))) | none => mF (fnd (pU M.2.1) v) fun q => spl q.2.2.1 st [] fun As t => a1 t fun k r => isK k q.2.2.2.2.2.2 (isT (Nat.ble (catS r) 8) (callK R q.1 q.2.1 nc ns fun dx => Spec g q.1 dx (.ref k :: As) μ (onR (miT q.1) (fun vs μ => K (nc + miK q.1) (ns + miS q.1) (pc + 3) ls (vs ++ r) μ) fun _ _ => False)))
  | .invokestatic v => match fnd (pM M.2.1) v with | some q => isT (Nat.ble 1 R.frames && Nat.ble (catS st + 13) R.locals && Nat.ble nc R.cells && Nat.ble ns R.slots) (match q.1 with | 0 => s1 st fun x r => K nc ns (pc + 3) ls (.int (mabs x) :: r) μ | 1 => s2 st fun x y r => K nc ns (pc + 3) ls (.int (mmax x y) :: r) μ | _ => s2 st fun x y r => K nc ns (pc + 3) ls (.int (mmin x y) :: r) μ) | none => match fnd (pA M.2.1) v with | some q => cp5 st fun k0 sp k1 dp n => isT (Nat.blt k0 NC && Nat.blt k1 NC && Nat.ble 1 R.frames && Nat.ble 90 R.locals && Nat.beq (sh k0).1 (sh k1).1) (acpOK sp dp n k0 k1 ∧ (match (sh k0).1 with | 100 => K nc ns (pc + 3) ls [] (sRI μ k1 (va_cpy (mI μ k0) (mI μ k1) (nx sp) (nx dp) (nx n))) | 101 => K nc ns (pc + 3) ls [] (sRL μ k1 (va_cpy (mL μ k0) (mL μ k1) (nx sp) (nx dp) (nx n))) | 103 => (∀ i, i < nx n → mI μ k0 (nx sp + i) = 0 ∨ mI μ k0 (nx sp + i) = 1) ∧ K nc ns (pc + 3) ls [] (sRI μ k1 (va_cpy (mI μ k0) (mI μ k1) (nx sp) (nx dp) (nx n))) | _ => False)) | none => match fnd (pS M.2.1) v with | some q => spl q.2.2.1 st [] fun As r => isT (Nat.ble (catS r) 8) (callK R q.1 q.2.1 nc ns fun dx => Spec g q.1 dx As μ (onR (miT q.1) (fun vs μ => K (nc + miK q.1) (ns + miS q.1) (pc + 3) ls (vs ++ r) μ) (fun e μ => match M.2.2.2 with | [] => RET (.inr e) (nc + miK q.1) (ns + miS q.1) μ | h :: t => hx (fun hp n ln => K (nc + miK q.1) (ns + miS q.1) (hp + ln) (ls.filter fun q => Nat.ble (q.1 + q.2.category) n) [] μ) pc e (h :: t)))) | none => mF (fnd (pN M.2.1) v) fun q => spl q.2.2.1 st [] fun As r => isT (Nat.ble (catS r) 8) (callK R q.1 q.2.1 nc ns fun dx => Spec g q.1 dx As μ (onR (miT q.1) (fun vs μ => K (nc + miK q.1) (ns + miS q.1) (pc + 3) ls (vs ++ r) μ) fun _ _ => False))
  | _ => False
def okI (mi : MI) (pc : Nat) (i : Instr) (n : Nat) : Bool := match i with
  | .iadd => Nat.beq n 1
  | .isub => Nat.beq n 1
  | .imul => Nat.beq n 1
  | .iand => Nat.beq n 1
  | .ior => Nat.beq n 1
  | .ixor => Nat.beq n 1
  | .ishl => Nat.beq n 1
  | .ishr => Nat.beq n 1
  | .iushr => Nat.beq n 1
  | .idiv => Nat.beq n 1
  | .irem => Nat.beq n 1
  | .ineg => Nat.beq n 1
  | .ladd => Nat.beq n 1
  | .lsub => Nat.beq n 1
  | .land => Nat.beq n 1
  | .lor => Nat.beq n 1
  | .lxor => Nat.beq n 1
  | .lushr => Nat.beq n 1
  | .lshl => Nat.beq n 1
  | .lshr => Nat.beq n 1
  | .lcmp => Nat.beq n 1
  | .i2l => Nat.beq n 1
  | .l2i => Nat.beq n 1
  | .i2b => Nat.beq n 1
  | .iconst v => Nat.beq n 1
  | .bipush v => Nat.beq n 2 && decide ((Int8.ofInt v).toInt32 = iv v)
  | .sipush v => Nat.beq n 3 && decide ((Int16.ofInt v).toInt32 = iv v)
  | .lconst v => Nat.beq n 1
  | .iload_n v => Nat.beq n 1
  | .iload v => Nat.beq n 2
  | .lload_n v => Nat.beq n 1
  | .lload v => Nat.beq n 2
  | .aload_n v => Nat.beq n 1
  | .aload v => Nat.beq n 2
  | .istore_n v => Nat.beq n 1 && Nat.blt (v : Nat) (miN mi)
  | .istore v => Nat.beq n 2 && Nat.blt (v : Nat) (miN mi)
  | .lstore_n v => Nat.beq n 1 && Nat.blt ((v : Nat) + 1) (miN mi)
  | .lstore v => Nat.beq n 2 && Nat.blt ((v : Nat) + 1) (miN mi)
  | .astore_n v => Nat.beq n 1 && Nat.blt (v : Nat) (miN mi)
  | .astore v => Nat.beq n 2 && Nat.blt (v : Nat) (miN mi)
  | .iinc v w => Nat.beq n 3 && Nat.blt v (miN mi)
  | .dup => Nat.beq n 1
  | .pop => Nat.beq n 1
  | .dup2 => Nat.beq n 1
  | .goto o => Nat.beq n 3 && decide (0 ≤ (pc : Int) + o)
  | .ifCond .eq o => Nat.beq n 3 && decide (0 ≤ (pc : Int) + o)
  | .if_icmp .eq o => Nat.beq n 3 && decide (0 ≤ (pc : Int) + o)
  | .ifCond .ne o => Nat.beq n 3 && decide (0 ≤ (pc : Int) + o)
  | .if_icmp .ne o => Nat.beq n 3 && decide (0 ≤ (pc : Int) + o)
  | .ifCond .lt o => Nat.beq n 3 && decide (0 ≤ (pc : Int) + o)
  | .if_icmp .lt o => Nat.beq n 3 && decide (0 ≤ (pc : Int) + o)
  | .ifCond .ge o => Nat.beq n 3 && decide (0 ≤ (pc : Int) + o)
  | .if_icmp .ge o => Nat.beq n 3 && decide (0 ≤ (pc : Int) + o)
  | .ifCond .gt o => Nat.beq n 3 && decide (0 ≤ (pc : Int) + o)
  | .if_icmp .gt o => Nat.beq n 3 && decide (0 ≤ (pc : Int) + o)
  | .ifCond .le o => Nat.beq n 3 && decide (0 ≤ (pc : Int) + o)
  | .if_icmp .le o => Nat.beq n 3 && decide (0 ≤ (pc : Int) + o)
  | .tableswitch d lo hi os => decide (-2147483648 ≤ lo) && decide (hi < 2147483648) && decide (lo + os.toList.length = hi + 1) && decide (0 ≤ (pc : Int) + d) && decide (∀ o ∈ os.toList, 0 ≤ (pc : Int) + o)
  | .getfield v => Nat.beq n 3
  | .putfield v => Nat.beq n 3
  | .iaload => Nat.beq n 1
  | .laload => Nat.beq n 1
  | .baload => Nat.beq n 1
  | .aaload => Nat.beq n 1
  | .arraylength => Nat.beq n 1
  | .getstatic v => Nat.beq n 3
  | .i2c => Nat.beq n 1
  | .iastore => Nat.beq n 1
  | .lastore => Nat.beq n 1
  | .bastore => Nat.beq n 1
  | .aastore => Nat.beq n 1
  | .ldc v => Nat.beq n 2
  | .ldc_w v => Nat.beq n 3
  | .ldc2_w v => Nat.beq n 3
  | .ireturn => Nat.beq n 1
  | .lreturn => Nat.beq n 1 && decide (miT mi = some .long)
  | .return_ => Nat.beq n 1 && decide (miT mi = none)
  | .new v => Nat.beq n 3
  | .invokevirtual v => Nat.beq n 3
  | .invokestatic v => Nat.beq n 3
  | _ => true
