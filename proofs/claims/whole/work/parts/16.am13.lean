/-! soundness of a step -/
def pvOK (own : String) (q : Nat × Mth) : Prop := MOK q.2.1 q.2.2.2.1 ∧ miH q.2.1 = [] ∧ Cond.methodLink own q.1 (miY q.2.1) ∈ TB ∧ Cond.instanceMethod (miY q.2.1) ∈ TB ∧ Cond.selects (miY q.2.1).cls (miY q.2.1) (miY q.2.1) ∈ TB ∧ Cond.initialized (miY q.2.1).cls ∈ TB ∧ ∃ r, cls[q.2.2.2.2.getD 4 0]? = some r ∧ r.1 = (miY q.2.1).cls
def psOK (own : String) (q : Nat × Mth) : Prop := MOK q.2.1 q.2.2.2.1 ∧ Cond.methodLink own q.1 (miY q.2.1) ∈ TB ∧ Cond.static (miY q.2.1) ∈ TB ∧ Cond.initialized (miY q.2.1).cls ∈ TB
def pnOK (own : String) (q : Nat × Mth) : Prop := MOK q.2.1 q.2.2.2.1 ∧ miH q.2.1 = [] ∧ Cond.methodLinkNest own q.1 (miY q.2.1) "SaidOnce" ∈ NW ∧ Cond.static (miY q.2.1) ∈ TB ∧ Cond.initialized (miY q.2.1).cls ∈ TB
def puOK (own : String) (q : Nat × MthU) : Prop := MOK q.2.1 q.2.2.2.1 ∧ miH q.2.1 = [] ∧ Cond.methodLink own q.1 q.2.2.2.2.2.1 ∈ TB ∧ Cond.sameMethod q.2.2.2.2.2.1.cls q.2.2.2.2.2.2.1 q.2.2.2.2.2.1.name q.2.2.2.2.2.1.desc ∈ TB ∧ (∃ r, cls[q.2.2.2.2.2.2.2]? = some r ∧ Cond.selects r.1 q.2.2.2.2.2.1 (miY q.2.1) ∈ TB) ∧ Cond.instanceMethod (miY q.2.1) ∈ TB ∧ Cond.initialized (miY q.2.1).cls ∈ TB ∧ Cond.declares ⟨q.2.2.2.2.2.2.1, q.2.2.2.2.2.1.name, q.2.2.2.2.2.1.desc⟩ ∈ NW ∧
  (q.2.2.2.2.2.2.1 ≠ "java/lang/invoke/MethodHandle" ∧ q.2.2.2.2.2.2.1 ≠ "java/lang/invoke/VarHandle" ∧ (parseMethodDescriptor q.2.2.2.2.2.1.desc).map (fun d => d.parameters.length) = some q.2.2.2.1)
def gsB (own : String) (q : Nat × Nat × Nat) : Bool := match q.2.1 with
  | 0 => tbAt (q.2.2, .fieldLink own q.1 "java/lang/String" "COMPACT_STRINGS" "Z")
  | _ => tbAt (q.2.2, .fieldLink own q.1 "jdk/internal/util/Preconditions" "SIOOBE_FORMATTER" "Ljava/util/function/BiFunction;")
def qsB (own : String) (q : Nat × Nat × Nat) : Bool := match q.2.1 with
  | 0 => tbAt (q.2.2, .fieldLink own q.1 "java/lang/String" "value" "[B")
  | _ => tbAt (q.2.2, .fieldLink own q.1 "java/lang/String" "coder" "B")
def pwOK (own : String) (q : Nat × Mth) : Prop := MOK q.2.1 q.2.2.2.1 ∧ miH q.2.1 = [] ∧ (miY q.2.1).cls = "java/lang/String" ∧ Cond.methodLink own q.1 (miY q.2.1) ∈ TB ∧ Cond.instanceMethod (miY q.2.1) ∈ TB ∧ Cond.selects (miY q.2.1).cls (miY q.2.1) (miY q.2.1) ∈ TB ∧ Cond.initialized (miY q.2.1).cls ∈ TB
def PoolOK (own : String) (P : Pool) : Prop := (∀ q ∈ pF P, flB own q = true) ∧ (∀ q ∈ pC P, tbAt (q.2.2, .constant own q.1 q.2.1) = true) ∧ (∀ q ∈ pJ P, tbAt (q.2.2, .constantLong own q.1 q.2.1) = true) ∧ (∀ q ∈ pT P, strB own q = true) ∧ (∀ q ∈ pV P, pvOK own q) ∧ (∀ q ∈ pS P, psOK own q) ∧ (∀ q ∈ pN P, pnOK own q) ∧ (∀ q ∈ pU P, puOK own q) ∧ (∀ q ∈ pA P, acpB own q = true) ∧ (∀ q ∈ pM P, mathB own q = true) ∧ (∀ q ∈ pG P, gsB own q = true) ∧ (∀ q ∈ pQ P, qsB own q = true) ∧ ∀ q ∈ pW P, pwOK own q
def RetOK (g : Gl) (mi : MI) (M : MT) (R : Room) (Q : QT) (RET : Out → Nat → Nat → Mem → Prop) : Prop :=
  (∀ {v : Int32} {nc ns pc : Nat} {ls : Lo} {μ : Mem} {ty : FieldType}, decode (miC mi) pc = .ok (.ireturn, 1) → miT mi = some ty → narrow ty (.int v) = .int v → RET (.inl (some (.int v))) nc ns μ → Wm g mi R Q nc ns pc ls [.int v] μ) ∧
  (∀ {v : Int64} {nc ns pc : Nat} {ls : Lo} {μ : Mem}, decode (miC mi) pc = .ok (.lreturn, 1) → miT mi = some .long → RET (.inl (some (.long v))) nc ns μ → Wm g mi R Q nc ns pc ls [.long v] μ) ∧
  (∀ {nc ns pc : Nat} {ls : Lo} {μ : Mem}, decode (miC mi) pc = .ok (.return_, 1) → miT mi = none → RET (.inl none) nc ns μ → Wm g mi R Q nc ns pc ls [] μ) ∧
  (∀ {v nc ns pc : Nat} {q : Thr} {ls : Lo} {μ : Mem}, decode (miC mi) pc = .ok (.new v, 3) → (pc, q) ∈ M.2.2.1 → (Nat.beq q.1 v && Nat.ble 6 R.frames && Nat.ble 100 R.locals && Nat.ble (nc + 1) R.cells && Nat.ble (ns + 6) R.slots && M.2.2.2.isEmpty) = true → RET (.inr q.2.2.2.2.1) (nc + 1) (ns + 6) μ → Wm g mi R Q nc ns pc ls [] μ) ∧
  (∀ {e nc ns pc : Nat} {ls : Lo} {μ : Mem}, M.2.2.2 = [] → e < 5 → RET (.inr e) nc ns μ → WX g mi R Q nc ns pc ls e μ) ∧
  (∀ {e nc ns pc : Nat} {ls : Lo} {μ : Mem}, e < 5 → hx (fun hp n ln => Wm g mi R Q nc ns (hp + ln) (ls.filter fun q => Nat.ble (q.1 + q.2.category) n) [] μ) pc e M.2.2.2 → WX g mi R Q nc ns pc ls e μ)
theorem onR_l {g : Gl} {t : Option FieldType} {f : List Value → Mem → Prop} {x : Nat → Mem → Prop} {v : Option Value} {μ : Mem} (h : onR t f x (.inl v) μ) : v.toList.map (tv g) = v.toList ∧ f v.toList μ := by
  unfold onR at h
  split at h
  · unfold onV at h
    split at h
    · rename_i q; cases q; exact ⟨rfl, h⟩
    · rename_i q; cases q
    · exact h.elim
  · unfold onL at h
    split at h
    · rename_i q; cases q; exact ⟨rfl, h⟩
    · rename_i q; cases q
    · exact h.elim
  · unfold onI at h
    split at h
    · rename_i q; cases q; exact ⟨rfl, h⟩
    · rename_i q; cases q
    · exact h.elim
theorem onR_r {t : Option FieldType} {f : List Value → Mem → Prop} {x : Nat → Mem → Prop} {e : Nat} {μ : Mem} (h : onR t f x (.inr e) μ) : x e μ := by
  unfold onR at h
  split at h <;> exact h
section AM13
variable {g : Gl} {mi : MI} {R : Room} {Q : QT} {nc ns pc : Nat} {ls : Lo} {st : List Value} {μ : Mem} {M : MT} {RET : Out → Nat → Nat → Mem → Prop} {K : Kt}
theorem tsw_mono {x : Int32} {K1 K2 : Int → Prop} {d : Int} (hK : ∀ o, K1 o → K2 o) : ∀ {os : List Int} {lo : Int}, tsw x K1 d lo os → tsw x K2 d lo os := by
  intro os
  induction os with
  | nil => intro lo h; exact hK _ h
  | cons o os ih => intro lo h; exact ⟨fun z => hK _ (h.1 z), fun z => ih (h.2 z)⟩
theorem hx_mono {K1 K2 : Nat → Nat → Nat → Prop} {pc e : Nat} (hK : ∀ a b c, K1 a b c → K2 a b c) : ∀ {l : List Hdl}, hx K1 pc e l → hx K2 pc e l := by
  intro l
  induction l with
  | nil => intro h; exact h
  | cons q t ih =>
    obtain ⟨a, b, hp, ct, e9, n, ln⟩ := q
    intro h
    unfold hx at h ⊢
    revert h
    cases Nat.beq e9 e with
    | false => exact fun h => ih h
    | true =>
      dsimp only
      cases (Nat.ble a pc && Nat.blt pc b) with
      | false => exact fun h => h
      | true => exact fun h => hK _ _ _ h
theorem thr_X (hRET : RetOK g mi M R Q RET) (hK : ∀ {nc ns pc : Nat} {ls : Lo} {st : List Value} {μ : Mem}, K nc ns pc ls st μ → Wm g mi R Q nc ns pc ls st μ) {e : Nat} {q : MI} (h5 : e < 5) (h : match M.2.2.2 with | [] => RET (.inr e) (nc + miK q) (ns + miS q) μ | h :: t => hx (fun hp n ln => K (nc + miK q) (ns + miS q) (hp + ln) (ls.filter fun q => Nat.ble (q.1 + q.2.category) n) [] μ) pc e (h :: t)) : WX g mi R Q (nc + miK q) (ns + miS q) pc ls e μ := by
  split at h
  · rename_i hn; exact hRET.2.2.2.2.1 hn h5 h
  · rename_i hn; exact hRET.2.2.2.2.2 h5 (by rw [hn]; exact hx_mono (fun _ _ _ z => hK z) h)
theorem step_V {v : Nat} (hP : PoolOK (miY mi).cls M.2.1) (hRET : RetOK g mi M R Q RET) (hK : ∀ {nc ns pc : Nat} {ls : Lo} {st : List Value} {μ : Mem}, K nc ns pc ls st μ → Wm g mi R Q nc ns pc ls st μ) (hd : decode (miC mi) pc = .ok (.invokevirtual v, 3)) (h : step R RET g mi M (.invokevirtual v) nc ns pc ls st μ K) : Wm g mi R Q nc ns pc ls st μ := by
  unfold step at h
  dsimp only at h
  split at h
  · rename_i q e
    obtain ⟨h1, h2, h0, h3, h4, h5, h6⟩ := hP.2.2.2.2.2.2.2.2.2.2.2.2 _ (fnd_mem e)
    obtain ⟨As, t, h, e1, e2⟩ := spl_ok h
    obtain ⟨k, r, rfl, h⟩ := a1_ok h
    obtain ⟨hk, h⟩ := isT_ok h
    obtain ⟨hr, h⟩ := isT_ok h
    obtain ⟨dx, hR, hS⟩ := callK_ok h
    rw [List.reverse_nil, List.nil_append] at e1
    rw [← e1]
    exact am_callW h1 h2 h0 h3 h4 h5 h6 (isS_ok hk).1 (isS_ok hk).2 (by simpa using e2) (by rw [catS_eq]; exact Nat.le_of_ble_eq_true hr) hR hd hS (fun v μ' hv => ⟨(onR_l hv).1, hK (onR_l (g := g) hv).2⟩) (fun e μ' _ hv => (onR_r hv : False).elim)
  · split at h
    · rename_i q e
      obtain ⟨h1, h2, h3, h4, h5, h6, r9, h7, h8⟩ := hP.2.2.2.2.1 _ (fnd_mem e)
      obtain ⟨As, t, h, e1, e2⟩ := spl_ok h
      obtain ⟨k, r, rfl, h⟩ := a1_ok h
      obtain ⟨hk, hc, h⟩ := isK_ok h
      obtain ⟨hr, h⟩ := isT_ok h
      obtain ⟨dx, hR, hS⟩ := callK_ok h
      rw [List.reverse_nil, List.nil_append] at e1
      rw [← e1]
      exact am_callV h1 h2 h3 h4 h5 h6 hk (by rw [hc]; exact h7) h8 (by simpa using e2) (by rw [catS_eq]; exact Nat.le_of_ble_eq_true hr) hR hd hS (fun v μ' hv => ⟨(onR_l hv).1, hK (onR_l (g := g) hv).2⟩) (fun ex μ' hx5 hv => thr_X hRET hK hx5 (onR_r hv))
    · obtain ⟨q, e, h⟩ := mF_ok h
      obtain ⟨h1, h2, h3, h4, ⟨r9, h7, h8⟩, h9, h10, h11, h12⟩ := hP.2.2.2.2.2.2.2.1 _ (fnd_mem e)
      obtain ⟨As, t, h, e1, e2⟩ := spl_ok h
      obtain ⟨k, r, rfl, h⟩ := a1_ok h
      obtain ⟨hk, hc, h⟩ := isK_ok h
      obtain ⟨hr, h⟩ := isT_ok h
      obtain ⟨dx, hR, hS⟩ := callK_ok h
      rw [List.reverse_nil, List.nil_append] at e1
      rw [← e1]
      exact am_callU h1 h2 h3 h4 h8 h9 h10 h11 h12 hk (by rw [hc]; exact h7) (by simpa using e2) (by rw [catS_eq]; exact Nat.le_of_ble_eq_true hr) hR hd hS (fun e μ' hv => onR_r hv) (fun v μ' hv => ⟨(onR_l hv).1, hK (onR_l (g := g) hv).2⟩)
theorem step_S {v : Nat} (hP : PoolOK (miY mi).cls M.2.1) (hRET : RetOK g mi M R Q RET) (hK : ∀ {nc ns pc : Nat} {ls : Lo} {st : List Value} {μ : Mem}, K nc ns pc ls st μ → Wm g mi R Q nc ns pc ls st μ) (hd : decode (miC mi) pc = .ok (.invokestatic v, 3)) (h : step R RET g mi M (.invokestatic v) nc ns pc ls st μ K) : Wm g mi R Q nc ns pc ls st μ := by
  unfold step at h
  dsimp only at h
  split at h
  · rename_i q e
    have hq := hP.2.2.2.2.2.2.2.2.2.1 _ (fnd_mem e)
    obtain ⟨hb, h⟩ := isT_ok h
    simp only [Bool.and_eq_true] at hb
    obtain ⟨⟨⟨b1, b2⟩, b3⟩, b4⟩ := hb
    have b2 := Nat.le_of_ble_eq_true b2
    simp only [mathB, Bool.and_eq_true] at hq
    obtain ⟨q0, hq⟩ := hq
    split at h
    · rename_i w; rw [w] at hq; simp only [Bool.and_eq_true] at hq
      obtain ⟨x, r, rfl, h⟩ := s1_ok h
      intro p e s m args below meth c C H locs L hR hS hl
      exact va_mabs C.1 C.2.1 (C.2.2.1.trans hl.1.symm) C.2.2.2.2.2.1 (C.2.2.2.2.2.2.1 _ (tb_of hq.1.1)) (C.2.2.2.2.2.2.1 _ (tb_of hq.1.2)) (C.2.2.2.2.2.2.1 _ (tb_of q0)) (C.2.2.2.2.2.2.1 _ (tb_of hq.2)) (Nat.le_of_ble_eq_true b1) (by rw [cat_map, catS_eq]; have : catS (Value.int x :: r) = 1 + catS r := rfl; omega) (Nat.le_of_ble_eq_true b3) (Nat.le_of_ble_eq_true b4) hd (hK h p e s m args below meth c C H locs L hR hS hl)
    · rename_i w; rw [w] at hq; simp only [Bool.and_eq_true] at hq
      obtain ⟨x, y, r, rfl, h⟩ := s2_ok h
      intro p e s m args below meth c C H locs L hR hS hl
      exact va_mmax C.1 C.2.1 (C.2.2.1.trans hl.1.symm) C.2.2.2.2.2.1 (C.2.2.2.2.2.2.1 _ (tb_of hq.1.1)) (C.2.2.2.2.2.2.1 _ (tb_of hq.1.2)) (C.2.2.2.2.2.2.1 _ (tb_of q0)) (C.2.2.2.2.2.2.1 _ (tb_of hq.2)) (Nat.le_of_ble_eq_true b1) (by rw [cat_map, catS_eq]; have : catS (Value.int y :: Value.int x :: r) = 1 + (1 + catS r) := rfl; omega) (Nat.le_of_ble_eq_true b3) (Nat.le_of_ble_eq_true b4) hd (hK h p e s m args below meth c C H locs L hR hS hl)
    · rename_i w1 w2
      split at hq
      · rename_i w; exact absurd w w1
      · rename_i w; exact absurd w w2
      · simp only [Bool.and_eq_true] at hq
        obtain ⟨x, y, r, rfl, h⟩ := s2_ok h
        intro p e s m args below meth c C H locs L hR hS hl
        exact va_mmin C.1 C.2.1 (C.2.2.1.trans hl.1.symm) C.2.2.2.2.2.1 (C.2.2.2.2.2.2.1 _ (tb_of hq.1.1)) (C.2.2.2.2.2.2.1 _ (tb_of hq.1.2)) (C.2.2.2.2.2.2.1 _ (tb_of q0)) (C.2.2.2.2.2.2.1 _ (tb_of hq.2)) (Nat.le_of_ble_eq_true b1) (by rw [cat_map, catS_eq]; have : catS (Value.int y :: Value.int x :: r) = 1 + (1 + catS r) := rfl; omega) (Nat.le_of_ble_eq_true b3) (Nat.le_of_ble_eq_true b4) hd (hK h p e s m args below meth c C H locs L hR hS hl)
  · split at h
    · rename_i q e
      have hq := hP.2.2.2.2.2.2.2.2.1 _ (fnd_mem e)
      obtain ⟨k0, sp, k1, dp, n, rfl, h⟩ := cp5_ok h
      obtain ⟨hb, hn, h⟩ := isT_ok h
      simp only [Bool.and_eq_true] at hb
      obtain ⟨⟨⟨⟨b1, b2⟩, b3⟩, b4⟩, b5⟩ := hb
      have b5 := Nat.eq_of_beq_eq_true b5
      split at h
      · rename_i hk; exact am_acpI hq (Nat.le_of_ble_eq_true b3) (Nat.le_of_ble_eq_true b4) (Nat.le_of_ble_eq_true b1) (Nat.le_of_ble_eq_true b2) hk (b5.symm.trans hk) hn hd (hK h)
      · rename_i hk; exact am_acpL hq (Nat.le_of_ble_eq_true b3) (Nat.le_of_ble_eq_true b4) (Nat.le_of_ble_eq_true b1) (Nat.le_of_ble_eq_true b2) hk (b5.symm.trans hk) hn hd (hK h)
      · rename_i hk; exact am_acpZ hq (Nat.le_of_ble_eq_true b3) (Nat.le_of_ble_eq_true b4) (Nat.le_of_ble_eq_true b1) (Nat.le_of_ble_eq_true b2) hk (b5.symm.trans hk) hn h.1 hd (hK h.2)
      · exact h.elim
    · split at h
      · rename_i q e
        obtain ⟨h1, h3, h4, h6⟩ := hP.2.2.2.2.2.1 _ (fnd_mem e)
        obtain ⟨As, r, h, e1, e2⟩ := spl_ok h
        obtain ⟨hr, h⟩ := isT_ok h
        obtain ⟨dx, hR, hS⟩ := callK_ok h
        rw [List.reverse_nil, List.nil_append] at e1
        rw [← e1]
        cases hH : miH q.1 with
        | nil => exact am_callS h1 hH h3 h4 h6 (by simpa using e2) (by rw [catS_eq]; exact Nat.le_of_ble_eq_true hr) hR hd hS (fun v μ' hv => ⟨(onR_l hv).1, hK (onR_l (g := g) hv).2⟩) (fun ex μ' hx5 hv => thr_X hRET hK hx5 (onR_r hv))
        | cons a b => exact am_callSH h1 hH h3 h4 h6 (by simpa using e2) (by rw [catS_eq]; exact Nat.le_of_ble_eq_true hr) hR hd hS (fun v μ' hv => ⟨(onR_l hv).1, hK (onR_l (g := g) hv).2⟩) (fun ex μ' hx5 hv => thr_X hRET hK hx5 (onR_r hv))
      · obtain ⟨q, e, h⟩ := mF_ok h
        obtain ⟨h1, h2, h3, h4, h6⟩ := hP.2.2.2.2.2.2.1 _ (fnd_mem e)
        obtain ⟨As, r, h, e1, e2⟩ := spl_ok h
        obtain ⟨hr, h⟩ := isT_ok h
        obtain ⟨dx, hR, hS⟩ := callK_ok h
        rw [List.reverse_nil, List.nil_append] at e1
        rw [← e1]
        exact am_callSN h1 h2 h3 h4 h6 (by simpa using e2) (by rw [catS_eq]; exact Nat.le_of_ble_eq_true hr) hR hd hS (fun e μ' hv => onR_r hv) (fun v μ' hv => ⟨(onR_l hv).1, hK (onR_l (g := g) hv).2⟩)
set_option maxRecDepth 100000 in
theorem step_sound {i : Instr} {n : Nat} (hP : PoolOK (miY mi).cls M.2.1) (hRET : RetOK g mi M R Q RET) (hK : ∀ {nc ns pc : Nat} {ls : Lo} {st : List Value} {μ : Mem}, K nc ns pc ls st μ → Wm g mi R Q nc ns pc ls st μ) (hd : decode (miC mi) pc = .ok (i, n)) (hi : okI mi pc i n = true) (h : step R RET g mi M i nc ns pc ls st μ K) : Wm g mi R Q nc ns pc ls st μ := by
  cases i with
  | iadd  =>
    cases (Nat.eq_of_beq_eq_true hi : n = 1)
    unfold step at h; dsimp only at h
    obtain ⟨x, y, r, rfl, h⟩ := s2_ok h; exact am_iadd hd (hK h)
  | isub  =>
    cases (Nat.eq_of_beq_eq_true hi : n = 1)
    unfold step at h; dsimp only at h
    obtain ⟨x, y, r, rfl, h⟩ := s2_ok h; exact am_isub hd (hK h)
  | imul  =>
    cases (Nat.eq_of_beq_eq_true hi : n = 1)
    unfold step at h; dsimp only at h
    obtain ⟨x, y, r, rfl, h⟩ := s2_ok h; exact am_imul hd (hK h)
  | iand  =>
    cases (Nat.eq_of_beq_eq_true hi : n = 1)
    unfold step at h; dsimp only at h
    obtain ⟨x, y, r, rfl, h⟩ := s2_ok h; exact am_iand hd (hK h)
  | ior  =>
    cases (Nat.eq_of_beq_eq_true hi : n = 1)
    unfold step at h; dsimp only at h
    obtain ⟨x, y, r, rfl, h⟩ := s2_ok h; exact am_ior hd (hK h)
  | ixor  =>
    cases (Nat.eq_of_beq_eq_true hi : n = 1)
    unfold step at h; dsimp only at h
    obtain ⟨x, y, r, rfl, h⟩ := s2_ok h; exact am_ixor hd (hK h)
  | ishl  =>
    cases (Nat.eq_of_beq_eq_true hi : n = 1)
    unfold step at h; dsimp only at h
    obtain ⟨x, y, r, rfl, h⟩ := s2_ok h; exact am_ishl hd (hK h)
  | ishr  =>
    cases (Nat.eq_of_beq_eq_true hi : n = 1)
    unfold step at h; dsimp only at h
    obtain ⟨x, y, r, rfl, h⟩ := s2_ok h; exact am_ishr hd (hK h)
  | iushr  =>
    cases (Nat.eq_of_beq_eq_true hi : n = 1)
    unfold step at h; dsimp only at h
    obtain ⟨x, y, r, rfl, h⟩ := s2_ok h; exact am_iushr hd (hK h)
  | idiv  =>
    cases (Nat.eq_of_beq_eq_true hi : n = 1)
    unfold step at h; dsimp only at h
    obtain ⟨x, y, r, rfl, h⟩ := s2_ok h; exact am_idiv h.1 hd (hK h.2)
  | irem  =>
    cases (Nat.eq_of_beq_eq_true hi : n = 1)
    unfold step at h; dsimp only at h
    obtain ⟨x, y, r, rfl, h⟩ := s2_ok h; exact am_irem h.1 hd (hK h.2)
  | ineg  =>
    cases (Nat.eq_of_beq_eq_true hi : n = 1)
    unfold step at h; dsimp only at h
    obtain ⟨x, r, rfl, h⟩ := s1_ok h; exact am_ineg hd (hK h)
  | ladd  =>
    cases (Nat.eq_of_beq_eq_true hi : n = 1)
    unfold step at h; dsimp only at h
    obtain ⟨x, y, r, rfl, h⟩ := j2_ok h; exact am_ladd hd (hK h)
  | lsub  =>
    cases (Nat.eq_of_beq_eq_true hi : n = 1)
    unfold step at h; dsimp only at h
    obtain ⟨x, y, r, rfl, h⟩ := j2_ok h; exact am_lsub hd (hK h)
  | land  =>
    cases (Nat.eq_of_beq_eq_true hi : n = 1)
    unfold step at h; dsimp only at h
    obtain ⟨x, y, r, rfl, h⟩ := j2_ok h; exact am_land hd (hK h)
  | lor  =>
    cases (Nat.eq_of_beq_eq_true hi : n = 1)
    unfold step at h; dsimp only at h
    obtain ⟨x, y, r, rfl, h⟩ := j2_ok h; exact am_lor hd (hK h)
  | lxor  =>
    cases (Nat.eq_of_beq_eq_true hi : n = 1)
    unfold step at h; dsimp only at h
    obtain ⟨x, y, r, rfl, h⟩ := j2_ok h; exact am_lxor hd (hK h)
  | lushr  =>
    cases (Nat.eq_of_beq_eq_true hi : n = 1)
    unfold step at h; dsimp only at h
    obtain ⟨x, y, r, rfl, h⟩ := ji_ok h; exact am_lushr hd (hK h)
  | lshl  =>
    cases (Nat.eq_of_beq_eq_true hi : n = 1)
    unfold step at h; dsimp only at h
    obtain ⟨x, y, r, rfl, h⟩ := ji_ok h; exact am_lshl hd (hK h)
  | lshr  =>
    cases (Nat.eq_of_beq_eq_true hi : n = 1)
    unfold step at h; dsimp only at h
    obtain ⟨x, y, r, rfl, h⟩ := ji_ok h; exact am_lshr hd (hK h)
  | lcmp  =>
    cases (Nat.eq_of_beq_eq_true hi : n = 1)
    unfold step at h; dsimp only at h
    obtain ⟨x, y, r, rfl, h⟩ := j2_ok h; exact am_lcmp hd (hK h)
  | i2l  =>
    cases (Nat.eq_of_beq_eq_true hi : n = 1)
    unfold step at h; dsimp only at h
    obtain ⟨x, r, rfl, h⟩ := s1_ok h; exact am_i2l hd (hK h)
  | l2i  =>
    cases (Nat.eq_of_beq_eq_true hi : n = 1)
    unfold step at h; dsimp only at h
    obtain ⟨x, r, rfl, h⟩ := j1_ok h; exact am_l2i hd (hK h)
  | i2b  =>
    cases (Nat.eq_of_beq_eq_true hi : n = 1)
    unfold step at h; dsimp only at h
    obtain ⟨x, r, rfl, h⟩ := s1_ok h; exact am_i2b hd (hK h)
  | iconst v =>
    cases (Nat.eq_of_beq_eq_true hi : n = 1)
    unfold step at h; dsimp only at h
    exact am_iconst hd (hK h)
  | bipush v =>
    simp only [okI, Bool.and_eq_true] at hi
    cases (Nat.eq_of_beq_eq_true hi.1 : n = 2)
    unfold step at h; dsimp only at h
    exact am_bipush (of_decide_eq_true hi.2) hd (hK h)
  | sipush v =>
    simp only [okI, Bool.and_eq_true] at hi
    cases (Nat.eq_of_beq_eq_true hi.1 : n = 3)
    unfold step at h; dsimp only at h
    exact am_sipush (of_decide_eq_true hi.2) hd (hK h)
  | lconst v =>
    cases (Nat.eq_of_beq_eq_true hi : n = 1)
    unfold step at h; dsimp only at h
    exact am_lconst hd (hK h)
  | iload_n v =>
    cases (Nat.eq_of_beq_eq_true hi : n = 1)
    unfold step at h; dsimp only at h
    obtain ⟨x, e, h⟩ := vI_ok h; exact am_iload_n e hd (hK h)
  | iload v =>
    cases (Nat.eq_of_beq_eq_true hi : n = 2)
    unfold step at h; dsimp only at h
    obtain ⟨x, e, h⟩ := vI_ok h; exact am_iload e hd (hK h)
  | lload_n v =>
    cases (Nat.eq_of_beq_eq_true hi : n = 1)
    unfold step at h; dsimp only at h
    obtain ⟨x, e, h⟩ := vL_ok h; exact am_lload_n e hd (hK h)
  | lload v =>
    cases (Nat.eq_of_beq_eq_true hi : n = 2)
    unfold step at h; dsimp only at h
    obtain ⟨x, e, h⟩ := vL_ok h; exact am_lload e hd (hK h)
  | aload_n v =>
    cases (Nat.eq_of_beq_eq_true hi : n = 1)
    unfold step at h; dsimp only at h
    obtain ⟨x, e, h⟩ := vA_ok h; exact am_aload_n e hd (hK h)
  | aload v =>
    cases (Nat.eq_of_beq_eq_true hi : n = 2)
    unfold step at h; dsimp only at h
    obtain ⟨x, e, h⟩ := vA_ok h; exact am_aload e hd (hK h)
  | istore_n v =>
    simp only [okI, Bool.and_eq_true] at hi
    cases (Nat.eq_of_beq_eq_true hi.1 : n = 1)
    unfold step at h; dsimp only at h
    obtain ⟨x, r, rfl, h⟩ := s1_ok h; exact am_istore_n (Nat.le_of_ble_eq_true hi.2) hd (Wm.pick lputq_sub (hK h))
  | istore v =>
    simp only [okI, Bool.and_eq_true] at hi
    cases (Nat.eq_of_beq_eq_true hi.1 : n = 2)
    unfold step at h; dsimp only at h
    obtain ⟨x, r, rfl, h⟩ := s1_ok h; exact am_istore (Nat.le_of_ble_eq_true hi.2) hd (Wm.pick lputq_sub (hK h))
  | lstore_n v =>
    simp only [okI, Bool.and_eq_true] at hi
    cases (Nat.eq_of_beq_eq_true hi.1 : n = 1)
    unfold step at h; dsimp only at h
    obtain ⟨x, r, rfl, h⟩ := j1_ok h; exact am_lstore_n (Nat.le_of_ble_eq_true hi.2) hd (Wm.pick lputq_sub (hK h))
  | lstore v =>
    simp only [okI, Bool.and_eq_true] at hi
    cases (Nat.eq_of_beq_eq_true hi.1 : n = 2)
    unfold step at h; dsimp only at h
    obtain ⟨x, r, rfl, h⟩ := j1_ok h; exact am_lstore (Nat.le_of_ble_eq_true hi.2) hd (Wm.pick lputq_sub (hK h))
  | astore_n v =>
    simp only [okI, Bool.and_eq_true] at hi
    cases (Nat.eq_of_beq_eq_true hi.1 : n = 1)
    unfold step at h; dsimp only at h
    obtain ⟨x, r, rfl, h⟩ := a1_ok h; exact am_astore_n (Nat.le_of_ble_eq_true hi.2) hd (Wm.pick lputq_sub (hK h))
  | astore v =>
    simp only [okI, Bool.and_eq_true] at hi
    cases (Nat.eq_of_beq_eq_true hi.1 : n = 2)
    unfold step at h; dsimp only at h
    obtain ⟨x, r, rfl, h⟩ := a1_ok h; exact am_astore (Nat.le_of_ble_eq_true hi.2) hd (Wm.pick lputq_sub (hK h))
  | iinc v w =>
    simp only [okI, Bool.and_eq_true] at hi
    cases (Nat.eq_of_beq_eq_true hi.1 : n = 3)
    unfold step at h; dsimp only at h
    obtain ⟨x, e, h⟩ := vI_ok h; exact am_iinc (Nat.le_of_ble_eq_true hi.2) e hd (Wm.pick lputq_sub (hK h))
  | dup  =>
    cases (Nat.eq_of_beq_eq_true hi : n = 1)
    unfold step at h; dsimp only at h
    obtain ⟨v, r, rfl, e, h⟩ := c1_ok h; exact am_dup e hd (hK h)
  | pop  =>
    cases (Nat.eq_of_beq_eq_true hi : n = 1)
    unfold step at h; dsimp only at h
    obtain ⟨v, r, rfl, e, h⟩ := c1_ok h; exact am_pop e hd (hK h)
  | dup2  =>
    cases (Nat.eq_of_beq_eq_true hi : n = 1)
    unfold step at h; dsimp only at h
    obtain ⟨v, r, rfl, e, h⟩ := c1_ok h; obtain ⟨w, r, rfl, e2, h⟩ := c1_ok h; exact am_dup2 e e2 hd (hK h)
  | goto o =>
    simp only [okI, Bool.and_eq_true] at hi
    cases (Nat.eq_of_beq_eq_true hi.1 : n = 3)
    unfold step at h; dsimp only at h
    exact am_goto (of_decide_eq_true hi.2) hd (hK h)
  | tableswitch d lo hi os =>
    simp only [okI, Bool.and_eq_true] at hi
    obtain ⟨x, r, rfl, h⟩ := s1_ok h; exact am_tsw (of_decide_eq_true hi.1.1.1.1) (of_decide_eq_true hi.1.1.1.2) (of_decide_eq_true hi.1.1.2) (of_decide_eq_true hi.1.2) (of_decide_eq_true hi.2) hd (tsw_mono (fun o z => hK z) h)
  | getfield v =>
    cases (Nat.eq_of_beq_eq_true hi : n = 3)
    unfold step at h; dsimp only at h
    split at h
    · rename_i q e; obtain ⟨k, r, e0, h9⟩ := a1_ok h; subst e0; obtain ⟨h1, h9⟩ := isT_ok h9; have h2 := hP.2.2.2.2.2.2.2.2.2.2.2.1 _ (fnd_mem e); unfold qsB at h2
      split at h9
      · rename_i w; rw [w] at h2; exact am_sval h2 (isS_ok h1).1 (isS_ok h1).2 hd (hK h9)
      · rename_i w; split at h2
        · rename_i w2; exact absurd w2 w
        · exact am_scod h2 (isS_ok h1).1 (isS_ok h1).2 hd (hK h9)
    · obtain ⟨q, e, h⟩ := mF_ok h; obtain ⟨k, r, rfl, h⟩ := a1_ok h; obtain ⟨hk, hc, h⟩ := isK_ok h; exact am_get (hP.1 _ (fnd_mem e)) hk hc hd (hK h)
  | putfield v =>
    cases (Nat.eq_of_beq_eq_true hi : n = 3)
    unfold step at h; dsimp only at h
    obtain ⟨q, e, h⟩ := mF_ok h; obtain ⟨x, r, rfl, h⟩ := c12_ok h; obtain ⟨k, r, rfl, h⟩ := a1_ok h; obtain ⟨hk, hc, h⟩ := isK_ok h; obtain ⟨hw, h⟩ := isT_ok h; obtain ⟨μ', h1, h⟩ := putF_ok h; exact am_put (hP.1 _ (fnd_mem e)) hw hk hc h1 hd (hK h)
  | iaload  =>
    cases (Nat.eq_of_beq_eq_true hi : n = 1)
    unfold step at h; dsimp only at h
    obtain ⟨k, i, r, e0, h9⟩ := ai_ok h; subst e0
    split at h9
    · rename_i hb; rw [Nat.eq_of_beq_eq_true hb]; exact am_sald h9.1 hd (hK h9.2)
    · obtain ⟨hk, hc, h9⟩ := isK_ok h9; exact am_iald hk hc h9.1 hd (hK h9.2)
  | laload  =>
    cases (Nat.eq_of_beq_eq_true hi : n = 1)
    unfold step at h; dsimp only at h
    obtain ⟨k, i, r, rfl, h⟩ := ai_ok h; obtain ⟨hk, hc, h⟩ := isK_ok h; exact am_lald hk hc h.1 hd (hK h.2)
  | baload  =>
    cases (Nat.eq_of_beq_eq_true hi : n = 1)
    unfold step at h; dsimp only at h
    obtain ⟨k, i, r, e0, h9⟩ := ai_ok h; subst e0
    rcases if2_ok h9 with ⟨hb, h9⟩ | ⟨-, h9⟩
    · obtain ⟨h1, h9⟩ := isT_ok h9; rw [kb_add hb]; exact am_sbald (k := kb k) (isS_ok h1).1 (isS_ok h1).2 h9.1 hd (hK h9.2)
    · split at h9
      · obtain ⟨hk, hc, h9⟩ := isK_ok h9; exact am_bald hk hc h9.1 hd (hK h9.2)
      · obtain ⟨hk, hc, h9⟩ := isK_ok h9; exact am_zald hk hc h9.1 hd (hK h9.2)
  | aaload  =>
    cases (Nat.eq_of_beq_eq_true hi : n = 1)
    unfold step at h; dsimp only at h
    obtain ⟨k, i, r, rfl, h⟩ := ai_ok h; obtain ⟨hk, hc, h⟩ := isK_ok h; exact am_aald hk hc h.1 h.2.1 hd (hK h.2.2)
  | arraylength  =>
    cases (Nat.eq_of_beq_eq_true hi : n = 1)
    unfold step at h; dsimp only at h
    obtain ⟨k, r, e0, h9⟩ := a1_ok h; subst e0
    rcases if2_ok h9 with ⟨hb, h9⟩ | ⟨-, h9⟩
    · obtain ⟨h1, h9⟩ := isT_ok h9; rw [kb_add hb]; exact am_slenB (k := kb k) (isS_ok h1).1 (isS_ok h1).2 hd (hK h9)
    · split at h9
      · rename_i hb; rw [Nat.eq_of_beq_eq_true hb]; exact am_slen hd (hK h9)
      · obtain ⟨h1, h9⟩ := isT_ok h9; simp only [Bool.and_eq_true] at h1; exact am_len (Nat.le_of_ble_eq_true h1.1.1) (Nat.le_of_ble_eq_true h1.1.2) (Nat.le_of_ble_eq_true h1.2) hd (hK h9)
  | getstatic v =>
    cases (Nat.eq_of_beq_eq_true hi : n = 3)
    unfold step at h; dsimp only at h
    obtain ⟨q, e, h⟩ := mF_ok h; have h2 := hP.2.2.2.2.2.2.2.2.2.2.1 _ (fnd_mem e); unfold gsB at h2
    split at h
    · rename_i w; rw [w] at h2; exact am_gcs h2 hd (hK h)
    · rename_i w; split at h2
      · rename_i w2; exact absurd w2 w
      · exact am_gsz h2 hd (hK h)
  | i2c  =>
    cases (Nat.eq_of_beq_eq_true hi : n = 1)
    unfold step at h; dsimp only at h
    obtain ⟨x, r, rfl, h⟩ := s1_ok h; exact am_i2c hd (hK h)
  | iastore  =>
    cases (Nat.eq_of_beq_eq_true hi : n = 1)
    unfold step at h; dsimp only at h
    obtain ⟨k, i, x, r, rfl, h⟩ := aii_ok h; obtain ⟨hk, hc, h⟩ := isK_ok h; exact am_iast hk hc h.1 hd (hK h.2)
  | lastore  =>
    cases (Nat.eq_of_beq_eq_true hi : n = 1)
    unfold step at h; dsimp only at h
    obtain ⟨k, i, x, r, rfl, h⟩ := aij_ok h; obtain ⟨hk, hc, h⟩ := isK_ok h; exact am_last hk hc h.1 hd (hK h.2)
  | bastore  =>
    cases (Nat.eq_of_beq_eq_true hi : n = 1)
    unfold step at h; dsimp only at h
    obtain ⟨k, i, x, r, e0, h9⟩ := aii_ok h; subst e0
    split at h9
    · obtain ⟨hk, hc, h9⟩ := isK_ok h9; exact am_bast hk hc h9.1 hd (hK h9.2)
    · obtain ⟨hk, hc, h9⟩ := isK_ok h9; exact am_zast hk hc h9.1 h9.2.1 hd (hK h9.2.2)
  | aastore  =>
    cases (Nat.eq_of_beq_eq_true hi : n = 1)
    unfold step at h; dsimp only at h
    obtain ⟨k, i, v, r, rfl, h⟩ := aia_ok h; obtain ⟨hk, hc, h⟩ := isK_ok h; obtain ⟨hv, hs, h2⟩ := isK_ok h.2; exact am_aast hk hc h.1 hv hs hd (hK h2)
  | ldc v =>
    cases (Nat.eq_of_beq_eq_true hi : n = 2)
    unfold step at h; dsimp only at h
    split at h
    · rename_i q e; exact am_ldc (hP.2.1 _ (fnd_mem e)) hd (hK h)
    · obtain ⟨j, e, h⟩ := mF_ok h; exact am_ldcS (hP.2.2.2.1 _ (fnd_mem e)) hd (hK h)
  | ldc_w v =>
    cases (Nat.eq_of_beq_eq_true hi : n = 3)
    unfold step at h; dsimp only at h
    obtain ⟨q, e, h⟩ := mF_ok h; exact am_ldcw (hP.2.1 _ (fnd_mem e)) hd (hK h)
  | ldc2_w v =>
    cases (Nat.eq_of_beq_eq_true hi : n = 3)
    unfold step at h; dsimp only at h
    obtain ⟨q, e, h⟩ := mF_ok h; exact am_ldc2 (hP.2.2.1 _ (fnd_mem e)) hd (hK h)
  | ireturn  =>
    cases (Nat.eq_of_beq_eq_true hi : n = 1)
    unfold step at h; dsimp only at h
    obtain ⟨v, r, e0, h9⟩ := s1_ok h; subst e0
    split at h9
    · obtain ⟨ty, e, h1, h2⟩ := rtI_ok h9; exact hRET.1 hd e h1 h2
    · exact h9.elim
  | lreturn  =>
    simp only [okI, Bool.and_eq_true] at hi
    cases (Nat.eq_of_beq_eq_true hi.1 : n = 1)
    unfold step at h; dsimp only at h
    obtain ⟨v, r, e0, h9⟩ := j1_ok h; subst e0
    split at h9
    · exact hRET.2.1 hd (of_decide_eq_true hi.2) h9
    · exact h9.elim
  | return_  =>
    simp only [okI, Bool.and_eq_true] at hi
    cases (Nat.eq_of_beq_eq_true hi.1 : n = 1)
    unfold step at h; dsimp only at h
    split at h
    · exact hRET.2.2.1 hd (of_decide_eq_true hi.2) h
    · exact h.elim
  | new v =>
    cases (Nat.eq_of_beq_eq_true hi : n = 3)
    unfold step at h; dsimp only at h
    split at h
    · obtain ⟨q, e, h⟩ := mF_ok h; obtain ⟨h1, h⟩ := isT_ok h; exact hRET.2.2.2.1 hd (fnd_mem e) h1 h
    · exact h.elim
  | invokevirtual v =>
    cases (Nat.eq_of_beq_eq_true hi : n = 3)
    exact step_V hP hRET hK hd h
  | invokestatic v =>
    cases (Nat.eq_of_beq_eq_true hi : n = 3)
    exact step_S hP hRET hK hd h
  | ifCond c o =>
    cases c with
    | eq =>
      simp only [okI, Bool.and_eq_true] at hi
      cases (Nat.eq_of_beq_eq_true hi.1 : n = 3)
      unfold step at h; dsimp only at h
      obtain ⟨x, r, rfl, h⟩ := s1_ok h; exact am_if_eq (of_decide_eq_true hi.2) hd ⟨fun z => hK (h.1 z), fun z => hK (h.2 z)⟩
    | ne =>
      simp only [okI, Bool.and_eq_true] at hi
      cases (Nat.eq_of_beq_eq_true hi.1 : n = 3)
      unfold step at h; dsimp only at h
      obtain ⟨x, r, rfl, h⟩ := s1_ok h; exact am_if_ne (of_decide_eq_true hi.2) hd ⟨fun z => hK (h.1 z), fun z => hK (h.2 z)⟩
    | lt =>
      simp only [okI, Bool.and_eq_true] at hi
      cases (Nat.eq_of_beq_eq_true hi.1 : n = 3)
      unfold step at h; dsimp only at h
      obtain ⟨x, r, rfl, h⟩ := s1_ok h; exact am_if_lt (of_decide_eq_true hi.2) hd ⟨fun z => hK (h.1 z), fun z => hK (h.2 z)⟩
    | ge =>
      simp only [okI, Bool.and_eq_true] at hi
      cases (Nat.eq_of_beq_eq_true hi.1 : n = 3)
      unfold step at h; dsimp only at h
      obtain ⟨x, r, rfl, h⟩ := s1_ok h; exact am_if_ge (of_decide_eq_true hi.2) hd ⟨fun z => hK (h.1 z), fun z => hK (h.2 z)⟩
    | gt =>
      simp only [okI, Bool.and_eq_true] at hi
      cases (Nat.eq_of_beq_eq_true hi.1 : n = 3)
      unfold step at h; dsimp only at h
      obtain ⟨x, r, rfl, h⟩ := s1_ok h; exact am_if_gt (of_decide_eq_true hi.2) hd ⟨fun z => hK (h.1 z), fun z => hK (h.2 z)⟩
    | le =>
      simp only [okI, Bool.and_eq_true] at hi
      cases (Nat.eq_of_beq_eq_true hi.1 : n = 3)
      unfold step at h; dsimp only at h
      obtain ⟨x, r, rfl, h⟩ := s1_ok h; exact am_if_le (of_decide_eq_true hi.2) hd ⟨fun z => hK (h.1 z), fun z => hK (h.2 z)⟩
  | if_icmp c o =>
    cases c with
    | eq =>
      simp only [okI, Bool.and_eq_true] at hi
      cases (Nat.eq_of_beq_eq_true hi.1 : n = 3)
      unfold step at h; dsimp only at h
      obtain ⟨x, y, r, rfl, h⟩ := s2_ok h; exact am_icmp_eq (of_decide_eq_true hi.2) hd ⟨fun z => hK (h.1 z), fun z => hK (h.2 z)⟩
    | ne =>
      simp only [okI, Bool.and_eq_true] at hi
      cases (Nat.eq_of_beq_eq_true hi.1 : n = 3)
      unfold step at h; dsimp only at h
      obtain ⟨x, y, r, rfl, h⟩ := s2_ok h; exact am_icmp_ne (of_decide_eq_true hi.2) hd ⟨fun z => hK (h.1 z), fun z => hK (h.2 z)⟩
    | lt =>
      simp only [okI, Bool.and_eq_true] at hi
      cases (Nat.eq_of_beq_eq_true hi.1 : n = 3)
      unfold step at h; dsimp only at h
      obtain ⟨x, y, r, rfl, h⟩ := s2_ok h; exact am_icmp_lt (of_decide_eq_true hi.2) hd ⟨fun z => hK (h.1 z), fun z => hK (h.2 z)⟩
    | ge =>
      simp only [okI, Bool.and_eq_true] at hi
      cases (Nat.eq_of_beq_eq_true hi.1 : n = 3)
      unfold step at h; dsimp only at h
      obtain ⟨x, y, r, rfl, h⟩ := s2_ok h; exact am_icmp_ge (of_decide_eq_true hi.2) hd ⟨fun z => hK (h.1 z), fun z => hK (h.2 z)⟩
    | gt =>
      simp only [okI, Bool.and_eq_true] at hi
      cases (Nat.eq_of_beq_eq_true hi.1 : n = 3)
      unfold step at h; dsimp only at h
      obtain ⟨x, y, r, rfl, h⟩ := s2_ok h; exact am_icmp_gt (of_decide_eq_true hi.2) hd ⟨fun z => hK (h.1 z), fun z => hK (h.2 z)⟩
    | le =>
      simp only [okI, Bool.and_eq_true] at hi
      cases (Nat.eq_of_beq_eq_true hi.1 : n = 3)
      unfold step at h; dsimp only at h
      obtain ⟨x, y, r, rfl, h⟩ := s2_ok h; exact am_icmp_le (of_decide_eq_true hi.2) hd ⟨fun z => hK (h.1 z), fun z => hK (h.2 z)⟩
  | _ => exact h.elim
end AM13
