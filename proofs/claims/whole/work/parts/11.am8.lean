/-! contracts and calls -/
def codeW (mi : MI) : Cond := match miH mi with
  | [] => .code (miY mi) (miC mi) (miN mi) (miT mi)
  | h :: t => .codeWith (miY mi) (miC mi) (miN mi) (miT mi) (h :: t)
def wsOf (mi : MI) : List Cond := codeW mi :: TB
def miB (mi : MI) (pl n : Nat) : Bool := tbAt (pl, codeW mi) && plainName (miY mi).cls && decide ((miY mi).cls ≠ "java/lang/invoke/MethodHandle") && decide ((miY mi).cls ≠ "java/lang/invoke/VarHandle") && decide ((parseMethodDescriptor (miY mi).desc).map (fun d => d.parameters.length) = some n) && Nat.ble (miN mi) 40
def MOK (mi : MI) (n : Nat) : Prop := codeW mi ∈ TB ∧ plainName (miY mi).cls = true ∧ ((miY mi).cls ≠ "java/lang/invoke/MethodHandle" ∧ (miY mi).cls ≠ "java/lang/invoke/VarHandle" ∧ (parseMethodDescriptor (miY mi).desc).map (fun d => d.parameters.length) = some n) ∧ miN mi ≤ 40
theorem miB_ok {mi : MI} {pl n : Nat} (h : miB mi pl n = true) : MOK mi n := by
  simp only [miB, Bool.and_eq_true, decide_eq_true_eq] at h
  obtain ⟨⟨⟨⟨⟨h1, h2⟩, h3⟩, h4⟩, h5⟩, h6⟩ := h
  exact ⟨tb_of h1, h2, ⟨h3, h4, h5⟩, Nat.le_of_ble_eq_true h6⟩
theorem good_ws {mi : MI} (h : codeW mi ∈ TB) : GoodIn TB (wsOf mi) := by
  have key : ∀ w ∈ TB, w ∈ TB ∧ ((w.onTables && w.keeps) = true ∨ ∃ ty, w = .arrayClass ty) := fun w hw => ⟨hw, good_of_word (List.mem_filter.mp hw).2⟩
  intro w hw
  rcases List.mem_cons.mp hw with rfl | hw
  · exact key _ h
  · exact key _ hw
def Qr (g : Gl) (Φ : Out → Mem → Prop) : Array Value → State → Outcome → State → Prop := fun _ st o t => (∃ (v : Option Value) (μ' : Mem), o = .returned v ∧ Φ (.inl v) μ' ∧ Rep g μ' t.heap) ∧ va_F (gP g) st t
def Qx (g : Gl) (Φ : Out → Mem → Prop) : String → State → State → Prop := fun E st t => (∃ (e : Nat) (μ' : Mem), e < 5 ∧ E = EN e ∧ Φ (.inr e) μ' ∧ Rep g μ' t.heap) ∧ va_F (gP g) st t
def QM (g : Gl) (mi : MI) (Φ : Out → Mem → Prop) : QT := fun below args s => vx_MQ below (Qr g Φ) (Qx g Φ) args s (miK mi) (miS mi) (gP g)
def PcM (g : Gl) (args : List Value) (μ : Mem) : Array Value → State → Prop := va_Pc (args.map (tv g)) fun U => Rep g μ U.heap ∧ EnvS g U
/-- a call of the method with these arguments at this memory ends, with Φ -/
def Spec (g : Gl) (mi : MI) (dx : Nat) (args : List Value) (μ : Mem) (Φ : Out → Mem → Prop) : Prop :=
  vx_Met (gl g) (miY mi) (wsOf mi) (rm mi dx) (PcM g args μ) (Qr g Φ) (Qx g Φ) (miK mi) (miS mi) (gP g)
theorem tl_args (g : Gl) (vs : List Value) : ∀ i, tl g (lv_args i vs) = lv_args i (vs.map (tv g)) := by
  induction vs with
  | nil => intro i; rfl
  | cons v vs ih =>
    intro i
    show (i, tv g v) :: tl g (lv_args _ vs) = (i, tv g v) :: lv_args _ _
    rw [ih, tv_cat]
theorem sl_len (g : Gl) (vs : List Value) : (lg_sl (vs.map (tv g))).length = (lg_sl vs).length := by
  induction vs with
  | nil => rfl
  | cons v vs ih =>
    have e : ∀ (w : Value) (ws : List Value), (lg_sl (w :: ws)).length = w.category + (lg_sl ws).length := by
      intro w ws
      show ((if w.category = 2 then [Slot.val w, Slot.second] else [Slot.val w]) ++ lg_sl ws).length = _
      rw [List.length_append]
      rcases lv_cat w with h | h <;> simp [h]
    rw [List.map_cons, e, e, tv_cat, ih]
theorem Spec.intro {g : Gl} {mi : MI} {dx n : Nat} {args : List Value} {μ : Mem} {Φ : Out → Mem → Prop} (hM : MOK mi n) (hw : (lg_sl args).length ≤ miN mi)
    (k : Wm g mi (rm mi dx) (QM g mi Φ) 0 0 0 (lv_args 0 args) [] μ) : Spec g mi dx args μ Φ := by
  have fin : ∀ (p : Program) (e : Env) (s : State) (m : MethodId) (av : Array Value) (below : List Frame) (meth : Method) (c : Code) (s₁ : State), BodyLoose p (gl g) (miY mi) (headSpec (wsOf mi) (rm mi dx)) (miC mi) (miN mi) (miT mi) e s m av below meth c s₁ → c.maxLocals = miN mi → c.exceptionTable.toList = tableOf (miH mi) → PcM g args μ av s →
      W p (gl g) e (headSpec (wsOf mi) (rm mi dx)).room s m av below meth c s.heap [] 0 0 (vx_MQ below (Qr g Φ) (Qx g Φ) av s (miK mi) (miS mi) (gP g)) (entryFrame m av (miN mi)) := by
    intro p e s m av below meth c s₁ B hml hex hv
    obtain ⟨rfl, hR, hE⟩ := hv
    have hts : ∀ w ∈ wsOf mi, w.before (args.map (tv g)).toArray s = true := atoms_spec (ws := wsOf mi) B.pre
    have hl := lv_entry (args.map (tv g)) (n := miN mi) (by rw [sl_len]; exact hw)
    rw [lg_entry_eq]
    refine k p e s m _ below meth c ⟨B.exec, B.bytes, hml, B.returns, B.notSynchronized, findClass_of_methodNamed B.named, fun w h => hts w (List.mem_cons_of_mem _ h), hex, hE⟩ s.heap [] _ hR va_S.rf (by rw [tl_args]; exact hl)
  unfold Spec
  cases hH : miH mi with
  | nil =>
    refine vx_ofW (cc := miC mi) (maxL := miN mi) (ret := miT mi) hM.2.1 (ws' := TB) (by unfold wsOf codeW; rw [hH]) ?_
    intro p e s m av below meth c s₁ B hml hex hv
    refine fin p e s m av below meth c s₁ B hml ?_ hv
    rw [hH]
    cases hz : c.exceptionTable.toList with
    | nil => rfl
    | cons a t => exact absurd (by rw [hz]; exact List.mem_cons_self) (hex a)
  | cons h t =>
    refine vx_ofWH (cc := miC mi) (maxL := miN mi) (ret := miT mi) (hh := h :: t) hM.2.1 (ws' := TB) (by unfold wsOf codeW; rw [hH]) ?_
    intro p e s m av below meth c s₁ B hml hv
    have hts : ∀ w ∈ wsOf mi, w.before av s = true := atoms_spec (ws := wsOf mi) B.pre
    have hcw : (Cond.codeWith (miY mi) (miC mi) (miN mi) (miT mi) (h :: t)).before av s = true := hts _ (by unfold wsOf codeW; rw [hH]; exact List.mem_cons_self)
    exact fin p e s m av below meth c s₁ B hml (by rw [hH]; exact vx_table (x := miY mi) B hcw) hv
theorem PcM_blind (g : Gl) (args : List Value) (μ : Mem) : FrameBlind (PcM g args μ) := by
  intro a U gf mk q
  obtain ⟨q0, q1, q2⟩ := q
  refine ⟨q0, q1, ?_⟩
  obtain ⟨h1, h2, h3, h4, h5, h6, h7, h8, h9, h10, h11, h12, h13, h14⟩ := q2
  have hvm : U.vm = (U.calling gf mk a).vm := rfl
  have ha : U.vm.Alike (U.calling gf mk a).vm := Vm.Alike.refl U.vm
  refine ⟨h1.moved ha, fun w hw => (h2 w hw).same ?_ hvm, fun j hj => ?_, h4.moved ha, h5.moved ha, h6.moved ha, h7, h8, h9.moved ha, h10, h11, h12, fun a b x y z => (h13 a b x y z).moved ha, h14.moved ha⟩
  · have := (List.mem_filter.mp hw).2
    cases w <;> first | rfl | exact absurd this (by simp [isNw])
  · obtain ⟨k1, k2, k3, k4, k5⟩ := h3 j hj
    exact ⟨k1.same hvm.symm, k2.moved ha, k3.moved ha, k4.moved ha, k5.moved ha⟩
