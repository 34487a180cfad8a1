/-! calls, ends -/
/-- the frame at pc with an exception of kind e thrown over it -/
def WX (g : Gl) (mi : MI) (R : Room) (Q : QT) (nc ns pc : Nat) (ls : List (Nat × Value)) (ex : Nat) (μ : Mem) : Prop :=
  ∀ (p : Program) (e : Env) (s : State) (m : MethodId) (args : Array Value) (below : List Frame) (meth : Method) (c : Code), Ctx g mi p s m args meth c →
    ∀ (H : Heap) (locs : List Loc) (L : Array Slot) (rest : List Value) (q : Addr) (ce : Cell), Rep g μ H → va_S (gP g) s.heap H locs → lv_has L (miN mi) (tl g ls) → H[q]? = some ce → ce.vm = .none → s.vm.findClass (EN ex) = some ce.cls →
      vx_W p (gl g) e R s m args below meth c H locs nc ns (Q below args s) (F0 m pc L rest) q
theorem met_of {g : Gl} {mi : MI} {dx : Nat} {args : List Value} {μ : Mem} {Φ : Out → Mem → Prop} (h : Spec g mi dx args μ Φ) (hno : ∀ e μ', ¬ Φ (.inr e) μ') : Met (gl g) (miY mi) (wsOf mi) (rm mi dx) (PcM g args μ) (Qr g Φ) (miK mi) (miS mi) (gP g) := by
  intro p e ha hc hk s m av below hf happ hP hK
  obtain ⟨k, o, h1, h2, h3, hQ⟩ := h p e ha hc hk s m av below hf happ hP hK
  refine ⟨k, o, h1, h2, h3, ?_⟩
  rcases hQ with hQ | ⟨q, ho, E, ce, L, ⟨⟨e9, μ', -, -, h9, -⟩, -⟩, -⟩
  · exact hQ
  · exact absurd h9 (hno e9 μ')
section AM9
variable {g : Gl} {mi : MI} {R : Room} {Q : QT} {nc ns pc : Nat} {ls : List (Nat × Value)} {st : List Value} {μ : Mem} {Φ : Out → Mem → Prop} {mj : MI} {dx n idx : Nat} {As : List Value}
theorem am_after {p : Program} {e : Env} {s : State} {m : MethodId} {args : Array Value} {below : List Frame} {meth : Method} {c : Code} {H : Heap} {locs : List Loc} {L : Array Slot} {st0 : List Value} {a : Array Value} {mc ms : Nat}
    (C : Ctx g mi p s m args meth c) (hr : vx_Run p (gl g) e R s m args below meth c H locs nc ns mc ms (F0 m pc L st0) (st.map (tv g)) (Qr g Φ a) (Qx g Φ) (gP g)) (hS : va_S (gP g) s.heap H locs) (hl : lv_has L (miN mi) (tl g ls))
    (kr : ∀ (v : Option Value) (μ' : Mem), Φ (.inl v) μ' → v.toList.map (tv g) = v.toList ∧ Wm g mi R Q (nc + mc) (ns + ms) (pc + 3) ls (v.toList ++ st) μ')
    (kx : ∀ (ex : Nat) (μ' : Mem), ex < 5 → Φ (.inr ex) μ' → WX g mi R Q (nc + mc) (ns + ms) pc ls ex μ') : W p (gl g) e R s m args below meth c H locs nc ns (Q below args s) (F0 m pc L st0) := by
  intro T hT X
  rcases hr T hT X with ⟨v, st₀, t, T', L9, h0, X', hL, e1, e2, ⟨⟨v', μ', hv, hp, hb⟩, hF⟩, stp⟩ | ⟨q, st₀, t, T', L9, E, ce, h0, X', hL, e1, e2, ⟨⟨ex, μ', h5, hE, hp, hb⟩, hF⟩, hce, hcv, hcl, stp⟩
  · cases hv
    obtain ⟨k1, k2, k3⟩ := vx_keep h0 e1 hS (fun q _ h => h) (fun q h => h) hL hF
    obtain ⟨hvt, kW⟩ := kr v μ' hp
    have k9 := kW p e s m args below meth c C T'.heap (locs ++ L9) L (by rw [e1]; exact hb) k3 hl
    rw [List.map_append, hvt] at k9
    obtain ⟨t2, a1, b1⟩ := k9 T' rfl X'
    exact ⟨t2, stp t2 a1, b1⟩
  · obtain ⟨k1, k2, k3⟩ := vx_keep h0 e1 hS (fun q _ h => h) (fun q h => h) hL hF
    subst hE
    obtain ⟨t2, a1, b1⟩ := kx ex μ' h5 hp p e s m args below meth c C T'.heap (locs ++ L9) L (st.map (tv g)) q ce (by rw [e1]; exact hb) k3 hl (by rw [e1]; exact hce) hcv hcl T' rfl X'
    exact ⟨t2, stp.trans a1, b1⟩
theorem am_afterN {p : Program} {e : Env} {s : State} {m : MethodId} {args : Array Value} {below : List Frame} {meth : Method} {c : Code} {H : Heap} {locs : List Loc} {L : Array Slot} {st0 : List Value} {a : Array Value} {mc ms : Nat}
    (C : Ctx g mi p s m args meth c) (hr : va_Run p (gl g) e R s m args below meth c H locs nc ns mc ms (F0 m pc L st0) (st.map (tv g)) (Qr g Φ a) (gP g)) (hS : va_S (gP g) s.heap H locs) (hl : lv_has L (miN mi) (tl g ls))
    (kr : ∀ (v : Option Value) (μ' : Mem), Φ (.inl v) μ' → v.toList.map (tv g) = v.toList ∧ Wm g mi R Q (nc + mc) (ns + ms) (pc + 3) ls (v.toList ++ st) μ') : W p (gl g) e R s m args below meth c H locs nc ns (Q below args s) (F0 m pc L st0) := by
  refine am_after (a := a) C (fun T hT X => Or.inl ?_) hS hl kr (fun ex μ' _ h => ?_) (Φ := fun o μ' => match o with | .inl v => Φ (.inl v) μ' | .inr _ => False)
  · obtain ⟨v, st₀, t, T', L9, h0, X', hL, e1, e2, hq, stp⟩ := hr T hT X
    exact ⟨v, st₀, t, T', L9, h0, X', hL, e1, e2, hq, stp⟩
  · exact h.elim
/-- what a caller's room must be -/
def CallR (R : Room) (mj : MI) (dx nc ns : Nat) : Prop := miD mj + dx + 1 ≤ R.frames ∧ 59 + 100 * (miD mj + dx) ≤ R.locals ∧ nc + miK mj ≤ R.cells ∧ ns + miS mj ≤ R.slots
theorem codeW_nil (hH : miH mj = []) : wsOf mj = Cond.code (miY mj) (miC mj) (miN mj) (miT mj) :: TB := by unfold wsOf codeW; rw [hH]
theorem callB_ok {s : State} {args : Array Value} {own : String} (hts : ∀ w ∈ TB, w.before args s = true) (hM : MOK mj n) (hH : miH mj = []) (hR : CallR R mj dx nc ns) (hini : Cond.initialized (miY mj).cls ∈ TB) (hl : Cond.methodLink own idx (miY mj) ∈ TB) :
    CallB R s args own idx (miY mj) (miC mj) (miN mj) (miT mj) (wsOf mj) (rm mj dx) (miK mj) (miS mj) n :=
  callB_of n hts (good_ws hM.1) (codeW_nil hH) rfl rfl (hts _ hini) (hts _ hl) hM.2.2.1 ⟨hR.1, by have := hM.2.2.2; have := hR.2.1; show 8 + (miN mj + 11) + 100 * (miD mj + dx) ≤ R.locals; omega⟩
theorem stk_map {k : Nat} : (As.reverse ++ .ref k :: st).map (tv g) = (As.map (tv g)).reverse ++ .ref (gr g k) :: st.map (tv g) := by
  rw [List.map_append, List.map_reverse]; rfl
theorem cat_map {st : List Value} : ((st.map (tv g)).map fun v => v.category) = st.map fun v => v.category := by
  rw [List.map_map]; exact List.map_congr_left fun v _ => tv_cat g v
theorem am_callV {k : Nat} {r : vw_C} (hM : MOK mj n) (hH : miH mj = []) (hlk : Cond.methodLink (miY mi).cls idx (miY mj) ∈ TB) (hin : Cond.instanceMethod (miY mj) ∈ TB) (hse : Cond.selects (miY mj).cls (miY mj) (miY mj) ∈ TB) (hini : Cond.initialized (miY mj).cls ∈ TB)
    (hk : k < NC) (hc : cls[(sh k).1]? = some r) (hr : r.1 = (miY mj).cls) (hn : As.length = n) (hst : (st.map fun v => v.category).sum ≤ 8) (hR : CallR R mj dx nc ns) (hd : decode (miC mi) pc = .ok (.invokevirtual idx, 3)) (hS : Spec g mj dx (.ref k :: As) μ Φ)
    (kr : ∀ (v : Option Value) (μ' : Mem), Φ (.inl v) μ' → v.toList.map (tv g) = v.toList ∧ Wm g mi R Q (nc + miK mj) (ns + miS mj) (pc + 3) ls (v.toList ++ st) μ')
    (kx : ∀ (ex : Nat) (μ' : Mem), ex < 5 → Φ (.inr ex) μ' → WX g mi R Q (nc + miK mj) (ns + miS mj) pc ls ex μ') : Wm g mi R Q nc ns pc ls (As.reverse ++ .ref k :: st) μ := by
  intro p e s m args below meth c C H locs L hRp hSs hl
  have C' := C
  obtain ⟨hx, hb, hml, hr9, hlkk, hown, hts, hex, hE⟩ := C'
  have hci : (sh k).1 < 100 := Nat.lt_of_lt_of_le (List.getElem?_eq_some_iff.mp hc).1 (by decide)
  have hrec := va_recv hE.1 hRp hc (by rw [wd_at hk, cE_obj rfl hci])
  rw [hr] at hrec
  rw [stk_map]
  have hrun := vx_runV (As := As.map (tv g)) (rest := st.map (tv g)) (g := F0 m pc L ((As.map (tv g)).reverse ++ .ref (gr g k) :: st.map (tv g))) (below := below) (e := e) (meth := meth) (locs := locs) (cells := nc) (slots := ns) (H := H)
    ⟨hx, hb, hml, hown, hts⟩ hS ⟨callB_ok hts hM hH hR hini hlk, hts _ hin, hts _ hse⟩ ⟨PcM_blind g _ _, by rw [gr_lt hk]; exact hrec, fun U hU hW => ⟨rfl, by rw [hU]; exact hRp, hE.move hW (by rw [hU]; exact hSs)⟩⟩ rfl (by rw [List.length_map]; exact hn) hl.1 rfl (by show 2 * 0 + _ ≤ 8; rw [cat_map]; omega) hd ⟨hR.2.2.1, hR.2.2.2⟩
  exact am_after C hrun hSs hl kr kx
/-- a call on a text -/
theorem am_callW {k : Nat} (hM : MOK mj n) (hH : miH mj = []) (hc : (miY mj).cls = "java/lang/String") (hlk : Cond.methodLink (miY mi).cls idx (miY mj) ∈ TB) (hin : Cond.instanceMethod (miY mj) ∈ TB) (hse : Cond.selects (miY mj).cls (miY mj) (miY mj) ∈ TB) (hini : Cond.initialized (miY mj).cls ∈ TB)
    (hk1 : 1000 ≤ k) (hk2 : k < 1061) (hn : As.length = n) (hst : (st.map fun v => v.category).sum ≤ 8) (hR : CallR R mj dx nc ns) (hd : decode (miC mi) pc = .ok (.invokevirtual idx, 3)) (hS : Spec g mj dx (.ref k :: As) μ Φ)
    (kr : ∀ (v : Option Value) (μ' : Mem), Φ (.inl v) μ' → v.toList.map (tv g) = v.toList ∧ Wm g mi R Q (nc + miK mj) (ns + miS mj) (pc + 3) ls (v.toList ++ st) μ')
    (kx : ∀ (ex : Nat) (μ' : Mem), ex < 5 → Φ (.inr ex) μ' → WX g mi R Q (nc + miK mj) (ns + miS mj) pc ls ex μ') : Wm g mi R Q nc ns pc ls (As.reverse ++ .ref k :: st) μ := by
  intro p e s m args below meth c C H locs L hRp hSs hl
  have C' := C
  obtain ⟨hx, hb, hml, hr9, hlkk, hown, hts, hex, hE⟩ := C'
  obtain ⟨-, z, -⟩ := hE.2.2.1 (k - 1000) (by omega)
  obtain ⟨cell, z1, z2, z3, -⟩ := z.kept hSs.2.1
  rw [stk_map]
  have hrun := vx_runV (As := As.map (tv g)) (rest := st.map (tv g)) (g := F0 m pc L ((As.map (tv g)).reverse ++ .ref (gr g k) :: st.map (tv g))) (below := below) (e := e) (meth := meth) (locs := locs) (cells := nc) (slots := ns) (H := H)
    ⟨hx, hb, hml, hown, hts⟩ hS ⟨callB_ok hts hM hH hR hini hlk, hts _ hin, hts _ hse⟩ ⟨PcM_blind g _ _, ⟨cell, by rw [gr_str hk1 hk2]; exact z1, z2, by rw [hc]; exact z3⟩, fun U hU hW => ⟨rfl, by rw [hU]; exact hRp, hE.move hW (by rw [hU]; exact hSs)⟩⟩ rfl (by rw [List.length_map]; exact hn) hl.1 rfl (by show 2 * 0 + _ ≤ 8; rw [cat_map]; omega) hd ⟨hR.2.2.1, hR.2.2.2⟩
  exact am_after C hrun hSs hl kr kx
theorem am_callS (hM : MOK mj n) (hH : miH mj = []) (hlk : Cond.methodLink (miY mi).cls idx (miY mj) ∈ TB) (hst9 : Cond.static (miY mj) ∈ TB) (hini : Cond.initialized (miY mj).cls ∈ TB)
    (hn : As.length = n) (hst : (st.map fun v => v.category).sum ≤ 8) (hR : CallR R mj dx nc ns) (hd : decode (miC mi) pc = .ok (.invokestatic idx, 3)) (hS : Spec g mj dx As μ Φ)
    (kr : ∀ (v : Option Value) (μ' : Mem), Φ (.inl v) μ' → v.toList.map (tv g) = v.toList ∧ Wm g mi R Q (nc + miK mj) (ns + miS mj) (pc + 3) ls (v.toList ++ st) μ')
    (kx : ∀ (ex : Nat) (μ' : Mem), ex < 5 → Φ (.inr ex) μ' → WX g mi R Q (nc + miK mj) (ns + miS mj) pc ls ex μ') : Wm g mi R Q nc ns pc ls (As.reverse ++ st) μ := by
  intro p e s m args below meth c C H locs L hRp hSs hl
  have C' := C
  obtain ⟨hx, hb, hml, hr9, hlkk, hown, hts, hex, hE⟩ := C'
  rw [List.map_append, List.map_reverse]
  have hrun := vx_runS (As := As.map (tv g)) (rest := st.map (tv g)) (g := F0 m pc L ((As.map (tv g)).reverse ++ st.map (tv g))) (below := below) (e := e) (meth := meth) (locs := locs) (cells := nc) (slots := ns) (H := H)
    ⟨hx, hb, hml, hown, hts⟩ hS ⟨callB_ok hts hM hH hR hini hlk, hts _ hst9⟩ ⟨PcM_blind g _ _, fun U hU hW => ⟨rfl, by rw [hU]; exact hRp, hE.move hW (by rw [hU]; exact hSs)⟩⟩ rfl (by rw [List.length_map]; exact hn) hl.1 rfl (by show 2 * 0 + _ ≤ 8; rw [cat_map]; omega) hd ⟨hR.2.2.1, hR.2.2.2⟩
  exact am_after C hrun hSs hl kr kx
/-- a static method with handlers -/
theorem am_callSH {h9 : Nat × Nat × Nat × Nat} {t9 : List (Nat × Nat × Nat × Nat)} (hM : MOK mj n) (hH : miH mj = h9 :: t9) (hlk : Cond.methodLink (miY mi).cls idx (miY mj) ∈ TB) (hst9 : Cond.static (miY mj) ∈ TB) (hini : Cond.initialized (miY mj).cls ∈ TB)
    (hn : As.length = n) (hst : (st.map fun v => v.category).sum ≤ 8) (hR : CallR R mj dx nc ns) (hd : decode (miC mi) pc = .ok (.invokestatic idx, 3)) (hS : Spec g mj dx As μ Φ)
    (kr : ∀ (v : Option Value) (μ' : Mem), Φ (.inl v) μ' → v.toList.map (tv g) = v.toList ∧ Wm g mi R Q (nc + miK mj) (ns + miS mj) (pc + 3) ls (v.toList ++ st) μ')
    (kx : ∀ (ex : Nat) (μ' : Mem), ex < 5 → Φ (.inr ex) μ' → WX g mi R Q (nc + miK mj) (ns + miS mj) pc ls ex μ') : Wm g mi R Q nc ns pc ls (As.reverse ++ st) μ := by
  intro p e s m args below meth c C H locs L hRp hSs hl
  have C' := C
  obtain ⟨hx, hb, hml, hr9, hlkk, hown, hts, hex, hE⟩ := C'
  rw [List.map_append, List.map_reverse]
  have hw : wsOf mj = Cond.codeWith (miY mj) (miC mj) (miN mj) (miT mj) (h9 :: t9) :: TB := by unfold wsOf codeW; rw [hH]
  have hcw : Cond.codeWith (miY mj) (miC mj) (miN mj) (miT mj) (h9 :: t9) ∈ TB := by have := hM.1; unfold codeW at this; rw [hH] at this; exact this
  have hlo : 8 + (miN mj + 11) + (rm mj dx).locals ≤ R.locals := by have := hM.2.2.2; have := hR.2.1; show 8 + (miN mj + 11) + 100 * (miD mj + dx) ≤ R.locals; omega
  have cw : vx_CSW R s args (miY mi).cls idx (miY mj) (miC mj) (miN mj) (miT mj) (h9 :: t9) (wsOf mj) (rm mj dx) (miK mj) (miS mj) n :=
    ⟨⟨rfl, rfl, hR.1, hlo, pay_in hts (good_ws hM.1), by rw [hw]; exact List.mem_cons_self⟩, hts _ hcw, hts _ hini, ⟨hM.2.2.1.1, hM.2.2.1.2.1⟩, fun sig h => by
      have h2 := hM.2.2.1.2.2
      rw [h] at h2
      exact (Option.some.inj h2).symm, hts _ hlk, hts _ hst9⟩
  have hrun := vx_runSX (As := As.map (tv g)) (rest := st.map (tv g)) (g := F0 m pc L ((As.map (tv g)).reverse ++ st.map (tv g))) (below := below) (e := e) (meth := meth) (locs := locs) (cells := nc) (slots := ns) (H := H)
    ⟨hx, hb, hml, hown, hts⟩ hS cw ⟨PcM_blind g _ _, fun U hU hW => ⟨rfl, by rw [hU]; exact hRp, hE.move hW (by rw [hU]; exact hSs)⟩⟩ rfl (by rw [List.length_map]; exact hn) hl.1 rfl (by show 2 * 0 + _ ≤ 8; rw [cat_map]; omega) hd ⟨hR.2.2.1, hR.2.2.2⟩
  exact am_after C hrun hSs hl kr kx
/-- a static method of the nest's host -/
theorem am_callSN (hM : MOK mj n) (hH : miH mj = []) (hlk : Cond.methodLinkNest (miY mi).cls idx (miY mj) "SaidOnce" ∈ NW) (hst9 : Cond.static (miY mj) ∈ TB) (hini : Cond.initialized (miY mj).cls ∈ TB)
    (hn : As.length = n) (hst : (st.map fun v => v.category).sum ≤ 8) (hR : CallR R mj dx nc ns) (hd : decode (miC mi) pc = .ok (.invokestatic idx, 3)) (hS : Spec g mj dx As μ Φ) (hno : ∀ e μ', ¬ Φ (.inr e) μ')
    (kr : ∀ (v : Option Value) (μ' : Mem), Φ (.inl v) μ' → v.toList.map (tv g) = v.toList ∧ Wm g mi R Q (nc + miK mj) (ns + miS mj) (pc + 3) ls (v.toList ++ st) μ') : Wm g mi R Q nc ns pc ls (As.reverse ++ st) μ := by
  intro p e s m args below meth c C H locs L hRp hSs hl
  have C' := C
  obtain ⟨hx, hb, hml, hr9, hlkk, hown, hts, hex, hE⟩ := C'
  rw [List.map_append, List.map_reverse]
  have cw := va_cnB (R := R) (rm := rm mj dx) (mc := miK mj) (ms := miS mj) n hts (good_ws hM.1) (codeW_nil hH) rfl rfl (hE.2.1 _ hlk) (hts _ hini) hM.2.2.1 ⟨hR.1, by have := hM.2.2.2; have := hR.2.1; show 8 + (miN mj + 11) + 100 * (miD mj + dx) ≤ R.locals; omega⟩
  have hrun := va_runSN (As := As.map (tv g)) (rest := st.map (tv g)) (g := F0 m pc L ((As.map (tv g)).reverse ++ st.map (tv g))) (below := below) (e := e) (meth := meth) (locs := locs) (cells := nc) (slots := ns) (H := H)
    ⟨hx, hb, hml, hown, hts⟩ (met_of hS hno) ⟨cw, hts _ hst9, trivial⟩ ⟨PcM_blind g _ _, fun U hU hW => ⟨rfl, by rw [hU]; exact hRp, hE.move hW (by rw [hU]; exact hSs)⟩⟩ rfl (by rw [List.length_map]; exact hn) hl.1 rfl (by show 2 * 0 + _ ≤ 8; rw [cat_map]; omega) hd ⟨hR.2.2.1, hR.2.2.2⟩
  exact am_afterN C hrun hSs hl kr
/-- a method that the receiver's class inherits or overrides: named x, found y -/
theorem am_callU {k : Nat} {r : vw_C} {x : MethodName} {owner : String} (hM : MOK mj n) (hH : miH mj = []) (hlk : Cond.methodLink (miY mi).cls idx x ∈ TB) (hsm : Cond.sameMethod x.cls owner x.name x.desc ∈ TB) (hse : Cond.selects r.1 x (miY mj) ∈ TB) (hin : Cond.instanceMethod (miY mj) ∈ TB) (hini : Cond.initialized (miY mj).cls ∈ TB) (hdc : Cond.declares ⟨owner, x.name, x.desc⟩ ∈ NW)
    (how : owner ≠ "java/lang/invoke/MethodHandle" ∧ owner ≠ "java/lang/invoke/VarHandle" ∧ (parseMethodDescriptor x.desc).map (fun d => d.parameters.length) = some n)
    (hk : k < NC) (hc : cls[(sh k).1]? = some r) (hn : As.length = n) (hst : (st.map fun v => v.category).sum ≤ 8) (hR : CallR R mj dx nc ns) (hd : decode (miC mi) pc = .ok (.invokevirtual idx, 3)) (hS : Spec g mj dx (.ref k :: As) μ Φ) (hno : ∀ e μ', ¬ Φ (.inr e) μ')
    (kr : ∀ (v : Option Value) (μ' : Mem), Φ (.inl v) μ' → v.toList.map (tv g) = v.toList ∧ Wm g mi R Q (nc + miK mj) (ns + miS mj) (pc + 3) ls (v.toList ++ st) μ') : Wm g mi R Q nc ns pc ls (As.reverse ++ .ref k :: st) μ := by
  intro p e s m args below meth c C H locs L hRp hSs hl
  have C' := C
  obtain ⟨hx, hb, hml, hr9, hlkk, hown, hts, hex, hE⟩ := C'
  have hci : (sh k).1 < 100 := Nat.lt_of_lt_of_le (List.getElem?_eq_some_iff.mp hc).1 (by decide)
  have hrec := va_recv hE.1 hRp hc (by rw [wd_at hk, cE_obj rfl hci])
  rw [stk_map]
  have hG : GoodIn TB (va_wsU (miY mi).cls idx r.1 owner x (miY mj) (wsOf mj)) := by
    have key : ∀ w ∈ TB, w ∈ TB ∧ ((w.onTables && w.keeps) = true ∨ ∃ ty, w = .arrayClass ty) := fun w hw => ⟨hw, good_of_word (List.mem_filter.mp hw).2⟩
    intro w hw
    unfold va_wsU at hw
    rcases List.mem_append.mp hw with h | h
    · simp only [List.mem_cons, List.not_mem_nil, or_false] at h
      rcases h with rfl | rfl | rfl | rfl | rfl
      · exact key _ hlk
      · exact key _ hsm
      · exact key _ hse
      · exact key _ hin
      · exact key _ hini
    · exact good_ws hM.1 w h
  have cw := va_cwA (R := R) (rm := rm mj dx) (mc := miK mj) (ms := miS mj) n hts hG (codeW_nil hH) rfl rfl (hE.2.1 _ hdc) how ⟨hR.1, by have := hM.2.2.2; have := hR.2.1; show 8 + (miN mj + 11) + 100 * (miD mj + dx) ≤ R.locals; omega⟩
  have hrun := va_runU (As := As.map (tv g)) (rest := st.map (tv g)) (g := F0 m pc L ((As.map (tv g)).reverse ++ .ref (gr g k) :: st.map (tv g))) (below := below) (e := e) (meth := meth) (locs := locs) (cells := nc) (slots := ns) (H := H)
    ⟨hx, hb, hml, hown, hts⟩ (met_of hS hno) cw ⟨PcM_blind g _ _, by rw [gr_lt hk]; exact hrec, fun U hU hW => ⟨rfl, by rw [hU]; exact hRp, hE.move hW (by rw [hU]; exact hSs)⟩⟩ rfl (by rw [List.length_map]; exact hn) hl.1 rfl (by show 2 * 0 + _ ≤ 8; rw [cat_map]; omega) hd ⟨hR.2.2.1, hR.2.2.2⟩
  exact am_afterN C hrun hSs hl kr
end AM9
