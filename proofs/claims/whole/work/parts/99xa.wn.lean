/-! making: the first n cells stand; the judgement WN -/
def fN (g : Gl) (μ : Mem) (k j t : Nat) : Value := if t = 1 then .long (mL μ k j) else if t = 4 then (if mI μ k j = 0 then .null else va_rf ((rt k j).map (ga g))) else .int (mI μ k j)
def cN (g : Gl) (μ : Mem) (k : Nat) : va_E :=
  if (sh k).1 < 100 then .inr ((sh k).1, (List.range (sh k).2).map fun j => fN g μ k j (ftc (sh k).1 j))
  else if (sh k).1 = 101 then .inl (gA g 1, (sh k).2, .inr (.inl (mL μ k)))
  else if (sh k).1 = 104 then .inl (gA g 4, (sh k).2, .inr (.inr (.inr (.inr fun i => if mI μ k i = 0 then none else some (ga g (mP μ i))))))
  else .inl (gA g ((sh k).1 - 100), (sh k).2, .inl (mI μ k))
def wN (g : Gl) (μ : Mem) (n : Nat) : va_W := (List.range n).map fun k => (ga g k, cN g μ k)
def Zf (n : Nat) (μ : Mem) : Prop := ∀ k, n ≤ k → ∀ j, mI μ k j = 0 ∧ mL μ k j = 0
def RN (g : Gl) (n : Nat) (μ : Mem) (H : Heap) : Prop := n ≤ NC ∧ H.size = gb g + n ∧ va_P (gD g) cls (wN g μ n) H ∧ Zf n μ
def GL (g : Gl) : Prop := ∀ k, ga g k = gb g + k
def WN (g : Gl) (mi : MI) (R : Room) (Q : QT) (n nc ns pc : Nat) (ls : List (Nat × Value)) (st : List Value) (μ : Mem) : Prop :=
  ∀ (p : Program) (e : Env) (s : State) (m : MethodId) (args : Array Value) (below : List Frame) (meth : Method) (c : Code), Ctx g mi p s m args meth c → ((miY mi).name = "<init>" → meth.name = "<init>") → va_AO "SaidOnce$State" s → gb g + n = s.heap.size + nc →
    ∀ (H : Heap) (locs : List Loc) (L : Array Slot), RN g n μ H → va_S (gP g) s.heap H locs → lv_has L (miN mi) (tl g ls) →
      W p (gl g) e R s m args below meth c H locs nc ns (Q below args s) (F0 m pc L (st.map (tv g)))
theorem wN_at {g : Gl} {μ : Mem} {n k : Nat} (hk : k < n) : (wN g μ n)[k]? = some (ga g k, cN g μ k) := by simp [wN, hk]
theorem wN_D {g : Gl} {μ : Mem} {n : Nat} (hG : GL g) : va_D (gP g) (wN g μ n) := by
  have key : ∀ (k : Nat) (q : Nat × va_E), (wN g μ n)[k]? = some q → q.1 = gb g + k := by
    intro k q h
    have hk : k < n := by have := (List.getElem?_eq_some_iff.mp h).1; simpa [wN] using this
    rw [wN_at hk] at h
    rw [← Option.some.inj h]; exact hG k
  exact ⟨fun i j p q hp hq e => by have := key i p hp; have := key j q hq; omega, fun k q h => by show gb g ≤ q.1; rw [key k q h]; omega⟩
theorem wN_succ {g : Gl} {μ : Mem} {n : Nat} : wN g μ (n + 1) = wN g μ n ++ [(ga g n, cN g μ n)] := by
  unfold wN; rw [List.range_succ, List.map_append]; rfl
theorem RN.push {g : Gl} {n : Nat} {μ : Mem} {H H1 : Heap} (h : RN g n μ H) (hn : n < NC) (z : H1.size = gb g + n + 1) (o : ∀ q, q < gb g + n → H1[q]? = H[q]?) (ha : va_at (gD g) cls (ga g n, cN g μ n) H1) : RN g (n + 1) μ H1 := by
  obtain ⟨h1, h2, h3, h4⟩ := h
  refine ⟨hn, by omega, ?_, fun k hk => h4 k (by omega)⟩
  rw [wN_succ]
  refine (h3.kept fun k q hq => o q.1 (by rw [← h2]; exact (h3 k q hq).lt)).app fun k q hq => ?_
  have hz : k < 1 := (List.getElem?_eq_some_iff.mp hq).1
  rw [show k = 0 by omega] at hq
  cases hq
  exact ha
theorem cN_obj {g : Gl} {μ : Mem} {k ci : Nat} (h : (sh k).1 = ci) (hc : ci < 100) : cN g μ k = .inr (ci, (List.range (sh k).2).map fun j => fN g μ k j (ftc ci j)) := by
  unfold cN; rw [if_pos (by rw [h]; exact hc), h]
theorem cN_i {g : Gl} {μ : Mem} {k t : Nat} (h : (sh k).1 = 100 + t) (h1 : t ≠ 1) (h4 : t ≠ 4) : cN g μ k = .inl (gA g t, (sh k).2, .inl (mI μ k)) := by
  unfold cN; rw [h, if_neg (by omega), if_neg (by omega), if_neg (by omega), Nat.add_sub_cancel_left]
theorem cN_l {g : Gl} {μ : Mem} {k : Nat} (h : (sh k).1 = 101) : cN g μ k = .inl (gA g 1, (sh k).2, .inr (.inl (mL μ k))) := by
  unfold cN; rw [h, if_neg (by omega), if_pos rfl]
theorem cN_a {g : Gl} {μ : Mem} {k : Nat} (h : (sh k).1 = 104) : cN g μ k = .inl (gA g 4, (sh k).2, .inr (.inr (.inr (.inr fun i => if mI μ k i = 0 then none else some (ga g (mP μ i)))))) := by
  unfold cN; rw [h, if_neg (by omega), if_neg (by omega), if_pos rfl]
theorem cN_I {g : Gl} {μ : Mem} {k j i : Nat} {x : Int32} (h : i ≠ k) : cN g (sI μ k j x) i = cN g μ i := by
  have e1 : mI (sI μ k j x) i = mI μ i := u2_row h
  have e2 : mL (sI μ k j x) = mL μ := rfl
  have e3 : mP (sI μ k j x) = mP μ := rfl
  unfold cN fN; rw [e1, e2, e3]
theorem Zf_I {n k j : Nat} {μ : Mem} {x : Int32} (h : Zf n μ) (hk : k < n) : Zf n (sI μ k j x) := fun a ha b => by
  obtain ⟨h1, h2⟩ := h a ha b
  exact ⟨by show mI (sI μ k j x) a b = 0; rw [show mI (sI μ k j x) a = mI μ a from u2_row (by omega)]; exact h1, h2⟩
theorem Zf_P {n j v : Nat} {μ : Mem} (h : Zf n μ) : Zf n (sP μ j v) := h
theorem wN_set {g : Gl} {μ μ' : Mem} {n k : Nat} {e : va_E} (hk : k < n) (he : cN g μ' k = e) (ho : ∀ i, i < n → i ≠ k → cN g μ' i = cN g μ i) : (wN g μ n).set k (ga g k, e) = wN g μ' n := by
  apply List.ext_getElem?
  intro i
  rw [List.getElem?_set]
  by_cases h : k = i
  · subst h
    rw [if_pos rfl, wN_at hk, he]
    simp [wN, hk]
  · rw [if_neg h]
    by_cases hi : i < n
    · rw [wN_at hi, wN_at hi, ho i hi (fun q => h q.symm)]
    · simp [wN, hi]
theorem va_S_new {A : Nat → Prop} {H0 H H1 : Heap} {locs : List Loc} {h : Nat} (hS : va_S A H0 H locs) (hh : H.size = h) (z : H1.size = h + 1) (o : ∀ q, q < h → H1[q]? = H[q]?) : va_S A H0 H1 locs :=
  ⟨Nat.le_trans hS.1 (by omega), fun x h1 h2 => (o x (by have := hS.1; omega)).trans (hS.2.1 x h1 h2), hS.2.2⟩
theorem ftc_def : ∀ ci, ci < 12 → ∀ j, j < 32 → ∀ r, cls[ci]? = some r → j < r.2.2 → (ftc ci j = 1 ∧ defaultValue (cTy r.2.1 j) = .long 0) ∨ (ftc ci j = 4 ∧ defaultValue (cTy r.2.1 j) = .null ∧ ∀ a, narrow (cTy r.2.1 j) (.ref a) = .ref a ∧ fits (cTy r.2.1 j) (.ref a) = true) ∨ (ftc ci j ≠ 1 ∧ ftc ci j ≠ 4 ∧ defaultValue (cTy r.2.1 j) = .int 0) := by
  have key : ∀ ty : FieldType, defaultValue ty = .null → ∀ a, narrow ty (.ref a) = .ref a ∧ fits ty (.ref a) = true := by
    intro ty h a
    cases ty <;> first | exact ⟨rfl, rfl⟩ | (exact absurd h (by simp [defaultValue]))
  have sup : ∀ ci, ci < 12 → ∀ j, j < 32 → ∀ r, cls[ci]? = some r → j < r.2.2 → (ftc ci j = 1 ∧ defaultValue (cTy r.2.1 j) = .long 0) ∨ (ftc ci j = 4 ∧ defaultValue (cTy r.2.1 j) = .null) ∨ (ftc ci j ≠ 1 ∧ ftc ci j ≠ 4 ∧ defaultValue (cTy r.2.1 j) = .int 0) := by
    intro ci hci
    match ci, hci with
    | 0, _ => intro j hj r hr; cases hr; revert j; decide +kernel
    | 1, _ => intro j hj r hr; cases hr; revert j; decide +kernel
    | 2, _ => intro j hj r hr; cases hr; revert j; decide +kernel
    | 3, _ => intro j hj r hr; cases hr; revert j; decide +kernel
    | 4, _ => intro j hj r hr; cases hr; revert j; decide +kernel
    | 5, _ => intro j hj r hr; cases hr; revert j; decide +kernel
    | 6, _ => intro j hj r hr; cases hr; revert j; decide +kernel
    | 7, _ => intro j hj r hr; cases hr; revert j; decide +kernel
    | 8, _ => intro j hj r hr; cases hr; revert j; decide +kernel
    | 9, _ => intro j hj r hr; cases hr; revert j; decide +kernel
    | 10, _ => intro j hj r hr; cases hr; revert j; decide +kernel
    | 11, _ => intro j hj r hr; cases hr; revert j; decide +kernel
    | n + 12, h => omega
  intro ci hci j hj r hr hjr
  rcases sup ci hci j hj r hr hjr with h | ⟨h1, h2⟩ | h
  · exact Or.inl h
  · exact Or.inr (Or.inl ⟨h1, h2, key _ h2⟩)
  · exact Or.inr (Or.inr h)
section WNR
variable {g : Gl} {mi : MI} {R : Room} {Q : QT} {n nc ns pc : Nat} {ls : List (Nat × Value)} {st : List Value} {μ : Mem}
theorem wn_aload_n {i : Fin 4} {a : Nat} (hx : lk ls i = some (.ref a)) (hd : decode (miC mi) pc = .ok (.aload_n i, 1)) (k : WN g mi R Q n nc ns (pc + 1) ls (.ref a :: st) μ) : WN g mi R Q n nc ns pc ls st μ := fun p e s m args below meth c C hn hO hz H locs L hR hS hl =>
  lv_aload_n C.1 C.2.1 hd rfl (lk_at hl hx) (k p e s m args below meth c C hn hO hz H locs L hR hS hl)
theorem wn_iload_n {i : Fin 4} {a : Int32} (hx : lk ls i = some (.int a)) (hd : decode (miC mi) pc = .ok (.iload_n i, 1)) (k : WN g mi R Q n nc ns (pc + 1) ls (.int a :: st) μ) : WN g mi R Q n nc ns pc ls st μ := fun p e s m args below meth c C hn hO hz H locs L hR hS hl =>
  lv_iload_n C.1 C.2.1 hd rfl (lk_at hl hx) (k p e s m args below meth c C hn hO hz H locs L hR hS hl)
theorem wn_iconst {v : Int} {x : Int32} (hx : iv v = x) (hd : decode (miC mi) pc = .ok (.iconst v, 1)) (k : WN g mi R Q n nc ns (pc + 1) ls (.int x :: st) μ) : WN g mi R Q n nc ns pc ls st μ := fun p e s m args below meth c C hn hO hz H locs L hR hS hl =>
  lv_iconst C.1 C.2.1 hd ((iv_ofInt v).trans hx) (k p e s m args below meth c C hn hO hz H locs L hR hS hl)
theorem wn_bipush {v : Int} {x : Int32} (hx : (Int8.ofInt v).toInt32 = x) (hd : decode (miC mi) pc = .ok (.bipush v, 2)) (k : WN g mi R Q n nc ns (pc + 2) ls (.int x :: st) μ) : WN g mi R Q n nc ns pc ls st μ := fun p e s m args below meth c C hn hO hz H locs L hR hS hl =>
  lv_bipush C.1 C.2.1 hd hx (k p e s m args below meth c C hn hO hz H locs L hR hS hl)
theorem wn_sipush {v : Int} {x : Int32} (hx : (Int16.ofInt v).toInt32 = x) (hd : decode (miC mi) pc = .ok (.sipush v, 3)) (k : WN g mi R Q n nc ns (pc + 3) ls (.int x :: st) μ) : WN g mi R Q n nc ns pc ls st μ := fun p e s m args below meth c C hn hO hz H locs L hR hS hl =>
  lv_sipush C.1 C.2.1 hd hx (k p e s m args below meth c C hn hO hz H locs L hR hS hl)
theorem wn_ldc {idx pl : Nat} {v : Int32} (hq : tbAt (pl, .constant (miY mi).cls idx v) = true) (hd : decode (miC mi) pc = .ok (.ldc idx, 2)) (k : WN g mi R Q n nc ns (pc + 2) ls (.int v :: st) μ) : WN g mi R Q n nc ns pc ls st μ := fun p e s m args below meth c C hn hO hz H locs L hR hS hl =>
  lv_ldc C.1 C.2.1 C.2.2.2.2.2.1 (C.2.2.2.2.2.2.1 _ (tb_of hq)) hd (k p e s m args below meth c C hn hO hz H locs L hR hS hl)
theorem wn_dup {v : Value} (hv : v.category = 1) (hd : decode (miC mi) pc = .ok (.dup, 1)) (k : WN g mi R Q n nc ns (pc + 1) ls (v :: v :: st) μ) : WN g mi R Q n nc ns pc ls (v :: st) μ := fun p e s m args below meth c C hn hO hz H locs L hR hS hl =>
  lv_dup C.1 C.2.1 hd ((tv_cat g v).trans hv) (k p e s m args below meth c C hn hO hz H locs L hR hS hl)
theorem wn_astore_n {i : Fin 4} {a : Nat} (hi : (i : Nat) < miN mi) (hd : decode (miC mi) pc = .ok (.astore_n i, 1)) (k : WN g mi R Q n nc ns (pc + 1) (lput ls i (.ref a)) st μ) : WN g mi R Q n nc ns pc ls (.ref a :: st) μ := fun p e s m args below meth c C hn hO hz H locs L hR hS hl =>
  lv_astore_n C.1 C.2.1 hd rfl hl hi rfl fun L' hl' => k p e s m args below meth c C hn hO hz H locs L' hR hS (lv_weak hl' (lput_sub1 rfl))
theorem wn_istore_n {i : Fin 4} {a : Int32} (hi : (i : Nat) < miN mi) (hd : decode (miC mi) pc = .ok (.istore_n i, 1)) (k : WN g mi R Q n nc ns (pc + 1) (lput ls i (.int a)) st μ) : WN g mi R Q n nc ns pc ls (.int a :: st) μ := fun p e s m args below meth c C hn hO hz H locs L hR hS hl =>
  lv_istore_n C.1 C.2.1 hd rfl hl hi rfl fun L' hl' => k p e s m args below meth c C hn hO hz H locs L' hR hS (lv_weak hl' (lput_sub1 rfl))
theorem wn_iinc {i : Nat} {v : Int} {x : Int32} (hi : i < miN mi) (hx : lk ls i = some (.int x)) (hd : decode (miC mi) pc = .ok (.iinc i v, 3)) (k : WN g mi R Q n nc ns (pc + 3) (lput ls i (.int (x + iv v))) st μ) : WN g mi R Q n nc ns pc ls st μ := by
  intro p e s m args below meth c C hn hO hz H locs L hR hS hl
  obtain ⟨q, hq⟩ := List.getElem?_of_mem (List.mem_map.mpr ⟨(i, .int x), lk_mem hx, rfl⟩ : (i, tv g (.int x)) ∈ tl g ls)
  exact lv_iinc C.1 C.2.1 hd hl hq (by rw [iv_ofInt]) hi rfl fun L' hl' => k p e s m args below meth c C hn hO hz H locs L' hR hS (lv_weak hl' (lput_sub1 rfl))
theorem wn_goto {off : Int} (ho : 0 ≤ (pc : Int) + off) (hd : decode (miC mi) pc = .ok (.goto off, 3)) (k : WN g mi R Q n nc ns (jt pc off) ls st μ) : WN g mi R Q n nc ns pc ls st μ := fun p e s m args below meth c C hn hO hz H locs L hR hS hl =>
  lv_goto C.1 C.2.1 hd (jt_ok ho) (k p e s m args below meth c C hn hO hz H locs L hR hS hl)
theorem wn_icmp_ge {off : Int} {x y : Int32} (ho : 0 ≤ (pc : Int) + off) (hd : decode (miC mi) pc = .ok (.if_icmp .ge off, 3)) (k : (y ≤ x → WN g mi R Q n nc ns (jt pc off) ls st μ) ∧ (¬ y ≤ x → WN g mi R Q n nc ns (pc + 3) ls st μ)) : WN g mi R Q n nc ns pc ls (.int y :: .int x :: st) μ := fun p e s m args below meth c C hn hO hz H locs L hR hS hl =>
  lv_icmp_ge C.1 C.2.1 hd (jt_ok ho) (fun h => k.1 h p e s m args below meth c C hn hO hz H locs L hR hS hl) (fun h => k.2 h p e s m args below meth c C hn hO hz H locs L hR hS hl)
theorem wn_obj {idx k : Nat} (hl1 : Cond.methodLink (miY mi).cls idx Lib.objectInit ∈ TB) (hi1 : Cond.instanceMethod Lib.objectInit ∈ TB) (hc1 : Cond.code Lib.objectInit ⟨#[0xb1]⟩ 1 none ∈ TB) (hR1 : 1 ≤ R.frames) (hR2 : 20 ≤ R.locals) (hst : (st.map fun v => v.category).sum ≤ 8) (hd : decode (miC mi) pc = .ok (.invokespecial idx, 3))
    (kk : WN g mi R Q n nc ns (pc + 3) ls st μ) : WN g mi R Q n nc ns pc ls (.ref k :: st) μ := by
  intro p e s m args below meth c C hn hO hz H locs L hR hS hl
  have hts := C.2.2.2.2.2.2.1
  refine W.objInit (a := gr g k) (rest := st.map (tv g)) C.1 C.2.1 C.2.2.2.2.2.1 (hts _ hl1) (hts _ hi1) (hts _ hc1) rfl (by show L.size = _; rw [C.2.2.1]; exact hl.1) rfl hd hR1 (by show 2 * 0 + _ + 12 ≤ _; rw [cat_map]; omega) ?_
  exact W.eq (g2 := F0 m (pc + 3) L (st.map (tv g))) rfl (kk p e s m args below meth c C hn hO hz H locs L hR hS hl)
theorem gr_N (hG : GL g) {k : Nat} (hk : k < NC) : gr g k = gb g + k := (gr_lt hk).trans (hG k)
theorem wn_new {idx ci : Nat} {r : vw_C} (hG : GL g) (hn : n < NC) (hs : (sh n).1 = ci) (hr : cls[ci]? = some r) (hcl : Cond.classLink (miY mi).cls idx r.1 ∈ TB) (hin : Cond.instantiable r.1 r.2.2 ∈ TB) (hini : Cond.initialized r.1 ∈ TB) (h1 : nc + 1 ≤ R.cells) (h2 : ns + r.2.2 ≤ R.slots) (hd : decode (miC mi) pc = .ok (.new idx, 3))
    (kk : WN g mi R Q (n + 1) (nc + 1) (ns + r.2.2) (pc + 3) ls (.ref n :: st) μ) : WN g mi R Q n nc ns pc ls st μ := by
  intro p e s m args below meth c C hnm hO hz H locs L hR hS hl
  have k9 := kk p e s m args below meth c C hnm hO (by omega)
  obtain ⟨hx, hb, hml, hret, hlk, hown, hts, hex, hE⟩ := C
  obtain ⟨r1, r2, r3, r4⟩ := id hR
  have hok := cls_ok hr
  have hKn := hE.1.1 ci _ hr
  have hci12 : ci < 12 := (List.getElem?_eq_some_iff.mp hr).1
  have hci : ci < 100 := Nat.lt_of_lt_of_le hci12 (by decide)
  have hN : (sh n).2 = r.2.2 := by
    have := sh_n n hn (by rw [hs]; exact hci)
    rw [hs, hr] at this
    exact (Option.some.inj this).symm
  refine W.newcK hx hb hown (hts _ hcl) (hts _ hin) (hts _ hini) rfl hd h1 h2 hKn.2.1 r2 fun H1 kC hkC e1 z1 o1 => ?_
  have hat : va_at (gD g) cls (ga g n, cN g μ n) H1 := by
    rw [hG n, cN_obj hs hci]
    refine ⟨_, hr, (u_born (cTy r.2.1) hts hok.1 hKn hkC e1 hok.2.1).to fun j hj => ?_⟩
    rw [hN]
    have e3 : vp_V ((List.range r.2.2).map fun j => fN g μ n j (ftc ci j)) j = fN g μ n j (ftc ci j) := by simp [vp_V, hj]
    show defaultValue _ = _
    rw [e3]
    have hj32 : j < 32 := Nat.lt_of_lt_of_le hj (by rw [← hN]; exact sh_small n hn (by rw [hs]; exact hci))
    obtain ⟨z1, z2⟩ := r4 n (Nat.le_refl _) j
    rcases ftc_def ci hci12 j hj32 r hr hj with ⟨f1, f2⟩ | ⟨f1, f2, -⟩ | ⟨f1, f2, f3⟩
    · rw [f2, f1]; unfold fN; rw [if_pos rfl, z2]
    · rw [f2, f1]; unfold fN; rw [if_neg (by decide), if_pos rfl, if_pos z1]
    · rw [f3]; unfold fN; rw [if_neg f1, if_neg f2, z1]
  have e9 := k9 H1 locs L (hR.push hn z1 o1 hat) (va_S_new hS r2 z1 o1) hl
  rw [List.map_cons, show tv g (.ref n) = .ref (gb g + n) by show Value.ref (gr g n) = _; rw [gr_N hG hn]] at e9
  exact e9
def aT (t : Nat) : ArrayType := match t with | 0 => .int | 1 => .long | 2 => .byte | _ => .boolean
theorem wn_newa {t N : Nat} {len : Int32} (hG : GL g) (hn : n < NC) (ht : t < 4) (hs : sh n = (100 + t, N)) (hq : Cond.arrayClass (newarray.typeOf (aT t)) ∈ TB) (h0 : ¬ len < 0) (hN : len.toNatClampNeg = N) (hby : N * componentBytes (newarray.typeOf (aT t)) ≤ 536870912) (h1 : nc + 1 ≤ R.cells) (h2 : ns + N ≤ R.slots) (hd : decode (miC mi) pc = .ok (.newarray (aT t), 2))
    (kk : WN g mi R Q (n + 1) (nc + 1) (ns + N) (pc + 2) ls (.ref n :: st) μ) : WN g mi R Q n nc ns pc ls (.int len :: st) μ := by
  intro p e s m args below meth c C hnm hO hz H locs L hR hS hl
  have k9 := kk p e s m args below meth c C hnm hO (by omega)
  obtain ⟨hx, hb, hml, hret, hlk, hown, hts, hex, hE⟩ := C
  obtain ⟨r1, r2, r3, r4⟩ := id hR
  refine va_newaK (rest := st.map (tv g)) hx hb (hts _ hq) rfl hd rfl h0 hN hby h1 h2 r2 fun H1 cA e1 z1 o1 hAr hNm => ?_
  have s1 : (sh n).1 = 100 + t := by rw [hs]
  have s2 : (sh n).2 = N := by rw [hs]
  have hI : mI μ n = fun _ => 0 := by funext j; exact (r4 n (Nat.le_refl _) j).1
  have hL : mL μ n = fun _ => 0 := by funext j; exact (r4 n (Nat.le_refl _) j).2
  have hat : va_at (gD g) cls (ga g n, cN g μ n) H1 := by
    rw [hG n]
    match t, ht with
    | 0, _ =>
      have hA : gA g 0 = cA := by have := (hE.1.2 0 _ rfl).2; exact Option.some.inj ((Eq.symm this).trans hNm)
      rw [cN_i (t := 0) s1 (by decide) (by decide), hI, s2, hA]; exact e1
    | 1, _ =>
      have hA : gA g 1 = cA := by have := (hE.1.2 1 _ rfl).2; exact Option.some.inj ((Eq.symm this).trans hNm)
      rw [cN_l s1, hL, s2, hA]; exact e1
    | 2, _ =>
      have hA : gA g 2 = cA := by have := (hE.1.2 2 _ rfl).2; exact Option.some.inj ((Eq.symm this).trans hNm)
      rw [cN_i (t := 2) s1 (by decide) (by decide), hI, s2, hA]; exact e1
    | 3, _ =>
      have hA : gA g 3 = cA := by have := (hE.1.2 3 _ rfl).2; exact Option.some.inj ((Eq.symm this).trans hNm)
      rw [cN_i (t := 3) s1 (by decide) (by decide), hI, s2, hA]; exact e1
  have e9 := k9 H1 locs L (hR.push hn z1 o1 hat) (va_S_new hS r2 z1 o1) hl
  rw [List.map_cons, show tv g (.ref n) = .ref (gb g + n) by show Value.ref (gr g n) = _; rw [gr_N hG hn]] at e9
  exact e9
theorem wn_newq {N idx : Nat} {len : Int32} (hG : GL g) (hn : n < NC) (hs : sh n = (104, N)) (hq : Cond.classLink (miY mi).cls idx "SaidOnce$State" ∈ TB) (h0 : ¬ len < 0) (hN : len.toNatClampNeg = N) (hby : N * 4 ≤ 536870912) (h1 : nc + 1 ≤ R.cells) (h2 : ns + N ≤ R.slots) (hd : decode (miC mi) pc = .ok (.anewarray idx, 3))
    (kk : WN g mi R Q (n + 1) (nc + 1) (ns + N) (pc + 3) ls (.ref n :: st) μ) : WN g mi R Q n nc ns pc ls (.int len :: st) μ := by
  intro p e s m args below meth c C hnm hO hz H locs L hR hS hl
  have k9 := kk p e s m args below meth c C hnm hO (by omega)
  obtain ⟨hx, hb, hml, hret, hlk, hown, hts, hex, hE⟩ := C
  obtain ⟨r1, r2, r3, r4⟩ := id hR
  subst hN
  refine W.anew (rest := st.map (tv g)) hx hb hown (hts _ hq) (va_AO.use hO) rfl hd rfl h0 hby h1 h2 fun cA kA comp f1 f2 f3 f4 => ?_
  generalize hH1 : H.push ({ cls := cA, slots := Array.replicate len.toNatClampNeg .null, vm := .none } : Cell) = H1
  have z1 : H1.size = gb g + n + 1 := by rw [← hH1, Array.size_push, r2]
  have e1 : H1[gb g + n]? = some (arrV cA len.toNatClampNeg (fun _ => .null)) := by rw [← r2, ← hH1, Array.getElem?_push_size, ← arrV_new]
  have o1 : ∀ q : Nat, q < gb g + n → H1[q]? = H[q]? := fun q hq => by rw [← hH1, Array.getElem?_push, if_neg (by omega)]
  have hat : va_at (gD g) cls (ga g n, cN g μ n) H1 := by
    obtain ⟨kA', comp', g1, g2, g3, g4⟩ := (hE.1.2 4 _ rfl).2
    have hA : gA g 4 = cA := Option.some.inj ((Eq.symm g4).trans f1)
    rw [hG n, cN_a (by rw [hs]), hA, hs]
    have : (fun i => if mI μ n i = 0 then none else some (ga g (mP μ i))) = fun _ => none := by funext j; rw [(r4 n (Nat.le_refl _) j).1]; rfl
    rw [this]; exact e1
  have e9 := k9 H1 locs L (hR.push hn z1 o1 hat) (va_S_new hS r2 z1 o1) hl
  rw [List.map_cons, show tv g (.ref n) = .ref (gb g + n) by show Value.ref (gr g n) = _; rw [gr_N hG hn]] at e9
  rw [r2]
  exact e9
end WNR
