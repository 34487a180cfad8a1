/-! making: fields, calls, ends -/
def refB (q : Fld) : Bool := match cls[q.2.1]? with
  | none => false
  | some r => (r.2.1 q.2.2.1).2.2.2 && Nat.beq (ftc q.2.1 q.2.2.1) 4
def intB (q : Fld) : Bool := match cls[q.2.1]? with
  | none => false
  | some r => !(r.2.1 q.2.2.1).2.2.2 && Nat.beq (ftc q.2.1 q.2.2.1) 0
def ownB (own : String) (q : Fld) : Bool := match cls[q.2.1]? with
  | none => false
  | some r => Nat.blt q.2.2.1 r.2.2 && decide ((r.2.1 q.2.2.1).1 = own) && tbAt (q.2.2.2.2.1, .fieldLink own q.1 (r.2.1 q.2.2.1).1 (r.2.1 q.2.2.1).2.1 (r.2.1 q.2.2.1).2.2.1)
theorem W.sz {p : Program} {l : Launch} {e : Env} {R : Room} {s : State} {m : MethodId} {args : Array Value} {below : List Frame} {meth : Method} {c : Code} {H : Heap} {locs : List Loc} {cells slots : Nat} {Q : State → Prop} {f : JFrame}
    (kk : H.size ≤ s.heap.size + cells → W p l e R s m args below meth c H locs cells slots Q f) : W p l e R s m args below meth c H locs cells slots Q f := fun T hT X => kk (by rw [← hT]; exact X.heapSize) T hT X
theorem va_S.tr {A : Nat → Prop} {H0 H H1 : Heap} {l0 l1 : List Loc} (h : va_S A H0 H l0) (k : va_S A H H1 l1) : va_S A H0 H1 l1 :=
  ⟨Nat.le_trans h.1 k.1, fun q h1 h2 => (k.2.1 q (Nat.lt_of_lt_of_le h1 h.1) h2).trans (h.2.1 q h1 h2), k.2.2⟩
theorem va_S.here {A : Nat → Prop} {H0 H : Heap} {l0 : List Loc} (h : va_S A H0 H l0) : va_S A H H l0 := ⟨Nat.le_refl _, fun _ _ _ => rfl, h.2.2⟩
section WNP
variable {g : Gl} {mi : MI} {R : Room} {Q : QT} {n nc ns pc : Nat} {ls : List (Nat × Value)} {st : List Value} {μ : Mem}
theorem RN.put {k j : Nat} {x : Int32} {H H1 : Heap} (hR : RN g n μ H) (hk : k < n) (h2 : va_P (gD g) cls (wN g (sI μ k j x) n) H1) (hz : H1.size = gb g + n) : RN g n (sI μ k j x) H1 :=
  ⟨hR.1, hz, h2, Zf_I hR.2.2.2 hk⟩
theorem mI_self {k j : Nat} {x : Int32} : mI (sI μ k j x) k j = x := by show u2 _ k j x k j = x; rw [u2_self, if_pos rfl]
theorem mI_other {k j i : Nat} {x : Int32} (h : i ≠ j) : mI (sI μ k j x) k i = mI μ k i := by show u2 _ k j x k i = _; rw [u2_self, if_neg h]; rfl
theorem wn_putR {idx ci j pl k v : Nat} (hG : GL g) (hi : (miY mi).name = "<init>") (hq : ownB (miY mi).cls (idx, ci, j, 0, pl, 0) = true) (hf : refB (idx, ci, j, 0, pl, 0) = true) (hk : k < n) (hc : (sh k).1 = ci) (hv : v < NC) (hrt : rt k j = some v) (hd : decode (miC mi) pc = .ok (.putfield idx, 3))
    (kk : WN g mi R Q n nc ns (pc + 3) ls st (sI μ k j 1)) : WN g mi R Q n nc ns pc ls (.ref v :: .ref k :: st) μ := by
  intro p e s m args below meth c C hnm hO hz H locs L hR hS hl
  have k9 := kk p e s m args below meth c C hnm hO hz
  obtain ⟨hx, hb, hml, hr, hlk, hown, hts, hex, hE⟩ := C
  have hkN : k < NC := Nat.lt_of_lt_of_le hk hR.1
  unfold ownB at hq
  unfold refB at hf
  cases hr0 : cls[ci]? with
  | none => simp only [hr0] at hq; cases hq
  | some r =>
    obtain ⟨Cn, T, N⟩ := r
    simp only [hr0, Bool.and_eq_true, decide_eq_true_eq] at hq hf
    obtain ⟨⟨hj, hdecl⟩, hlink⟩ := hq
    obtain ⟨hfin, hf4⟩ := hf
    have hf4 : ftc ci j = 4 := Nat.eq_of_beq_eq_true hf4
    have hj : j < N := Nat.le_of_ble_eq_true hj
    have hci12 : ci < 12 := (List.getElem?_eq_some_iff.mp hr0).1
    have hci : ci < 100 := Nat.lt_of_lt_of_le hci12 (by decide)
    have hn : (sh k).2 = N := by
      have := sh_n k hkN (by rw [hc]; exact hci)
      rw [hc, hr0] at this
      exact (Option.some.inj this).symm
    have hj32 : j < 32 := Nat.lt_of_lt_of_le hj (by rw [← hn]; exact sh_small k hkN (by rw [hc]; exact hci))
    have hgk : gr g k = ga g k := gr_lt hkN
    have he : (wN g μ n)[k]? = some (gr g k, .inr (ci, (List.range N).map fun j => fN g μ k j (ftc ci j))) := by
      rw [wN_at hk, hgk, cN_obj hc hci, hn]
    have hok := cls_ok hr0
    have hset : (wN g μ n).set k (gr g k, .inr (ci, ((List.range N).map fun j => fN g μ k j (ftc ci j)).set j (tv g (.ref v)))) = wN g (sI μ k j 1) n := by
      rw [hgk]
      refine wN_set hk ?_ (fun i _ hi => cN_I hi)
      rw [cN_obj hc hci, hn]
      congr 2
      refine (set_map ?_ ?_).symm
      · show _ = Value.ref (gr g v)
        unfold fN
        rw [hf4, if_neg (by decide), if_pos rfl, mI_self, if_neg (by decide), hrt, gr_lt hv]; rfl
      · intro i hi
        unfold fN
        rw [mI_other hi]; rfl
    have hd9 : parseFieldDescriptor (T j).2.2.1 = some (cTy T j) := hok.2.1 j hj
    have hnf : narrow (cTy T j) (.ref (gr g v)) = .ref (gr g v) ∧ fits (cTy T j) (.ref (gr g v)) = true := by
      rcases ftc_def ci hci12 j hj32 _ hr0 hj with ⟨f1, -⟩ | ⟨-, -, f3⟩ | ⟨-, f2, -⟩
      · rw [hf4] at f1; cases f1
      · exact f3 (gr g v)
      · exact absurd hf4 f2
    have hlen : j < ((List.range N).map fun j => fN g μ k j (ftc ci j)).length := by simpa using hj
    refine va_putF (ref := (T j).1) hx hb hts hok.1 (cTy T) hok.2.1 hok.2.2 hown hE.1 hR.2.2.1 (wN_D hG) hS.here k he hr0 j hj (hts _ (tb_of hlink)) (fun _ h => h) hfin (hnm hi) hdecl hd9 hnf.1 hnf.2 hlen hd fun H1 locs1 hP1 hD1 hS1 => W.sz fun hsz => ?_
    rw [hset] at hP1
    exact k9 H1 locs1 L (hR.put hk hP1 (by have := hS1.1; have := hR.2.1; omega)) (hS.tr hS1) hl
theorem wn_putI {idx ci j pl k : Nat} {v : Int32} (hG : GL g) (hq : ownB (miY mi).cls (idx, ci, j, 0, pl, 0) = true) (hf : intB (idx, ci, j, 0, pl, 0) = true) (hk : k < n) (hc : (sh k).1 = ci) (hd : decode (miC mi) pc = .ok (.putfield idx, 3))
    (kk : WN g mi R Q n nc ns (pc + 3) ls st (sI μ k j v)) : WN g mi R Q n nc ns pc ls (.int v :: .ref k :: st) μ := by
  intro p e s m args below meth c C hnm hO hz H locs L hR hS hl
  have k9 := kk p e s m args below meth c C hnm hO hz
  obtain ⟨hx, hb, hml, hr, hlk, hown, hts, hex, hE⟩ := C
  have hkN : k < NC := Nat.lt_of_lt_of_le hk hR.1
  unfold ownB at hq
  unfold intB at hf
  cases hr0 : cls[ci]? with
  | none => simp only [hr0] at hq; cases hq
  | some r =>
    obtain ⟨Cn, T, N⟩ := r
    simp only [hr0, Bool.and_eq_true, decide_eq_true_eq, Bool.not_eq_true'] at hq hf
    obtain ⟨⟨hj, hdecl⟩, hlink⟩ := hq
    obtain ⟨hfin, hf4⟩ := hf
    have hf4 : ftc ci j = 0 := Nat.eq_of_beq_eq_true hf4
    have hj : j < N := Nat.le_of_ble_eq_true hj
    have hci12 : ci < 12 := (List.getElem?_eq_some_iff.mp hr0).1
    have hci : ci < 100 := Nat.lt_of_lt_of_le hci12 (by decide)
    have hn : (sh k).2 = N := by
      have := sh_n k hkN (by rw [hc]; exact hci)
      rw [hc, hr0] at this
      exact (Option.some.inj this).symm
    have hj32 : j < 32 := Nat.lt_of_lt_of_le hj (by rw [← hn]; exact sh_small k hkN (by rw [hc]; exact hci))
    have hgk : gr g k = ga g k := gr_lt hkN
    have he : (wN g μ n)[k]? = some (gr g k, .inr (ci, (List.range N).map fun j => fN g μ k j (ftc ci j))) := by
      rw [wN_at hk, hgk, cN_obj hc hci, hn]
    have hok := cls_ok hr0
    have hset : (wN g μ n).set k (gr g k, .inr (ci, ((List.range N).map fun j => fN g μ k j (ftc ci j)).set j (tv g (.int v)))) = wN g (sI μ k j v) n := by
      rw [hgk]
      refine wN_set hk ?_ (fun i _ hi => cN_I hi)
      rw [cN_obj hc hci, hn]
      congr 2
      refine (set_map ?_ ?_).symm
      · show _ = Value.int v
        unfold fN
        rw [hf4, if_neg (by decide), if_neg (by decide), mI_self]
      · intro i hi
        unfold fN
        rw [mI_other hi]; rfl
    have hd9 : parseFieldDescriptor (T j).2.2.1 = some (cTy T j) := hok.2.1 j hj
    have hnf : narrow (cTy T j) (.int v) = .int v ∧ fits (cTy T j) (.int v) = true := by
      rcases ftc_ty ci hci12 j hj32 _ hr0 hj with ⟨-, h2⟩ | ⟨h1, -⟩ | ⟨h1, -⟩ | h1
      · dsimp only at h2; rw [h2]; exact ⟨rfl, rfl⟩
      · rw [hf4] at h1; cases h1
      · rw [hf4] at h1; cases h1
      · rw [hf4] at h1; cases h1
    have hlen : j < ((List.range N).map fun j => fN g μ k j (ftc ci j)).length := by simpa using hj
    refine va_put (ref := (T j).1) hx hb hts hok.1 (cTy T) hok.2.1 hok.2.2 hown hE.1 hR.2.2.1 (wN_D hG) hS.here k he hr0 j hj (hts _ (tb_of hlink)) (fun _ h => h) hfin hd9 hnf.1 hnf.2 hlen hd fun H1 locs1 hP1 hD1 hS1 => W.sz fun hsz => ?_
    rw [hset] at hP1
    exact k9 H1 locs1 L (hR.put hk hP1 (by have := hS1.1; have := hR.2.1; omega)) (hS.tr hS1) hl
theorem wn_getR {idx ci j pl k v : Nat} (hq : ownB (miY mi).cls (idx, ci, j, 0, pl, 0) = true) (hf : refB (idx, ci, j, 0, pl, 0) = true) (hk : k < n) (hc : (sh k).1 = ci) (hv : v < NC) (hrt : rt k j = some v) (h1 : mI μ k j = 1) (hd : decode (miC mi) pc = .ok (.getfield idx, 3))
    (kk : WN g mi R Q n nc ns (pc + 3) ls (.ref v :: st) μ) : WN g mi R Q n nc ns pc ls (.ref k :: st) μ := by
  intro p e s m args below meth c C hnm hO hz H locs L hR hS hl
  have k9 := kk p e s m args below meth c C hnm hO hz H locs L hR hS hl
  obtain ⟨hx, hb, hml, hr, hlk, hown, hts, hex, hE⟩ := C
  have hkN : k < NC := Nat.lt_of_lt_of_le hk hR.1
  unfold ownB at hq
  unfold refB at hf
  cases hr0 : cls[ci]? with
  | none => simp only [hr0] at hq; cases hq
  | some r =>
    obtain ⟨Cn, T, N⟩ := r
    simp only [hr0, Bool.and_eq_true, decide_eq_true_eq] at hq hf
    obtain ⟨⟨hj, hdecl⟩, hlink⟩ := hq
    have hf4 : ftc ci j = 4 := Nat.eq_of_beq_eq_true hf.2
    have hj : j < N := Nat.le_of_ble_eq_true hj
    have hci : ci < 100 := Nat.lt_of_lt_of_le (List.getElem?_eq_some_iff.mp hr0).1 (by decide)
    have hn : (sh k).2 = N := by
      have := sh_n k hkN (by rw [hc]; exact hci)
      rw [hc, hr0] at this
      exact (Option.some.inj this).symm
    have he : (wN g μ n)[k]? = some (gr g k, .inr (ci, (List.range N).map fun j => fN g μ k j (ftc ci j))) := by
      rw [wN_at hk, gr_lt hkN, cN_obj hc hci, hn]
    have hvv : ((List.range N).map fun j => fN g μ k j (ftc ci j))[j]? = some (tv g (.ref v)) := by
      have : fN g μ k j (ftc ci j) = tv g (.ref v) := by
        unfold fN
        rw [hf4, if_neg (by decide), if_pos rfl, h1, if_neg (by decide), hrt]
        show Value.ref (ga g v) = Value.ref (gr g v)
        rw [gr_lt hv]
      simp [hj, this]
    have hok := cls_ok hr0
    exact va_get (ref := (T j).1) hx hb hts hok.1 hown hE.1 hR.2.2.1 k he hr0 j hj (hts _ (tb_of hlink)) (fun _ h => h) hvv hd k9
theorem wn_iast {k N : Nat} {i x : Int32} (hG : GL g) (hk : k < n) (hc : sh k = (100, N)) (hi : vp_in i N) (hd : decode (miC mi) pc = .ok (.iastore, 1)) (kk : WN g mi R Q n nc ns (pc + 1) ls st (sI μ k (nx i) x)) : WN g mi R Q n nc ns pc ls (.int x :: .int i :: .ref k :: st) μ := by
  intro p e s m args below meth c C hnm hO hz H locs L hR hS hl
  have k9 := kk p e s m args below meth c C hnm hO hz
  have hE := C.2.2.2.2.2.2.2.2
  have hkN : k < NC := Nat.lt_of_lt_of_le hk hR.1
  have hc1 : (sh k).1 = 100 + 0 := by rw [hc]
  refine va_iast C.1 C.2.1 hE.1 hR.2.2.1 (wN_D hG) hS.here k 0 (a := gr g k) (by rw [wN_at hk, cN_i (t := 0) hc1 (by decide) (by decide), gr_lt hkN]) rfl (by rw [hc]; exact hi) hd fun H1 locs1 hP1 hD1 hS1 => W.sz fun hsz => ?_
  rw [gr_lt hkN, wN_set (μ' := sI μ k (nx i) x) hk ?_ (fun a _ ha => cN_I ha)] at hP1
  · exact k9 H1 locs1 L (hR.put hk hP1 (by have := hS1.1; have := hR.2.1; omega)) (hS.tr hS1) hl
  · rw [cN_i (t := 0) hc1 (by decide) (by decide)]
    have : mI (sI μ k (nx i) x) k = upd (mI μ k) (nx i) x := by funext b; exact u2_self
    rw [this]; rfl
theorem wn_aast {k v N : Nat} {i : Int32} (hG : GL g) (hk : k < n) (hc : sh k = (104, N)) (hi : vp_in i N) (hv : v < n) (hs : (sh v).1 = 8) (hd : decode (miC mi) pc = .ok (.aastore, 1)) (kk : WN g mi R Q n nc ns (pc + 1) ls st (sI (sP μ (nx i) v) k (nx i) 1)) : WN g mi R Q n nc ns pc ls (.ref v :: .int i :: .ref k :: st) μ := by
  intro p e s m args below meth c C hnm hO hz H locs L hR hS hl
  have k9 := kk p e s m args below meth c C hnm hO hz
  have hE := C.2.2.2.2.2.2.2.2
  have hkN : k < NC := Nat.lt_of_lt_of_le hk hR.1
  have hvN : v < NC := Nat.lt_of_lt_of_le hv hR.1
  have hc1 : (sh k).1 = 104 := by rw [hc]
  have hv1 : (wN g μ n)[v]? = some (gr g v, .inr (8, (List.range (sh v).2).map fun j => fN g μ v j (ftc 8 j))) := by rw [wN_at hv, cN_obj hs (by decide), gr_lt hvN]
  refine va_astq C.1 C.2.1 hE.1 hR.2.2.1 (wN_D hG) hS.here k 4 v 8 (r := ("SaidOnce$State", cT8, 8)) (a := gr g k) (by rw [wN_at hk, cN_a hc1, gr_lt hkN]) rfl hv1 rfl (by rw [hc]; exact hi) hd fun H1 locs1 hP1 hD1 hS1 => W.sz fun hsz => ?_
  rw [gr_lt hkN, wN_set (μ' := sI (sP μ (nx i) v) k (nx i) 1) hk ?_ ?_] at hP1
  · exact k9 H1 locs1 L ⟨hR.1, by have := hS1.1; have := hR.2.1; omega, hP1, Zf_I (Zf_P hR.2.2.2) hk⟩ (hS.tr hS1) hl
  · rw [cN_a hc1]
    have : (fun j => if mI (sI (sP μ (nx i) v) k (nx i) 1) k j = 0 then none else some (ga g (mP (sI (sP μ (nx i) v) k (nx i) 1) j))) = va_up (fun j => if mI μ k j = 0 then none else some (ga g (mP μ j))) (nx i) (some (gr g v)) := by
      funext b
      show (if mI (sI (sP μ (nx i) v) k (nx i) 1) k b = 0 then none else some (ga g (if b = nx i then v else mP μ b))) = (if b = nx i then some (gr g v) else if mI μ k b = 0 then none else some (ga g (mP μ b)))
      by_cases h : b = nx i
      · have e1 : mI (sI (sP μ (nx i) v) k (nx i) 1) k b = 1 := by rw [h]; exact mI_self
        simp [h, gr_lt hvN, h ▸ e1]
      · have e1 : mI (sI (sP μ (nx i) v) k (nx i) 1) k b = mI μ k b := mI_other h
        simp [h, e1]
    rw [this]; rfl
  · intro a ha han
    have haN : a < NC := Nat.lt_of_lt_of_le ha hR.1
    rw [cN_I han]
    have h4 : (sh a).1 ≠ 104 := fun h4 => han ((past_only a haN h4).trans (past_only k hkN hc1).symm)
    have e1 : mI (sP μ (nx i) v) = mI μ := rfl
    have e2 : mL (sP μ (nx i) v) = mL μ := rfl
    unfold cN fN; rw [e1, e2, if_neg h4, if_neg h4]
end WNP
/-! contracts of makers -/
def PcN (g : Gl) (args : List Value) (n : Nat) (μ : Mem) : Array Value → State → Prop := va_Pc (args.map (tv g)) fun U => RN g n μ U.heap ∧ EnvS g U ∧ va_AO "SaidOnce$State" U
def QcN (g : Gl) (n : Nat) (μ : Mem) : Array Value → State → Outcome → State → Prop := va_Qv (fun _ : Unit => True) (fun _ t => RN g n μ t.heap) (gP g)
def QxN : String → State → State → Prop := fun _ _ _ => False
def QN (g : Gl) (mi : MI) (n : Nat) (μ : Mem) : QT := fun below args s => vx_MQ below (QcN g n μ) QxN args s (miK mi) (miS mi) (gP g)
def SpN (g : Gl) (mi : MI) (dx : Nat) (args : List Value) (n : Nat) (μ : Mem) (n' : Nat) (μ' : Mem) : Prop :=
  vx_Met (gl g) (miY mi) (wsOf mi) (rm mi dx) (PcN g args n μ) (QcN g n' μ') QxN (miK mi) (miS mi) (gP g)
theorem PcN_blind (g : Gl) (args : List Value) (n : Nat) (μ : Mem) : FrameBlind (PcN g args n μ) := by
  intro a U gf mk q
  obtain ⟨q0, q1, q2, q3⟩ := q
  have ha : U.vm.Alike (U.calling gf mk a).vm := Vm.Alike.refl U.vm
  refine ⟨q0, q1, ?_, q3.moved ha⟩
  obtain ⟨h1, h2, h3, h4, h5, h6, h7, h8, h9, h10, h11, h12, h13, h14⟩ := q2
  have hvm : U.vm = (U.calling gf mk a).vm := rfl
  refine ⟨h1.moved ha, fun w hw => (h2 w hw).same ?_ hvm, fun j hj => ?_, h4.moved ha, h5.moved ha, h6.moved ha, h7, h8, h9.moved ha, h10, h11, h12, fun a b x y z => (h13 a b x y z).moved ha, h14.moved ha⟩
  · have := (List.mem_filter.mp hw).2
    cases w <;> first | rfl | exact absurd this (by simp [isNw])
  · obtain ⟨k1, k2, k3, k4, k5⟩ := h3 j hj
    exact ⟨k1.same hvm.symm, k2.moved ha, k3.moved ha, k4.moved ha, k5.moved ha⟩
theorem SpN.intro {g : Gl} {mi : MI} {dx cnt n n' : Nat} {args : List Value} {μ μ' : Mem} (hM : MOK mi cnt) (hH : miH mi = []) (hw : (lg_sl args).length ≤ miN mi)
    (k : WN g mi (rm mi dx) (QN g mi n' μ') n 0 0 0 (lv_args 0 args) [] μ) : SpN g mi dx args n μ n' μ' := by
  unfold SpN
  refine vx_ofW (cc := miC mi) (maxL := miN mi) (ret := miT mi) hM.2.1 (ws' := TB) (by unfold wsOf codeW; rw [hH]) ?_
  intro p e s m av below meth c s₁ B hml hex hv
  obtain ⟨rfl, hR, hE, hO⟩ := hv
  have hts : ∀ w ∈ wsOf mi, w.before (args.map (tv g)).toArray s = true := atoms_spec (ws := wsOf mi) B.pre
  have hl := lv_entry (args.map (tv g)) (n := miN mi) (by rw [sl_len]; exact hw)
  have hin : meth.name = (miY mi).name := (name_of_methodNamed B.named B.method).1
  rw [lg_entry_eq]
  refine k p e s m _ below meth c ⟨B.exec, B.bytes, hml, B.returns, B.notSynchronized, findClass_of_methodNamed B.named, fun w h => hts w (List.mem_cons_of_mem _ h), ?_, hE⟩ (fun h => hin.trans h) hO (by have := hR.2.1; omega) s.heap [] _ hR va_S.rf (by rw [tl_args]; exact hl)
  rw [hH]
  cases hz : c.exceptionTable.toList with
  | nil => rfl
  | cons a t => exact absurd (by rw [hz]; exact List.mem_cons_self) (hex a)
section WNC
variable {g : Gl} {mi : MI} {R : Room} {Q : QT} {n nc ns pc : Nat} {ls : List (Nat × Value)} {st : List Value} {μ : Mem} {mj : MI} {dx cnt idx : Nat} {As : List Value}
theorem wn_ret {n' : Nat} {μ' : Mem} (e1 : n = n') (e2 : μ = μ') (hT : miT mi = none) (hc : nc ≤ miK mi) (hs : ns ≤ miS mi) (hd : decode (miC mi) pc = .ok (.return_, 1)) : WN g mi R (QN g mi n' μ') n nc ns pc ls [] μ := by
  subst e1; subst e2
  intro p e s m args below meth c C hnm hO hz H locs L hR hS hl
  obtain ⟨hx, hb, hml, hr, hlk, hown, hts, hex, hE⟩ := C
  exact vx_ret (W.widen hc hs (W.vret hx hb (hr.trans hT) (fun t ht _ => ⟨⟨(), rfl, trivial, by show RN g n μ t.heap; rw [ht]; exact hR⟩, hS.F ht⟩) hS.2.2 hd hlk))
theorem metN {args : List Value} {μ' : Mem} {n' : Nat} (h : SpN g mj dx args n μ n' μ') : Met (gl g) (miY mj) (wsOf mj) (rm mj dx) (PcN g args n μ) (QcN g n' μ') (miK mj) (miS mj) (gP g) := by
  intro p e ha hc hk s m av below hf happ hP hK
  obtain ⟨k, o, h1, h2, h3, hQ⟩ := h p e ha hc hk s m av below hf happ hP hK
  refine ⟨k, o, h1, h2, h3, ?_⟩
  rcases hQ with hQ | ⟨q, ho, E, ce, L, ⟨h9, -⟩⟩
  · exact hQ
  · exact h9.elim
theorem wn_call {k n' : Nat} {μ' : Mem} (hn' : n' = n + miK mj) (hM : MOK mj cnt) (hH : miH mj = []) (hT : miT mj = none) (hy : (miY mj).name = "<init>") (hlk : Cond.methodLink (miY mi).cls idx (miY mj) ∈ TB ∨ Cond.methodLinkNest (miY mi).cls idx (miY mj) "SaidOnce" ∈ NW) (hin : Cond.instanceMethod (miY mj) ∈ TB) (hini : Cond.initialized (miY mj).cls ∈ TB)
    (hn : As.length = cnt) (hst : (st.map fun v => v.category).sum ≤ 8) (hR9 : CallR R mj dx nc ns) (hd : decode (miC mi) pc = .ok (.invokespecial idx, 3)) (hS9 : SpN g mj dx (.ref k :: As) n μ n' μ')
    (kk : WN g mi R Q n' (nc + miK mj) (ns + miS mj) (pc + 3) ls st μ') : WN g mi R Q n nc ns pc ls (As.reverse ++ .ref k :: st) μ := by
  intro p e s m args below meth c C hnm hO hz H locs L hR hS hl
  have k9 := kk p e s m args below meth c C hnm hO (by omega)
  obtain ⟨hx, hb, hml, hr, hlkk, hown, hts, hex, hE⟩ := C
  rw [stk_map]
  have hcode : wsOf mj = Cond.code (miY mj) (miC mj) (miN mj) none :: TB := by rw [codeW_nil hH, hT]
  have hro : (rm mj dx).frames + 1 ≤ R.frames ∧ 8 + (miN mj + 11) + (rm mj dx).locals ≤ R.locals := ⟨hR9.1, by have := hM.2.2.2; have := hR9.2.1; show 8 + (miN mj + 11) + 100 * (miD mj + dx) ≤ R.locals; omega⟩
  have hpre : PreS s H (PcN g (.ref k :: As) n μ) (.ref (gr g k) :: As.map (tv g)) := ⟨PcN_blind g _ _ _, fun U hU hW => ⟨rfl, by rw [hU]; exact hR, hE.move hW (by rw [hU]; exact hS), hO.moved hW.alike⟩⟩
  have fin : ∀ (u : Unit) (t : State) (H1 : Heap) (locs1 : List Loc), t.heap = H1 → s.vm.Alike t.vm → True → RN g n' μ' t.heap → H.size ≤ H1.size → (∀ q : Nat, q < H.size → ¬ gP g q → H1[q]? = H[q]?) → va_S (gP g) s.heap H1 locs1 → W p (gl g) e R s m args below meth c H1 locs1 (nc + miK mj) (ns + miS mj) (Q below args s) (F0 m (pc + 3) L (st.map (tv g))) := by
    intro u t H1 locs1 ht _ _ hB _ _ hS1
    exact k9 H1 locs1 L (by rw [← ht]; exact hB) hS1 hl
  rcases hlk with hlk | hlk
  · exact va_callv (va_runI (As := As.map (tv g)) (rest := st.map (tv g)) ⟨hx, hb, hml, hown, hts⟩ (metN hS9) ⟨callB_of cnt hts (good_ws hM.1) hcode rfl rfl (hts _ hini) (hts _ hlk) hM.2.2.1 hro, hy, hts _ hin⟩ hpre rfl (by rw [List.length_map]; exact hn) hl.1 rfl (by show 2 * 0 + _ ≤ 8; rw [cat_map]; omega) hd ⟨hR9.2.2.1, hR9.2.2.2⟩) hS (fun q _ h => h) (fun q h => h) fin
  · exact va_callv (va_runIN (As := As.map (tv g)) (rest := st.map (tv g)) ⟨hx, hb, hml, hown, hts⟩ (metN hS9) ⟨va_cnB cnt hts (good_ws hM.1) hcode rfl rfl (hE.2.1 _ hlk) (hts _ hini) hM.2.2.1 hro, hy, hts _ hin⟩ hpre rfl (by rw [List.length_map]; exact hn) hl.1 rfl (by show 2 * 0 + _ ≤ 8; rw [cat_map]; omega) hd ⟨hR9.2.2.1, hR9.2.2.2⟩) hS (fun q _ h => h) (fun q h => h) fin
end WNC
