/-! regions: from a cut to the next -/
def reg (R : Room) (RET : Out → Nat → Nat → Mem → Prop) (g : Gl) (mi : MI) (M : MT) (cs : List (Nat × List Nat)) (W : Kt) : Nat → Kt
  | 0 => W
  | f + 1 => fun nc ns pc ls st μ => match fnd cs pc with
    | some ks => W nc ns pc (lpick ls ks) st μ
    | none => mF (fnd M.1 pc) fun q => step R RET g mi M q.1 nc ns pc ls st μ (reg R RET g mi M cs W f)
def reg1 (R : Room) (RET : Out → Nat → Nat → Mem → Prop) (g : Gl) (mi : MI) (M : MT) (cs : List (Nat × List Nat)) (W : Kt) (f : Nat) : Kt := fun nc ns pc ls st μ => mF (fnd M.1 pc) fun q => step R RET g mi M q.1 nc ns pc ls st μ (reg R RET g mi M cs W f)
def TabOK (mi : MI) (M : MT) : Prop := ∀ q ∈ M.1, decode (miC mi) q.1 = .ok q.2 ∧ okI mi q.1 q.2.1 q.2.2 = true
section AM14
variable {g : Gl} {mi : MI} {R : Room} {Q : QT} {M : MT} {RET : Out → Nat → Nat → Mem → Prop} {cs : List (Nat × List Nat)}
theorem reg_sound (hT : TabOK mi M) (hP : PoolOK (miY mi).cls M.2.1) (hRET : RetOK g mi M R Q RET) : ∀ (f : Nat) {nc ns pc : Nat} {ls : Lo} {st : List Value} {μ : Mem}, reg R RET g mi M cs (Wm g mi R Q) f nc ns pc ls st μ → Wm g mi R Q nc ns pc ls st μ := by
  intro f
  induction f with
  | zero => intro nc ns pc ls st μ h; exact h
  | succ f ih =>
    intro nc ns pc ls st μ h
    unfold reg at h
    split at h
    · exact Wm.pick lpick_sub h
    · obtain ⟨q, e, h⟩ := mF_ok h
      obtain ⟨h1, h2⟩ := hT _ (fnd_mem e)
      exact step_sound hP hRET ih h1 h2 h
theorem reg1_sound (hT : TabOK mi M) (hP : PoolOK (miY mi).cls M.2.1) (hRET : RetOK g mi M R Q RET) (f : Nat) {nc ns pc : Nat} {ls : Lo} {st : List Value} {μ : Mem} (h : reg1 R RET g mi M cs (Wm g mi R Q) f nc ns pc ls st μ) : Wm g mi R Q nc ns pc ls st μ := by
  unfold reg1 at h
  obtain ⟨q, e, h⟩ := mF_ok h
  obtain ⟨h1, h2⟩ := hT _ (fnd_mem e)
  exact step_sound hP hRET (reg_sound hT hP hRET f) h1 h2 h
end AM14
/-- a method's end, as its contract wants it -/
def rtM (mi : MI) (Φ : Out → Mem → Prop) : Out → Nat → Nat → Mem → Prop := fun o nc ns μ => match Nat.ble nc (miK mi) && Nat.ble ns (miS mi) with
  | true => Φ o μ
  | false => False
/-- throws and handlers of a method stand in its code -/
def ThrOK (mi : MI) (M : MT) : Prop := (∀ q ∈ M.2.2.1, miH mi = [] ∧ thrW (miY mi).cls q.2.1 q.2.2.2.2.1 q.2.2.2.2.2.1 ∧ strB (miY mi).cls (q.2.2.1, q.2.2.2.1) = true ∧ decode (miC mi) (q.1 + 3) = .ok (.dup, 1) ∧ ((decode (miC mi) (q.1 + 4) = .ok (.ldc q.2.2.1, 2) ∧ decode (miC mi) (q.1 + 6) = .ok (.invokespecial q.2.2.2.2.1, 3) ∧ decode (miC mi) (q.1 + 9) = .ok (.athrow, 1)) ∨ (decode (miC mi) (q.1 + 4) = .ok (.ldc_w q.2.2.1, 3) ∧ decode (miC mi) (q.1 + 7) = .ok (.invokespecial q.2.2.2.2.1, 3) ∧ decode (miC mi) (q.1 + 10) = .ok (.athrow, 1)))) ∧
  (miH mi = M.2.2.2.map (fun h => (h.1, h.2.1, h.2.2.1, h.2.2.2.1))) ∧
  ∀ h ∈ M.2.2.2, h.2.2.2.1 ≠ 0 ∧ h.2.2.2.2.1 < 5 ∧ Cond.classLink (miY mi).cls h.2.2.2.1 (EN h.2.2.2.2.1) ∈ TB ∧ Cond.castable (EN h.2.2.2.2.1) (EN h.2.2.2.2.1) ∈ NW ∧ h.2.2.2.2.2.1 < miN mi ∧ ((∃ k : Fin 4, (k : Nat) = h.2.2.2.2.2.1 ∧ h.2.2.2.2.2.2 = 1 ∧ decode (miC mi) h.2.2.1 = .ok (.astore_n k, 1)) ∨ (h.2.2.2.2.2.2 = 2 ∧ decode (miC mi) h.2.2.1 = .ok (.astore h.2.2.2.2.2.1, 2)))
theorem hdl_ok {g : Gl} {mi : MI} {M : MT} {R : Room} {Q : QT} (hT : ThrOK mi M) {e nc ns pc : Nat} {ls : Lo} {μ : Mem} (h5 : e < 5) : ∀ (pre suf : List Hdl), M.2.2.2 = pre ++ suf → (∀ z ∈ pre, z.2.2.2.2.1 ≠ e) → hx (fun hp n ln => Wm g mi R Q nc ns (hp + ln) (ls.filter fun q => Nat.ble (q.1 + q.2.category) n) [] μ) pc e suf → WX g mi R Q nc ns pc ls e μ := by
  intro pre suf
  induction suf generalizing pre with
  | nil => intro _ _ h; exact h.elim
  | cons q t ih =>
    intro hM hpre h
    obtain ⟨a, b, hp, ct, e9, n, ln⟩ := q
    unfold hx at h
    cases hb : Nat.beq e9 e with
    | false =>
      rw [hb] at h
      have hne : e9 ≠ e := fun q => by rw [q, Nat.beq_refl] at hb; cases hb
      refine ih (pre ++ [(a, b, hp, ct, e9, n, ln)]) (by rw [hM]; simp) (fun z hz => ?_) h
      rcases List.mem_append.mp hz with h1 | h1
      · exact hpre z h1
      · simp only [List.mem_cons, List.not_mem_nil, or_false] at h1
        rw [h1]; exact hne
    | true =>
      rw [hb] at h
      have heq : e9 = e := Nat.eq_of_beq_eq_true hb
      subst heq
      dsimp only at h
      cases hc : (Nat.ble a pc && Nat.blt pc b) with
      | false => rw [hc] at h; exact h.elim
      | true =>
        rw [hc] at h
        simp only [Bool.and_eq_true] at hc
        obtain ⟨-, h2, h3⟩ := hT
        obtain ⟨k1, k2, k3, k4, k5, k6⟩ := h3 (a, b, hp, ct, e9, n, ln) (by rw [hM]; simp)
        refine WX.catch (pre := pre.map (fun h => (h.1, h.2.1, h.2.2.1, h.2.2.2.1))) (suf := t.map (fun h => (h.1, h.2.1, h.2.2.1, h.2.2.2.1))) (a := a) (b := b) (hp := hp) (ct := ct) (n := n) (ln := ln) (by rw [h2, hM]; simp) (fun z hz => ?_) h5 ⟨Nat.le_of_ble_eq_true hc.1, Nat.le_of_ble_eq_true hc.2⟩ k1 k3 k4 k5 k6 h
        obtain ⟨w, hw, rfl⟩ := List.mem_map.mp hz
        obtain ⟨j1, j2, j3, -⟩ := h3 w (by rw [hM]; simp [hw])
        exact ⟨j1, w.2.2.2.2.1, j2, hpre w hw, j3⟩
theorem rtM_ok {g : Gl} {mi : MI} {M : MT} {R : Room} {Φ : Out → Mem → Prop} (hT : ThrOK mi M) : RetOK g mi M R (QM g mi Φ) (rtM mi Φ) := by
  have key : ∀ {o : Out} {nc ns : Nat} {μ : Mem}, rtM mi Φ o nc ns μ → nc ≤ miK mi ∧ ns ≤ miS mi ∧ Φ o μ := by
    intro o nc ns μ h
    unfold rtM at h
    cases hb : (Nat.ble nc (miK mi) && Nat.ble ns (miS mi)) with
    | false => rw [hb] at h; exact h.elim
    | true =>
      rw [hb] at h
      simp only [Bool.and_eq_true] at hb
      exact ⟨Nat.le_of_ble_eq_true hb.1, Nat.le_of_ble_eq_true hb.2, h⟩
  refine ⟨fun hd hT hn h => ?_, fun hd hT h => ?_, fun hd hT h => ?_, fun hd hq hb h => ?_, fun hM h5 h => ?_, fun h5 h => hdl_ok hT h5 [] _ rfl (fun z hz => by cases hz) h⟩
  · obtain ⟨h1, h2, h3⟩ := key h; exact am_ret hT hn h1 h2 hd h3
  · obtain ⟨h1, h2, h3⟩ := key h; exact am_lret hT h1 h2 hd h3
  · obtain ⟨h1, h2, h3⟩ := key h; exact am_vret hT h1 h2 hd h3
  · obtain ⟨h1, h2, h3⟩ := key h
    obtain ⟨k1, k2, k3, k4, k5⟩ := hT.1 _ hq
    simp only [Bool.and_eq_true] at hb
    obtain ⟨⟨⟨⟨⟨b1, b2⟩, b3⟩, b4⟩, b5⟩, b6⟩ := hb
    rw [Nat.eq_of_beq_eq_true b1] at k2
    exact am_throw k1 k2 k3 (Nat.le_of_ble_eq_true b2) (Nat.le_of_ble_eq_true b3) (Nat.le_of_ble_eq_true b4) (Nat.le_of_ble_eq_true b5) hd k4 k5 h1 h2 h3
  · obtain ⟨h1, h2, h3⟩ := key h
    refine WX.out ?_ h5 h1 h2 h3
    rw [hT.2.1, hM]; rfl
