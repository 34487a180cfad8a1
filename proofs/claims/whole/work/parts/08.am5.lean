/-! writes -/
theorem wd_set {g : Gl} {μ μ' : Mem} {k : Nat} {e : va_E} (hk : k < NC) (he : cE g μ' k = e) (ho : ∀ i, i ≠ k → cE g μ' i = cE g μ i) : (wd g μ).set k (gr g k, e) = wd g μ' := by
  apply List.ext_getElem?
  intro i
  rw [List.getElem?_set]
  by_cases h : k = i
  · subst h
    rw [if_pos rfl, wd_at hk, gr_lt hk, he]
    simp [wd, hk]
  · rw [if_neg h]
    by_cases hi : i < NC
    · rw [wd_at hi, wd_at hi, ho i (fun q => h q.symm)]
    · simp [wd, hi]
theorem u2_row {α : Type} {f : Nat → Nat → α} {k j a : Nat} {v : α} (h : a ≠ k) : u2 f k j v a = f a := by funext b; simp [u2, h]
theorem u2_self {α : Type} {f : Nat → Nat → α} {k j b : Nat} {v : α} : u2 f k j v k b = if b = j then v else f k b := by simp [u2]
theorem cE_I {g : Gl} {μ : Mem} {k j i : Nat} {x : Int32} (h : i ≠ k) : cE g (sI μ k j x) i = cE g μ i := by
  have e1 : mI (sI μ k j x) i = mI μ i := u2_row h
  have e2 : mL (sI μ k j x) = mL μ := rfl
  have e3 : mP (sI μ k j x) = mP μ := rfl
  unfold cE fv; rw [e1, e2, e3]
theorem cE_L {g : Gl} {μ : Mem} {k j i : Nat} {x : Int64} (h : i ≠ k) : cE g (sL μ k j x) i = cE g μ i := by
  have e1 : mL (sL μ k j x) i = mL μ i := u2_row h
  have e2 : mI (sL μ k j x) = mI μ := rfl
  have e3 : mP (sL μ k j x) = mP μ := rfl
  unfold cE fv; rw [e1, e2, e3]
theorem cE_RI {g : Gl} {μ : Mem} {k i : Nat} {f : Nat → Int32} (h : i ≠ k) : cE g (sRI μ k f) i = cE g μ i := by
  have e1 : mI (sRI μ k f) i = mI μ i := by funext b; exact if_neg h
  have e2 : mL (sRI μ k f) = mL μ := rfl
  have e3 : mP (sRI μ k f) = mP μ := rfl
  unfold cE fv; rw [e1, e2, e3]
theorem cE_RL {g : Gl} {μ : Mem} {k i : Nat} {f : Nat → Int64} (h : i ≠ k) : cE g (sRL μ k f) i = cE g μ i := by
  have e1 : mL (sRL μ k f) i = mL μ i := by funext b; exact if_neg h
  have e2 : mI (sRL μ k f) = mI μ := rfl
  have e3 : mP (sRL μ k f) = mP μ := rfl
  unfold cE fv; rw [e1, e2, e3]
theorem D_wd {g : Gl} {μ : Mem} {s : State} (hE : EnvS g s) : va_D (gP g) (wd g μ) := by
  obtain ⟨-, -, -, -, -, -, -, -, -, -, h1, h2, -⟩ := hE
  have key : ∀ (k : Nat) (q : Nat × va_E), (wd g μ)[k]? = some q → k < NC ∧ q.1 = ga g k := by
    intro k q h
    have hk : k < NC := by have := (List.getElem?_eq_some_iff.mp h).1; simpa [wd] using this
    rw [wd_at hk] at h
    exact ⟨hk, by rw [← Option.some.inj h]⟩
  refine ⟨fun i j p q hp hq e => ?_, fun k q h => ?_⟩
  · obtain ⟨a1, a2⟩ := key i p hp
    obtain ⟨b1, b2⟩ := key j q hq
    exact h2 i j a1 b1 (by rw [← a2, ← b2, e])
  · obtain ⟨a1, a2⟩ := key k q h
    rw [a2]; exact h1 k a1
theorem ftc_ty : ∀ ci, ci < 12 → ∀ j, j < 32 → ∀ r, cls[ci]? = some r → j < r.2.2 → (ftc ci j = 0 ∧ cTy r.2.1 j = .int) ∨ (ftc ci j = 1 ∧ cTy r.2.1 j = .long) ∨ (ftc ci j = 3 ∧ cTy r.2.1 j = .boolean) ∨ ftc ci j = 4 := by
  intro ci hci
  match ci, hci with
  | 0, _ => intro j hj r hr; cases hr; revert j; decide +kernel
  | 1, _ => intro j hj r hr; cases hr; revert j; decide +kernel
  | 2, _ => intro j hj r hr; cases hr; revert j; decide +kernel
  | 3, _ => intro j hj r hr; cases hr; revert j; decide +kernel
  | 4, _ => intro j hj r hr; cases hr; revert j; decide +kernel
  | 5, _ => intro j hj r hr; cases hr; revert j; decide +kernel
  | 6, _ => intro j hj r hr; cases hr; revert j; decide +kernel
  | 7, _ => intro j hj r hr; cases hr; revert j; decide +kernel
  | 8, _ => intro j hj r hr; cases hr; revert j; decide +kernel
  | 9, _ => intro j hj r hr; cases hr; revert j; decide +kernel
  | 10, _ => intro j hj r hr; cases hr; revert j; decide +kernel
  | 11, _ => intro j hj r hr; cases hr; revert j; decide +kernel
  | n + 12, h => omega
/-- not final -/
def flW (q : Fld) : Bool := match cls[q.2.1]? with
  | none => false
  | some r => !(r.2.1 q.2.2.1).2.2.2
theorem set_map {α : Type} {f f' : Nat → α} {N j : Nat} {v : α} (hv : f' j = v) (ho : ∀ i, i ≠ j → f' i = f i) : ((List.range N).map f).set j v = (List.range N).map f' := by
  apply List.ext_getElem?
  intro i
  rw [List.getElem?_set]
  by_cases h : j = i
  · subst h
    by_cases hj : j < N
    · simp [hj, hv]
    · simp [hj]
  · rw [if_neg h]
    simp only [List.getElem?_map]
    by_cases hi : i < N
    · simp [hi, ho i (fun q => h q.symm)]
    · simp [hi]
section AM5
variable {g : Gl} {mi : MI} {R : Room} {Q : QT} {nc ns pc : Nat} {ls : List (Nat × Value)} {st : List Value} {μ : Mem}
theorem am_put {idx ci j kd p1 p2 k : Nat} {v : Value} {μ' : Mem} (hq : flB (miY mi).cls (idx, ci, j, kd, p1, p2) = true) (hw : flW (idx, ci, j, kd, p1, p2) = true) (hk : k < NC) (hc : (sh k).1 = ci)
    (hv : (∃ x, v = .int x ∧ μ' = sI μ k j x ∧ (ftc ci j = 0 ∨ ftc ci j = 3 ∧ (x = 0 ∨ x = 1))) ∨ ∃ x, v = .long x ∧ μ' = sL μ k j x ∧ ftc ci j = 1) (hd : decode (miC mi) pc = .ok (.putfield idx, 3))
    (kk : Wm g mi R Q nc ns (pc + 3) ls st μ') : Wm g mi R Q nc ns pc ls (v :: .ref k :: st) μ := by
  intro p e s m args below meth c C H locs L hR hS hl
  have k9 := kk p e s m args below meth c C
  obtain ⟨hx, hb, hml, hr, hlk, hown, hts, hex, hE⟩ := C
  unfold flB at hq
  unfold flW at hw
  cases hr0 : cls[ci]? with
  | none => simp only [hr0] at hq; cases hq
  | some r =>
    obtain ⟨Cn, T, N⟩ := r
    simp only [hr0, Bool.and_eq_true, Bool.not_eq_true'] at hq hw
    obtain ⟨hj, hq⟩ := hq
    have hj : j < N := Nat.le_of_ble_eq_true hj
    have hci12 : ci < 12 := (List.getElem?_eq_some_iff.mp hr0).1
    have hci : ci < 100 := Nat.lt_of_lt_of_le hci12 (by decide)
    have hn : (sh k).2 = N := by
      have := sh_n k hk (by rw [hc]; exact hci)
      rw [hc, hr0] at this
      exact (Option.some.inj this).symm
    have hj32 : j < 32 := Nat.lt_of_lt_of_le hj (by rw [← hn]; exact sh_small k hk (by rw [hc]; exact hci))
    have he : (wd g μ)[k]? = some (gr g k, .inr (ci, (List.range N).map fun j => fv g μ k j (ftc ci j))) := by
      rw [wd_at hk, gr_lt hk, cE_obj hc hci, hn]
    have hok := cls_ok hr0
    have hty := ftc_ty ci hci12 j hj32 _ hr0 hj
    have hD := D_wd (μ := μ) hE
    have hset : (wd g μ).set k (gr g k, .inr (ci, ((List.range N).map fun j => fv g μ k j (ftc ci j)).set j (tv g v))) = wd g μ' := by
      refine wd_set hk ?_ ?_
      · rw [cE_obj hc hci, hn]
        congr 2
        refine (set_map ?_ ?_).symm
        · rcases hv with ⟨x, rfl, rfl, h | ⟨h, -⟩⟩ | ⟨x, rfl, rfl, h⟩ <;> simp [fv, h, mI, mL, sI, sL, u2, tv]
        · intro i hi
          rcases hv with ⟨x, rfl, rfl, h⟩ | ⟨x, rfl, rfl, h⟩ <;> simp [fv, mI, mL, sI, sL, u2, hi]
      · intro i hi
        rcases hv with ⟨x, rfl, rfl, h⟩ | ⟨x, rfl, rfl, h⟩
        · exact cE_I hi
        · exact cE_L hi
    have hd9 : parseFieldDescriptor (T j).2.2.1 = some (cTy T j) := hok.2.1 j hj
    have hnf : narrow (cTy T j) (tv g v) = tv g v ∧ fits (cTy T j) (tv g v) = true := by
      rcases hv with ⟨x, rfl, -, h | ⟨h, h0⟩⟩ | ⟨x, rfl, -, h⟩
      · rcases hty with ⟨-, h2⟩ | ⟨h1, -⟩ | ⟨h1, -⟩ | h1
        · dsimp only at h2; rw [h2]; exact ⟨rfl, rfl⟩
        · rw [h] at h1; cases h1
        · rw [h] at h1; cases h1
        · rw [h] at h1; cases h1
      · rcases hty with ⟨h1, -⟩ | ⟨h1, -⟩ | ⟨-, h2⟩ | h1
        · rw [h] at h1; cases h1
        · rw [h] at h1; cases h1
        · dsimp only at h2; rw [h2]
          rcases h0 with rfl | rfl
          · exact (by decide +kernel : narrow .boolean (.int 0) = .int 0 ∧ fits .boolean (.int 0) = true)
          · exact (by decide +kernel : narrow .boolean (.int 1) = .int 1 ∧ fits .boolean (.int 1) = true)
        · rw [h] at h1; cases h1
      · rcases hty with ⟨h1, -⟩ | ⟨-, h2⟩ | ⟨h1, -⟩ | h1
        · rw [h] at h1; cases h1
        · dsimp only at h2; rw [h2]; exact ⟨rfl, rfl⟩
        · rw [h] at h1; cases h1
        · rw [h] at h1; cases h1
    have hlen : j < ((List.range N).map fun j => fv g μ k j (ftc ci j)).length := by simpa using hj
    have fin : ∀ (H1 : Heap) (locs1 : List Loc), va_P (gD g) cls ((wd g μ).set k (gr g k, .inr (ci, ((List.range N).map fun j => fv g μ k j (ftc ci j)).set j (tv g v)))) H1 → va_D (gP g) ((wd g μ).set k (gr g k, .inr (ci, ((List.range N).map fun j => fv g μ k j (ftc ci j)).set j (tv g v)))) → va_S (gP g) s.heap H1 locs1 → W p (gl g) e R s m args below meth c H1 locs1 nc ns (Q below args s) (F0 m (pc + 3) L (st.map (tv g))) := by
      intro H1 locs1 hP1 hD1 hS1
      rw [hset] at hP1
      exact k9 H1 locs1 L hP1 hS1 hl
    split at hq
    · exact va_put (ref := (T j).1) hx hb hts hok.1 (cTy T) hok.2.1 hok.2.2 hown hE.1 hR hD hS k he hr0 j hj (hts _ (tb_of hq)) (fun _ h => h) hw hd9 hnf.1 hnf.2 hlen hd fin
    · exact va_putN (ref := (T j).1) hx hb hts hok.1 (cTy T) hok.2.1 hok.2.2 hown hE.1 hR hD hS k he hr0 j hj ((hE.2.1 _ (nw_of hq)).use rfl) (fun _ h => h) hw hd9 hnf.1 hnf.2 hlen hd fin
    · simp only [Bool.and_eq_true] at hq
      exact va_put (ref := (miY mi).cls) hx hb hts hok.1 (cTy T) hok.2.1 hok.2.2 hown hE.1 hR hD hS k he hr0 j hj (hts _ (tb_of hq.1)) (fun x h => u_same (hts _ (tb_of hq.2)) x h) hw hd9 hnf.1 hnf.2 hlen hd fin
end AM5
