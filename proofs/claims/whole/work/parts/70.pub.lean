/-! the reference's face: what each call answers -/
/-- a number of a row of n -/
def ix (n : Nat) (x : Int32) : Option Nat := if 0 ≤ x ∧ x < nI n then some (nx x) else none
theorem ix_cs {n : Nat} (hn : n < 2 ^ 31) (x : Int32) : (ix n x = none ∧ (x < 0 ∨ nI n ≤ x)) ∨ ∃ j, j < n ∧ x = nI j ∧ ix n x = some j := by
  rcases pk_ix x hn with h | h | ⟨j, hj, h⟩
  · refine Or.inl ⟨if_neg fun q => ?_, Or.inl h⟩
    exact Int32.not_lt.mpr q.1 h
  · refine Or.inl ⟨if_neg fun q => ?_, Or.inr h⟩
    exact Int32.not_lt.mpr h q.2
  · refine Or.inr ⟨j, hj, h, ?_⟩
    unfold ix
    rw [h, if_pos ⟨nI_pos' (by omega), nI_lt hj (by omega)⟩, nx_nI (by omega)]
def gdx (n : Nat) (x : Int32) (c : Nat) (k : Nat → Nat × Int32) : Nat × Int32 := match ix n x with
  | none => (c, 0)
  | some j => k j
theorem gdx_n {n c : Nat} {x : Int32} {k : Nat → Nat × Int32} (h : ix n x = none) : gdx n x c k = (c, 0) := by unfold gdx; rw [h]
theorem gdx_s {n c j : Nat} {x : Int32} {k : Nat → Nat × Int32} (h : ix n x = some j) : gdx n x c k = k j := by unfold gdx; rw [h]
/-- what a call of the reference ends with: the code thrown, the answer; the world as it was -/
def RM (Φ : Out → Mem → Prop) (μ : Mem) (w : WD) (r : Nat × Int32) : Prop := ∀ μ', Lz zLs μ' = Lz zLs μ → mI μ' 140 0 = nI r.1 → MW μ' w → Φ (.inl (some (.int r.2))) μ'
section PUB
variable {g : Gl} {Φ : Out → Mem → Prop} {μ : Mem} {w : WD}
theorem MW_0 (m : MW μ w) {x : Int32} : MW (sI μ 140 0 x) w := ⟨(Prod.ext rfl rfl : wv (sI μ 140 0 x) = wv μ).trans m.1, m.2⟩
theorem RM_ok {v : Int32} (H : RM Φ μ w (0, v)) {μ' : Mem} (e : Lz zW μ' = Lz zW (sI μ 140 0 0)) (m' : MW μ' w) : Φ (.inl (some (.int v))) μ' :=
  H μ' ((zW_Ls e).trans (Lz_I rfl)) ((rdI1 e rfl).trans (by rw [rI_I, if_pos rfl, upd_s]; rfl)) m'
theorem RM_ok0 {v : Int32} (H : RM Φ μ w (0, v)) (m : MW μ w) : Φ (.inl (some (.int v))) (sI μ 140 0 0) := RM_ok H rfl (MW_0 m)
theorem RM_ok9 {v : Int32} (H : RM Φ μ w (0, v)) (m : MW μ w) (f : Nat → Int32) : Φ (.inl (some (.int v))) (sRI (sI μ 140 0 0) 149 f) := RM_ok H (Lz_RI fun _ => rfl) (MW_149 (MW_0 m) f)
theorem RM_er {c : Nat} {x : Int32} (H : RM Φ μ w (c, 0)) (hx : x = nI c) (m : MW μ w) : Φ (.inl (some (.int 0))) (sI (sI μ 140 0 0) 140 0 x) :=
  H _ ((Lz_I rfl).trans (Lz_I rfl)) (by rw [rI_I, if_pos rfl, upd_s]; exact hx) (MW_0 (MW_0 m))
theorem thr0 {c : Int32} (H : Φ (.inl (some (.int 0))) μ) : Spec g i_Mo_throwsIf 0 [.ref 140, .int 0, .int c] μ Φ :=
  spi o_Mo_throwsIf rfl (v_Mo_throwsIf_0 ⟨fun _ => ⟨Or.inl rfl, H⟩, fun h => absurd rfl h⟩)
theorem thr1 {c : Int32} (H : Φ (.inl (some (.int 1))) (sI μ 140 0 c)) : Spec g i_Mo_throwsIf 0 [.ref 140, .int 1, .int c] μ Φ :=
  spi o_Mo_throwsIf rfl (v_Mo_throwsIf_0 ⟨fun h => absurd h (by decide), fun _ => ⟨Or.inr rfl, H⟩⟩)
theorem m_in0 {n : Nat} (hn : n < 2 ^ 30) {a : Int32} (ha : a < 0 ∨ nI (n + 1) ≤ a) (H : Φ (.inl (some (.int 0))) μ) : Spec g i_Mo_in 0 [.int a, .int 0, .int (nI n)] μ Φ := by
  refine m_in ?_
  rw [decide_eq_false]; exact H
  rintro ⟨h1, h2⟩
  rcases ha with h | h
  · exact Int32.not_lt.mpr h1 h
  · have := Int32.le_trans h h2
    exact nI_ge (Nat.lt_succ_self n) (by omega) this
theorem m_in1 {n j : Nat} (hn : n < 2 ^ 30) (hj : j ≤ n) (H : Φ (.inl (some (.int 1))) μ) : Spec g i_Mo_in 0 [.int (nI j), .int 0, .int (nI n)] μ Φ := by
  refine m_in ?_
  rw [decide_eq_true]; exact H
  exact ⟨nI_pos' (by omega), nI_le hj (by omega)⟩
end PUB
