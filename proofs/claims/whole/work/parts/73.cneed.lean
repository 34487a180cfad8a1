/-! the class's face: what each call answers -/
/-- what a call of the class ends with: the answer, or the first or second throw -/
def outR (e1 e2 : Nat) (r : Nat × Int32) : Out := match r.1 with
  | 0 => .inl (some (.int r.2))
  | 1 => .inr e1
  | _ => .inr e2
def RC (Φ : Out → Mem → Prop) (μ : Mem) (w : WD) (e1 e2 : Nat) (r : Nat × Int32) : Prop := ∀ μ', Lz zQ μ' = Lz zQ μ → CI μ' w → Φ (outR e1 e2 r) μ'
section CNEED
variable {g : Gl} {Φ : Out → Mem → Prop} {μ : Mem} {w : WD}
theorem RC_ok {v : Int32} {e1 e2 : Nat} (H : RC Φ μ w e1 e2 (0, v)) {μ' : Mem} (e : Lz zQ μ' = Lz zQ μ) (c : CI μ' w) : Φ (.inl (some (.int v))) μ' := H μ' e c
theorem RC_1 {v : Int32} {e1 e2 : Nat} (H : RC Φ μ w e1 e2 (1, v)) (c : CI μ w) : Φ (.inr e1) μ := H μ rfl c
theorem RC_2 {v : Int32} {e1 e2 : Nat} (H : RC Φ μ w e1 e2 (2, v)) (c : CI μ w) : Φ (.inr e2) μ := H μ rfl c
theorem bad_ix {n : Nat} {a : Int32} (h : a < 0 ∨ nI n ≤ a) : ¬ a < 0 → ¬ a < nI n := fun h1 h2 => by
  rcases h with h | h
  · exact h1 h
  · exact Int32.not_lt.mpr h h2
theorem c_nT0 (c : CI μ w) {t : Nat} (ht : t < th w) (H : Φ (.inl none) μ) : Spec g i_SO_needThing 0 [.ref 0, .int (nI t)] μ Φ := by
  have t10 := ci_t10 c
  refine spi o_SO_needThing rfl (v_SO_needThing_0 ⟨fun h => absurd h (nI_pos (by omega)), fun _ => ⟨fun _ => H, fun h => absurd ?_ h⟩⟩)
  rw [c.1.1.1.trans (wf_th c.2.1).1]; exact nI_lt ht (by omega)
theorem c_nT1 (c : CI μ w) {a : Int32} (ha : a < 0 ∨ nI (th w) ≤ a) (H : Φ (.inr 2) μ) : Spec g i_SO_needThing 0 [.ref 0, .int a] μ Φ := by
  refine spi o_SO_needThing rfl (v_SO_needThing_0 ⟨fun _ => H, fun h => ⟨fun h2 => absurd ?_ (bad_ix ha h), fun _ => H⟩⟩)
  rw [c.1.1.1.trans (wf_th c.2.1).1] at h2; exact h2
theorem c_nP0 (c : CI μ w) {p : Nat} (hp : p < pe w) (H : Φ (.inl none) μ) : Spec g i_SO_needPerson 0 [.ref 0, .int (nI p)] μ Φ := by
  have p10 := ci_p10 c
  refine spi o_SO_needPerson rfl (v_SO_needPerson_0 ⟨fun h => absurd h (nI_pos (by omega)), fun _ => ⟨fun _ => H, fun h => absurd ?_ h⟩⟩)
  rw [ci_pe c]; exact nI_lt hp (by omega)
theorem c_nP1 (c : CI μ w) {a : Int32} (ha : a < 0 ∨ nI (pe w) ≤ a) (H : Φ (.inr 2) μ) : Spec g i_SO_needPerson 0 [.ref 0, .int a] μ Φ := by
  refine spi o_SO_needPerson rfl (v_SO_needPerson_0 ⟨fun _ => H, fun h => ⟨fun h2 => absurd ?_ (bad_ix ha h), fun _ => H⟩⟩)
  rw [ci_pe c] at h2; exact h2
theorem c_nS0 (c : CI μ w) {t q : Nat} (ht : t < th w) (hq : q < wo w t) (H : Φ (.inl none) μ) : Spec g i_SO_needSaying 0 [.ref 0, .int (nI t), .int (nI q)] μ Φ := by
  have t10 := ci_t10 c
  have w6 := (wf_wo c.2.1 (show t < 10 by omega)).2.1
  refine spi o_SO_needSaying rfl (v_SO_needSaying_0 (c_nT0 c ht (oV ⟨fun h => absurd h (nI_pos (by omega)), fun _ => ⟨vp_in_nI (by omega) (by decide), fun _ => H, fun h => absurd ?_ h⟩⟩)))
  rw [nx_nI (by omega), ci_wo c (by omega)]; exact nI_lt hq (by omega)
theorem c_nS1 (c : CI μ w) {t : Nat} {b : Int32} (ht : t < th w) (hb : b < 0 ∨ nI (wo w t) ≤ b) (H : Φ (.inr 2) μ) : Spec g i_SO_needSaying 0 [.ref 0, .int (nI t), .int b] μ Φ := by
  have t10 := ci_t10 c
  refine spi o_SO_needSaying rfl (v_SO_needSaying_0 (c_nT0 c ht (oV ⟨fun _ => H, fun h => ⟨vp_in_nI (by omega) (by decide), fun h2 => absurd ?_ (bad_ix hb h), fun _ => H⟩⟩)))
  rw [nx_nI (by omega), ci_wo c (by omega)] at h2; exact h2
theorem c_nS2 (c : CI μ w) {a b : Int32} (ha : a < 0 ∨ nI (th w) ≤ a) (H : Φ (.inr 2) μ) : Spec g i_SO_needSaying 0 [.ref 0, .int a, .int b] μ Φ :=
  spi o_SO_needSaying rfl (v_SO_needSaying_0 (c_nT1 c ha (oVx H)))
/-- a saying, right or not -/
theorem c_nSx (c : CI μ w) {a b : Int32} (H0 : Φ (.inl none) μ) (H : Φ (.inr 2) μ) : Spec g i_SO_needSaying 0 [.ref 0, .int a, .int b] μ Φ := by
  have t10 := ci_t10 c
  rcases ix_cs (n := th w) (by omega) a with ⟨-, ha⟩ | ⟨t, ht, rfl, -⟩
  · exact c_nS2 c ha H
  · have w6 := (wf_wo c.2.1 (show t < 10 by omega)).2.1
    rcases ix_cs (n := wo w t) (by omega) b with ⟨-, hb⟩ | ⟨q, hq, rfl, -⟩
    · exact c_nS1 c ht hb H
    · exact c_nS0 c ht hq H0
theorem c_n20 (c : CI μ w) {p q : Nat} (hp : p < pe w) (hq : q < pe w) (hn : ¬ p = q) (H : Φ (.inl none) μ) : Spec g i_SO_needTwo 0 [.ref 0, .int (nI p), .int (nI q)] μ Φ := by
  have p10 := ci_p10 c
  exact spi o_SO_needTwo rfl (v_SO_needTwo_0 (c_nP0 c hp (oV (c_nP0 c hq (oV ⟨fun _ => H, fun h => absurd (nI_inj (by omega) (by omega) h) hn⟩)))))
theorem c_n2a (c : CI μ w) {a b : Int32} (ha : a < 0 ∨ nI (pe w) ≤ a) (H : Φ (.inr 2) μ) : Spec g i_SO_needTwo 0 [.ref 0, .int a, .int b] μ Φ :=
  spi o_SO_needTwo rfl (v_SO_needTwo_0 (c_nP1 c ha (oVx H)))
theorem c_n2b (c : CI μ w) {p : Nat} {b : Int32} (hp : p < pe w) (hb : b < 0 ∨ nI (pe w) ≤ b) (H : Φ (.inr 2) μ) : Spec g i_SO_needTwo 0 [.ref 0, .int (nI p), .int b] μ Φ :=
  spi o_SO_needTwo rfl (v_SO_needTwo_0 (c_nP0 c hp (oV (c_nP1 c hb (oVx H)))))
theorem c_n2e (c : CI μ w) {p : Nat} (hp : p < pe w) (H : Φ (.inr 0) μ) : Spec g i_SO_needTwo 0 [.ref 0, .int (nI p), .int (nI p)] μ Φ :=
  spi o_SO_needTwo rfl (v_SO_needTwo_0 (c_nP0 c hp (oV (c_nP0 c hp (oV ⟨fun h => absurd rfl h, fun _ => H⟩)))))
theorem c_nM0 {n : Nat} (hn : n ≤ 40) (H : Φ (.inl none) μ) : Spec g i_SO_needTerm 0 [.int (nI n)] μ Φ :=
  spi o_SO_needTerm rfl (v_SO_needTerm_0 ⟨fun h => absurd h (nI_pos (by omega)), fun _ => ⟨fun _ => H, fun h => absurd (nI_le (b := 40) hn (by decide)) h⟩⟩)
theorem c_nM1 {a : Int32} (ha : a < 0 ∨ nI 41 ≤ a) (H : Φ (.inr 0) μ) : Spec g i_SO_needTerm 0 [.int a] μ Φ := by
  refine spi o_SO_needTerm rfl (v_SO_needTerm_0 ⟨fun _ => H, fun h => ⟨fun h2 => ?_, fun _ => H⟩⟩)
  rcases ha with h3 | h3
  · exact absurd h3 h
  · exact absurd (Int32.le_trans h3 h2) (by decide)
/-- a row of the log, so many ago -/
theorem c_ago (c : CI μ w) {a : Int32} (H : Φ (.inl (some (.int (ov ((ix (lg w) a).map (fun k => lg w - 1 - k)))))) μ) : Spec g i_SO_rowAgo 0 [.ref 0, .int a] μ Φ := by
  have l60 := wf_l60 c.2.1
  refine spi o_SO_rowAgo rfl (v_SO_rowAgo_0 ?_)
  rw [ci_row c]
  rcases ix_cs (n := lg w) (by omega) a with ⟨e, ha⟩ | ⟨k, hk, rfl, e⟩
  · rw [e] at H
    exact ⟨fun _ => H, fun h => ⟨fun h2 => absurd h2 (bad_ix ha h), fun _ => H⟩⟩
  · rw [e] at H
    refine ⟨fun h => absurd h (nI_pos (by omega)), fun _ => ⟨fun _ => ?_, fun h => absurd (nI_lt hk (by omega)) h⟩⟩
    rw [show nI (lg w) - 1 - nI k = nI (lg w - 1 - k) by rw [show (1 : Int32) = nI 1 from rfl, pk_sub (by omega), pk_sub (by omega)]]
    exact H
end CNEED
