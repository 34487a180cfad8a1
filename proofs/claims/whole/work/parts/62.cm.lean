/-! contracts: Search's seats, spot -/
/-- all of the school that is now, the planner's and the search's rows -/
def zQ (k _j : Nat) : Bool := (Nat.ble 3 k && Nat.ble k 33) || (Nat.ble 65 k && Nat.ble k 69)
theorem zT_Q {μ μ' : Mem} (e : Lz zT μ' = Lz zT μ) : Lz zQ μ' = Lz zQ μ := Lz_up (fun k j h => by
  unfold zT at h; unfold zQ
  have : 3 ≤ k ∧ k ≤ 33 := by
    simp only [Bool.or_eq_true, Bool.and_eq_true, Nat.ble_eq, Nat.beq_eq] at h
    omega
  have h1 : Nat.ble 3 k = true := Nat.ble_eq.mpr this.1
  have h2 : Nat.ble k 33 = true := Nat.ble_eq.mpr this.2
  rw [h1, h2]; rfl) e
theorem zL_Q {μ μ' : Mem} (e : Lz zL μ' = Lz zL μ) : Lz zQ μ' = Lz zQ μ := Lz_up (fun k j h => by
  unfold zL zT at h; unfold zQ
  have : 3 ≤ k ∧ k ≤ 33 := by
    simp only [Bool.or_eq_true, Bool.and_eq_true, Nat.ble_eq, Nat.beq_eq] at h
    omega
  have h1 : Nat.ble 3 k = true := Nat.ble_eq.mpr this.1
  have h2 : Nat.ble k 33 = true := Nat.ble_eq.mpr this.2
  rw [h1, h2]; rfl) e
theorem zS_Q {μ μ' : Mem} (e : Lz zS μ' = Lz zS μ) : Lz zQ μ' = Lz zQ μ := Lz_up (fun k j h => by
  unfold zS zT at h; unfold zQ
  simp only [Bool.or_eq_true, Bool.and_eq_true, Nat.ble_eq, Nat.beq_eq] at h ⊢
  omega) e
section CM
variable {g : Gl} {Φ : Out → Mem → Prop} {μ : Mem} {w : WD}
theorem c_hif (c : CI μ w) {p r who t q : Nat} (hp : p < 10) (hr : r < 10) (hn : p ≠ r) (hw : who < 10) (ht : t < th w) (H : ∀ μ', Lz zQ μ' = Lz zQ μ → CI μ' w → Φ (.inl (some (.int (nI (msn w who t q p r))))) μ') :
    Spec g i_Se_hearersIfSwapped 0 [.ref 68, .int (nI p), .int (nI r), .int (nI who), .int (nI t), .int (nI q)] μ Φ := by
  have p10 := ci_p10 c
  refine spi o_Se_hearersIfSwapped rfl (v_Se_hearersIfSwapped_0 (c_swap c hp hr (oV ?_)))
  have c1 := CI_trd c hp hr
  have et : th (trd w p r) = th w := agS_th (trd_ag hp hr)
  have ep : pe (trd w p r) = pe w := agS_pe (trd_ag hp hr)
  refine c_hrs c1 hw (by rw [et]; exact ht) fun μ2 e2 => oI (c_bc (oI ?_))
  rw [ep, bc_msk p10]
  have c2 := c1.lv (zT_scr e2)
  refine c_swap c2 hp hr (oV ?_)
  have c3 := CI_trd c2 hp hr
  rw [trd_2 hn] at c3
  refine H _ ?_ c3
  exact ((Lz_I rfl).trans ((Lz_I rfl).trans ((Lz_I rfl).trans (Lz_I rfl)))).trans ((zT_Q e2).trans ((Lz_I rfl).trans ((Lz_I rfl).trans ((Lz_I rfl).trans (Lz_I rfl)))))
theorem c_bsw (c : CI μ w) {who t q : Nat} (hw : who < pe w) (ht : t < th w) (H : ∀ μ', Lz zQ μ' = Lz zQ μ → CI μ' w → Φ (.inl (some (.int (ov (stP w who t q (pe w)).1)))) μ') :
    Spec g i_Se_bestSwap 0 [.ref 68, .int (nI who), .int (nI t), .int (nI q)] μ Φ := by
  have p10 := ci_p10 c
  refine spi o_Se_bestSwap rfl (v_Se_bestSwap_0 (c_hrs c (by omega) ht fun μ0 e0 => oI (c_bc (oI ?_))))
  rw [bc_msk p10]
  have c0 := c.lv (zT_scr e0)
  refine zup (P := fun p => ∀ μ', Lz zQ μ' = Lz zQ μ → CI μ' w → WW g i_Se_bestSwap 0 Φ 0 0 21 [(0, .ref 68), (1, .int (nI who)), (2, .int (nI t)), (3, .int (nI q)), (4, .int (ov (stP w who t q p).1)), (5, .int (nI (stP w who t q p).2)), (6, .int (nI p))] [] μ') (pe w) ?_ ?_ μ0 (zT_Q e0) c0
  · intro μ' e c'
    exact v_Se_bestSwap_21 ⟨fun _ => H μ' e c', fun h => absurd (by rw [ci_pe c']; exact nI_le (Nat.le_refl _) (by omega)) h⟩
  · intro p hp ihp μ1 e1 c1
    have hd : stP w who t q (p + 1) = stQ w who t q p (stP w who t q p) (pe w - (p + 1)) := rfl
    have hle := stP_le (w := w) (who := who) (t := t) (q := q) p
    rw [hd] at ihp
    generalize stP w who t q p = s at *
    refine v_Se_bestSwap_21 ⟨fun h => absurd h (by rw [ci_pe c1]; exact nI_ge hp (by omega)), fun _ => ?_⟩
    have key := zup (P := fun k => ∀ μ', Lz zQ μ' = Lz zQ μ → CI μ' w → WW g i_Se_bestSwap 0 Φ 0 0 42 [(0, .ref 68), (1, .int (nI who)), (2, .int (nI t)), (3, .int (nI q)), (4, .int (ov (stQ w who t q p s k).1)), (5, .int (nI (stQ w who t q p s k).2)), (6, .int (nI p)), (7, .int (nI (p + 1 + k)))] [] μ') (pe w - (p + 1)) ?_ ?_ μ1 e1 c1
    · rw [Nat.add_zero, nI_succ] at key; exact key
    · intro μ' e c'
      refine v_Se_bestSwap_42 ⟨fun _ => ?_, fun h => absurd (by rw [ci_pe c']; exact nI_le (by omega) (by omega)) h⟩
      rw [← nI_succ]; exact ihp μ' e c'
    · intro k hk ihk μ2 e2 c2
      have hdk : stQ w who t q p s (k + 1) = if (stQ w who t q p s k).2 < msn w who t q p (p + 1 + k) then (some (10 * p + (p + 1 + k)), msn w who t q p (p + 1 + k)) else stQ w who t q p s k := rfl
      have hle2 := stQ_le (who := who) (t := t) (q := q) (p := p) hle k
      rw [hdk, show p + 1 + (k + 1) = p + 1 + k + 1 by omega] at ihk
      generalize stQ w who t q p s k = u at *
      have hr : p + 1 + k < pe w := by omega
      have hpr : p ≠ p + 1 + k := by omega
      generalize p + 1 + k = r at *
      refine v_Se_bestSwap_42 ⟨fun h => absurd h (by rw [ci_pe c2]; exact nI_ge hr (by omega)), fun _ => c_hif c2 (by omega) (by omega) hpr (by omega) ht fun μ3 e3 c3 => oI ?_⟩
      have hml := ms_le (w := w) (who := who) (t := t) (q := q) (p := p) (r := r)
      refine ⟨fun h2 => ?_, fun h2 => ?_⟩
      · rw [nI_leI (by omega) (by omega)] at h2
        rw [if_neg (by omega), nI_succ] at ihk
        exact ihk μ3 (e3.trans e2) c3
      · rw [nI_leI (by omega) (by omega)] at h2
        rw [if_pos (by omega), nI_succ] at ihk
        have := ihk μ3 (e3.trans e2) c3
        rw [show (10 : Int32) = nI 10 from rfl, pk_mul, nI_add]; exact this
theorem stQ_is {who t q p : Nat} {s : Option Nat × Nat} (n : Nat) : stQ w who t q p s n = s ∨ ∃ k, k < n ∧ stQ w who t q p s n = (some (10 * p + (p + 1 + k)), msn w who t q p (p + 1 + k)) := by
  induction n with
  | zero => exact Or.inl rfl
  | succ n ih =>
    unfold stQ; split
    · exact Or.inr ⟨n, by omega, rfl⟩
    · rcases ih with h | ⟨k, h1, h2⟩
      · exact Or.inl h
      · exact Or.inr ⟨k, by omega, h2⟩
theorem stP_is {who t q : Nat} (n : Nat) : stP w who t q n = (none, ms0 w who t q) ∨ ∃ p r, p < n ∧ p < r ∧ r < pe w ∧ stP w who t q n = (some (10 * p + r), msn w who t q p r) := by
  induction n with
  | zero => exact Or.inl rfl
  | succ n ih =>
    have hd : stP w who t q (n + 1) = stQ w who t q n (stP w who t q n) (pe w - (n + 1)) := rfl
    rcases stQ_is (w := w) (who := who) (t := t) (q := q) (p := n) (s := stP w who t q n) (pe w - (n + 1)) with h | ⟨k, h1, h2⟩
    · rw [hd, h]
      rcases ih with h | ⟨p, r, h1, h2, h3, h4⟩
      · exact Or.inl h
      · exact Or.inr ⟨p, r, by omega, h2, h3, h4⟩
    · exact Or.inr ⟨n, n + 1 + k, by omega, by omega, by omega, by rw [hd, h2]⟩
/-- a seat where one would hear -/
def spt (w : WD) (p who t q s : Nat) : Bool := decide (∀ o, o < pe w → o ≠ p → ¬ (pf w o 0 = nI (s / 10) ∧ pf w o 1 = nI (s % 10))) && (tk0 (mov w p (nI (s / 10)) (nI (s % 10))) who t q p).isSome
def spo (w : WD) (p who t q : Nat) : Option Nat := if lo (spt w p who t q) 100 < 100 then some (lo (spt w p who t q) 100) else none
end CM
