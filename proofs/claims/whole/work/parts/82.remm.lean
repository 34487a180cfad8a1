/-! acts remembered: the reference -/
def zB (k j : Nat) : Bool := (Nat.ble 145 k && Nat.ble k 146) || (Nat.beq k 140 && Nat.beq j 12)
theorem n1015 {q k : Nat} (h : 1015 * q + k < 2 ^ 20) : (1015 : Int32) * nI q + nI k = nI (1015 * q + k) := by
  rw [show (1015 : Int32) = nI 1015 from rfl, pk_mul, nI_add]
section REMM
variable {g : Gl} {Φ : Out → Mem → Prop} {μ : Mem} {w : WD}
theorem m_rem83 {q : Nat} (hq : q < 12) (hv : mI μ 141 = w.1) (hl : mL μ 140 6 = w.2) (h12 : mI μ 140 12 = nI (q + 1))
    (H : ∀ μ', Lz zB μ' = Lz zB μ → mI μ' 140 12 = nI (q + 1) → (∀ j, j < 1015 → mI μ' 145 (1015 * q + j) = w.1 j) → (∀ j, j < 1015 * q → mI μ' 145 j = mI μ 145 j) → mL μ' 146 q = w.2 → (∀ j, j ≠ q → mL μ' 146 j = mL μ 146 j) → Φ (.inl none) μ') :
    WW g i_Mo_remembers 0 Φ 0 0 83 [(0, .ref 140), (1, .int 0)] [] μ := by
  have eq1 : nI (q + 1) - 1 = nI q := nI_pred q
  refine zup (P := fun k => ∀ μ', Lz zB μ' = Lz zB μ → mI μ' 140 12 = nI (q + 1) → (∀ j, j < k → mI μ' 145 (1015 * q + j) = w.1 j) → (∀ j, j < 1015 * q → mI μ' 145 j = mI μ 145 j) → mL μ' 146 = mL μ 146 → WW g i_Mo_remembers 0 Φ 0 0 83 [(0, .ref 140), (1, .int (nI k))] [] μ') 1015 ?_ ?_ μ rfl h12 (fun j h => absurd h (Nat.not_lt_zero _)) (fun j _ => rfl) rfl
  · intro μ' e h hc hk hL
    refine v_Mo_remembers_83 ⟨fun _ => ?_, fun h => absurd (nI_le (a := 1015) (b := 1015) (by decide) (by decide)) h⟩
    rw [h, eq1, nx_nI (by omega)]
    refine ⟨vp_in_nI (by omega) (by decide), H _ ((Lz_L rfl).trans e) h hc hk ?_ fun j hj => ?_⟩
    · rw [rL_L, if_pos rfl, updL_s]; exact (rdL1 e rfl).trans hl
    · rw [rL_L, if_pos rfl, updL_n hj, hL]
  · intro k hk ih μ' e h hc hkk hL
    refine v_Mo_remembers_83 ⟨fun h => absurd h (nI_ge (b := 1015) hk (by decide)), fun _ => ?_⟩
    rw [h, eq1, n1015 (by omega), nx_nI (by omega), nx_nI (by omega), ← nI_succ]
    refine ⟨vp_in_nI (by omega) (by decide), vp_in_nI (by omega) (by decide), ih _ ((Lz_I rfl).trans e) ?_ (fun j hj => ?_) (fun j hj => ?_) hL⟩
    · rw [rI_I, if_neg (by decide)]; exact h
    · by_cases q1 : j = k
      · rw [q1, rI_I, if_pos rfl, upd_s, (rdI e fun _ => rfl : mI μ' 141 = mI μ 141), hv]
      · rw [rI_I, if_pos rfl, upd_n (by omega)]; exact hc j (by omega)
    · rw [rI_I, if_pos rfl, upd_n (by omega)]; exact hkk j hj
theorem m_rem {r : Nat} {V : Nat → WD} (hr : r ≤ 12) (m : MW μ w) (a : ACTM μ r V) (H : ∀ μ', Lz zB μ' = Lz zB μ → ACTM μ' (nr r) (nV r V w) → Φ (.inl none) μ') : Spec g i_Mo_remembers 0 [.ref 140] μ Φ := by
  obtain ⟨h12, hR⟩ := a
  refine spi o_Mo_remembers rfl (v_Mo_remembers_0 ?_)
  rw [h12]
  by_cases e : r = 12
  · subst e
    refine ⟨fun h => absurd rfl h, fun _ => ?_⟩
    refine zup (P := fun k => ∀ μ', Lz zB μ' = Lz zB μ → mI μ' 140 12 = nI 12 → (∀ j, mI μ' 145 j = if j < k then mI μ 145 (j + 1015) else mI μ 145 j) → mL μ' 146 = mL μ 146 → WW g i_Mo_remembers 0 Φ 0 0 11 [(0, .ref 140), (1, .int (nI k))] [] μ') 11165 ?_ ?_ μ rfl h12 (fun j => by rw [if_neg (Nat.not_lt_zero _)]) rfl
    · intro μ' e h hc hL
      refine v_Mo_remembers_11 ⟨fun _ => ?_, fun h => absurd (nI_le (a := 11165) (b := 11165) (by decide) (by decide)) h⟩
      refine zupF (P := fun k => ∀ μ2, Lz zB μ2 = Lz zB μ → mI μ2 140 12 = nI 12 → mI μ2 145 = mI μ' 145 → (∀ j, mL μ2 146 j = if j + 1 < k then mL μ 146 (j + 1) else mL μ 146 j) → WW g i_Mo_remembers 0 Φ 0 0 42 [(0, .ref 140), (1, .int (nI k))] [] μ2) 1 12 (by decide) ?_ ?_ μ' e h rfl (fun j => by rw [if_neg (by omega), hL])
      · intro μ2 e2 h2 hI hL2
        refine v_Mo_remembers_42 ⟨fun _ => ?_, fun h => absurd (nI_le (a := 12) (b := 12) (by decide) (by decide)) h⟩
        refine m_rem83 (q := 11) (by decide) ((rdI e2 fun _ => rfl).trans (mw_i m)) ((rdL1 e2 rfl).trans (mw_l m)) h2 fun μ3 e3 h3 hc3 hk3 hl3 hm3 => H μ3 (e3.trans e2) ⟨h3, fun k hk => ?_⟩
        have hk : k < 12 := by unfold nr at hk; simpa using hk
        unfold nV
        rw [if_pos rfl]
        by_cases hk1 : k = 11
        · rw [if_pos hk1, hk1]; exact ⟨hc3, hl3⟩
        · rw [if_neg hk1]
          obtain ⟨b1, b2⟩ := hR (k + 1) (by omega)
          refine ⟨fun j hj => ?_, ?_⟩
          · rw [hk3 _ (by omega), hI, hc, if_pos (by omega), show 1015 * k + j + 1015 = 1015 * (k + 1) + j by omega]; exact b1 j hj
          · rw [hm3 k hk1, hL2, if_pos (by omega)]; exact b2
      · intro k hk1 hk ih μ2 e2 h2 hI hL2
        refine v_Mo_remembers_42 ⟨fun h => absurd h (nI_ge (b := 12) hk (by decide)), fun _ => ⟨vp_in_nI hk (by decide), ?_⟩⟩
        rw [show nI k - 1 = nI (k - 1) by rw [show (1 : Int32) = nI 1 from rfl, pk_sub (by omega)], nx_nI (by omega), nx_nI (by omega), ← nI_succ]
        refine ⟨vp_in_nI (by omega) (by decide), ih _ ((Lz_L rfl).trans e2) h2 hI fun j => ?_⟩
        rw [rL_L, if_pos rfl]
        by_cases q1 : j = k - 1
        · rw [q1, updL_s, if_pos (by omega), hL2, if_neg (by omega), show k - 1 + 1 = k by omega]
        · rw [updL_n q1, hL2]
          by_cases q2 : j + 1 < k
          · rw [if_pos q2, if_pos (by omega)]
          · rw [if_neg q2, if_neg (by omega)]
    · intro k hk ih μ' e h hc hL
      refine v_Mo_remembers_11 ⟨fun h => absurd h (nI_ge (b := 11165) hk (by decide)), fun _ => ?_⟩
      rw [show (1015 : Int32) = nI 1015 from rfl, nI_add, nx_nI (by omega), nx_nI (by omega), ← nI_succ]
      refine ⟨vp_in_nI (by omega) (by decide), vp_in_nI (by omega) (by decide), ih _ ((Lz_I rfl).trans e) ?_ (fun j => ?_) hL⟩
      · rw [rI_I, if_neg (by decide)]; exact h
      · rw [rI_I, if_pos rfl]
        by_cases q1 : j = k
        · rw [q1, upd_s, if_pos (by omega), hc, if_neg (by omega)]
        · rw [upd_n q1, hc]
          by_cases q2 : j < k
          · rw [if_pos q2, if_pos (by omega)]
          · rw [if_neg q2, if_neg (by omega)]
  · refine ⟨fun _ => ?_, fun h => absurd (nI_inj (a := r) (b := 12) (by omega) (by omega) h) e⟩
    have z : Lz zB (sI μ 140 12 (nI r + 1)) = Lz zB μ := Lz_I rfl
    refine m_rem83 (q := r) (by omega) ((rdI z fun _ => rfl).trans (mw_i m)) ((rdL1 z rfl).trans (mw_l m)) (by rw [rI_I, if_pos rfl, upd_s, nI_succ]) fun μ3 e3 h3 hc3 hk3 hl3 hm3 => ?_
    have hn : nr r = r + 1 := if_neg e
    refine H μ3 (e3.trans z) ⟨by rw [hn]; exact h3, fun k hk => ?_⟩
    rw [hn] at hk
    unfold nV
    rw [if_neg e]
    by_cases hk1 : k = r
    · rw [if_pos hk1, hk1]; exact ⟨hc3, hl3⟩
    · rw [if_neg hk1]
      obtain ⟨b1, b2⟩ := hR k (by omega)
      refine ⟨fun j hj => ?_, ?_⟩
      · rw [hk3 _ (by omega), rI_I, if_neg (by decide)]; exact b1 j hj
      · rw [hm3 k hk1]; exact b2
end REMM
