/-! acts remembered, on both sides -/
def nr (r : Nat) : Nat := if r = 12 then 12 else r + 1
def nV (r : Nat) (V : Nat → WD) (w : WD) : Nat → WD := fun k => if r = 12 then (if k = 11 then w else V (k + 1)) else (if k = r then w else V k)
def FrA (μ' μ : Mem) : Prop := (∀ k j, ¬ (92 ≤ k ∧ k ≤ 139) → ¬ (k = 0 ∧ j = 8) → mI μ' k j = mI μ k j) ∧ ∀ k j, ¬ (92 ≤ k ∧ k ≤ 139) → mL μ' k j = mL μ k j
theorem FrA_i {μ' μ : Mem} (h : FrA μ' μ) {k : Nat} (h1 : ¬ (92 ≤ k ∧ k ≤ 139)) (h0 : k ≠ 0) : mI μ' k = mI μ k := funext fun j => h.1 k j h1 (fun e => h0 e.1)
theorem FrA_l {μ' μ : Mem} (h : FrA μ' μ) {k : Nat} (h1 : ¬ (92 ≤ k ∧ k ≤ 139)) : mL μ' k = mL μ k := funext fun j => h.2 k j h1
theorem FrA_CI {μ' μ : Mem} {w : WD} (h : FrA μ' μ) (c : CI μ w) : CI μ' w := by
  refine ⟨⟨?_, ?_, ?_, ?_⟩, c.2⟩
  · exact RSet_mem (fun k h1 h2 => FrA_i h (by omega) (by omega)) c.1.1
  · exact RSta_mem (fun k h1 h2 => FrA_i h (by omega) (by omega)) (FrA_l h (by omega)) c.1.2.1
  · exact RLaw_mem (h.1 _ _ (by omega) (by omega)) (h.1 _ _ (by omega) (by omega)) (fun k h1 h2 => FrA_i h (by omega) (by omega)) c.1.2.2.1
  · exact RLog_mem (fun k h1 h2 => FrA_i h (by omega) (by omega)) (FrA_l h (by omega)) c.1.2.2.2
def sPf (μ : Mem) (f : Nat → Nat) : Mem := (f, μ.2.1, μ.2.2)
def rot (f : Nat → Nat) (k : Nat) : Nat → Nat := fun j => if j + 1 < k then f (j + 1) else f j
theorem rot_s {f : Nat → Nat} {k : Nat} (hk : 1 ≤ k) : va_up (rot f k) (k - 1) (rot f k k) = rot f (k + 1) := by
  funext j
  unfold va_up rot
  by_cases h : j = k - 1
  · rw [if_pos h, if_neg (by omega), if_pos (by omega), show j + 1 = k by omega]
  · rw [if_neg h]
    by_cases h2 : j + 1 < k
    · rw [if_pos h2, if_pos (by omega)]
    · rw [if_neg h2, if_neg (by omega)]
theorem sh_st : ∀ i, i < 12 → 92 + 4 * i < NC ∧ (sh (92 + 4 * i)).1 = 8 := by decide +kernel
section REM
variable {g : Gl} {Φ : Out → Mem → Prop} {μ : Mem} {w : WD}
theorem c_cpK {i : Nat} (hi : i < 12) (h : RSta 11 μ w) (H : ∀ μ', Lz (zR (92 + 4 * i) 3) μ' = Lz (zR (92 + 4 * i) 3) μ → RSta (92 + 4 * i) μ' w → Φ (.inl none) μ') : Spec g i_Sta_copyFrom 0 [.ref (92 + 4 * i), .ref 11] μ Φ := by
  match i, hi with
  | 0, _ => exact c_cpS_92_11 h H
  | 1, _ => exact c_cpS_96_11 h H
  | 2, _ => exact c_cpS_100_11 h H
  | 3, _ => exact c_cpS_104_11 h H
  | 4, _ => exact c_cpS_108_11 h H
  | 5, _ => exact c_cpS_112_11 h H
  | 6, _ => exact c_cpS_116_11 h H
  | 7, _ => exact c_cpS_120_11 h H
  | 8, _ => exact c_cpS_124_11 h H
  | 9, _ => exact c_cpS_128_11 h H
  | 10, _ => exact c_cpS_132_11 h H
  | 11, _ => exact c_cpS_136_11 h H
theorem c_cpB {i : Nat} (hi : i < 12) (h : RSta (92 + 4 * i) μ w) (H : ∀ μ', Lz (zR 11 3) μ' = Lz (zR 11 3) μ → RSta 11 μ' w → Φ (.inl none) μ') : Spec g i_Sta_copyFrom 0 [.ref 11, .ref (92 + 4 * i)] μ Φ := by
  match i, hi with
  | 0, _ => exact c_cpS_11_92 h H
  | 1, _ => exact c_cpS_11_96 h H
  | 2, _ => exact c_cpS_11_100 h H
  | 3, _ => exact c_cpS_11_104 h H
  | 4, _ => exact c_cpS_11_108 h H
  | 5, _ => exact c_cpS_11_112 h H
  | 6, _ => exact c_cpS_11_116 h H
  | 7, _ => exact c_cpS_11_120 h H
  | 8, _ => exact c_cpS_11_124 h H
  | 9, _ => exact c_cpS_11_128 h H
  | 10, _ => exact c_cpS_11_132 h H
  | 11, _ => exact c_cpS_11_136 h H
theorem zR_FrA {i : Nat} {μ1 μ2 : Mem} (hi : i < 12) (e : Lz (zR (92 + 4 * i) 3) μ2 = Lz (zR (92 + 4 * i) 3) μ1) : FrA μ2 μ1 :=
  ⟨fun k j h1 _ => rdI1 e (zR_no (by omega)), fun k j h1 => rdL1 e (zR_no (by omega))⟩
theorem c_rem {r : Nat} {V : Nat → WD} (a : ACTC μ r V) (h : RSta 11 μ w) (H : ∀ μ', FrA μ' μ → ACTC μ' (nr r) (nV r V w) → Φ (.inl none) μ') : Spec g i_SO_remember 0 [.ref 0] μ Φ := by
  obtain ⟨h12, h8, hP, hR⟩ := a
  have lt : ∀ k, k < 12 → mP μ k < NC := fun k hk => by obtain ⟨i, i1, i2⟩ := hP.1 k hk; rw [i2]; exact (sh_st i i1).1
  have s8 : ∀ k, k < 12 → (sh (mP μ k)).1 = 8 := fun k hk => by obtain ⟨i, i1, i2⟩ := hP.1 k hk; rw [i2]; exact (sh_st i i1).2
  refine spi o_SO_remember rfl (v_SO_remember_0 ?_)
  by_cases e : r = 12
  · subst e
    refine ⟨fun h => absurd h8 h, fun _ => ⟨vin 0 rfl, lt 0 (by omega), ?_⟩⟩
    have key := zupF (P := fun k => WW g i_SO_remember 0 Φ 0 0 18 [(0, .ref 0), (1, .ref (mP μ 0)), (2, .int (nI k))] [] (sPf μ (rot (mP μ) k))) 1 12 (by omega) ?_ ?_
    · have e1 : sPf μ (rot (mP μ) 1) = μ := by
        refine Prod.ext ?_ rfl
        funext j
        show (if j + 1 < 1 then mP μ (j + 1) else mP μ j) = mP μ j
        rw [if_neg (by omega)]
      rw [e1] at key; exact key
    · have e11 : mI μ 0 8 - 1 = nI 11 := by rw [h8]; rfl
      refine v_SO_remember_18 ⟨fun _ => ⟨vin 11 rfl, isK_of (lt 0 (by omega)) (s8 0 (by omega)) ?_⟩, fun h => absurd (nI_le (a := 12) (b := 12) (by omega) (by omega)) h⟩
      show vp_in (mI μ 0 8 - 1) 12 ∧ mP (sP (sPf μ (rot (mP μ) 12)) (nx 11) (mP μ 0)) (nx (mI μ 0 8 - 1)) < NC ∧ isK (mP (sP (sPf μ (rot (mP μ) 12)) (nx 11) (mP μ 0)) (nx (mI μ 0 8 - 1))) 8 (Spec g i_Sta_copyFrom 0 [.ref (mP (sP (sPf μ (rot (mP μ) 12)) (nx 11) (mP μ 0)) (nx (mI μ 0 8 - 1))), .ref 11] (sI (sP (sPf μ (rot (mP μ) 12)) (nx 11) (mP μ 0)) 0 8 (mI μ 0 8 - 1)) (onV (fun μ1 => Φ (.inl none) (sI μ1 0 8 (mI μ1 0 8 + 1))) _))
      rw [e11]
      have ep : mP (sP (sPf μ (rot (mP μ) 12)) (nx 11) (mP μ 0)) (nx (nI 11)) = mP μ 0 := (if_pos rfl : (if nx (nI 11) = nx 11 then mP μ 0 else rot (mP μ) 12 (nx (nI 11))) = mP μ 0)
      rw [ep]
      obtain ⟨i, i1, i2⟩ := hP.1 0 (by omega)
      refine ⟨vin 11 rfl, lt 0 (by omega), isK_of (lt 0 (by omega)) (s8 0 (by omega)) ?_⟩
      rw [i2]
      have hp2 : ∀ k, k < 12 → va_up (rot (mP μ) 12) (nx 11) (92 + 4 * i) k = mP μ (if k = 11 then 0 else k + 1) := by
        intro k hk
        show (if k = 11 then _ else if k + 1 < 12 then _ else _) = _
        by_cases hk1 : k = 11
        · rw [if_pos hk1, if_pos hk1, i2]
        · rw [if_neg hk1, if_neg hk1, if_pos (by omega)]
      refine c_cpK i1 (w := w) (RSta_mem (fun k h1 h2 => ?_) rfl h) fun μ2 e2 h2 => oV (H _ ?_ ?_)
      · rw [rI_I, if_neg (by omega)]
      · have f := zR_FrA i1 e2
        refine ⟨fun k j h1 h0 => ?_, fun k j h1 => ?_⟩
        · rw [rI_I]
          by_cases hk : k = 0
          · rw [if_pos hk, hk, upd_n (fun hj => h0 ⟨hk, hj⟩), f.1 0 j (by omega) (fun q => h0 ⟨hk, q.2⟩), rI_I, if_pos rfl, upd_n (fun hj => h0 ⟨hk, hj⟩)]; rfl
          · rw [if_neg hk, f.1 k j h1 (fun q => hk q.1), rI_I, if_neg hk]; rfl
        · rw [rL_I, f.2 k j h1]; rfl
      · have ep2 : mP (sI μ2 0 8 (mI μ2 0 8 + 1)) = va_up (rot (mP μ) 12) (nx 11) (92 + 4 * i) := by
          show mP μ2 = _
          rw [rdP e2, ← i2]; rfl
        have e8 : mI μ2 0 8 = nI 11 := by
          rw [rdI1 e2 (zR_no (by omega)), rI_I, if_pos rfl, upd_s]
        refine ⟨by unfold nr; simp, ?_, ?_, fun k hk => ?_⟩
        · rw [rI_I, if_pos rfl, upd_s, e8]; rfl
        · rw [ep2]
          refine ⟨fun k hk => ?_, fun a b ha hb hab => ?_⟩
          · rw [hp2 k hk]
            exact hP.1 _ (by split <;> omega)
          · rw [hp2 a ha, hp2 b hb] at hab
            have := hP.2 _ _ (by split <;> omega) (by split <;> omega) hab
            split at this <;> split at this <;> omega
        · have hk : k < 12 := by unfold nr at hk; simpa using hk
          rw [ep2, hp2 k hk]
          unfold nV
          rw [if_pos rfl]
          by_cases hk1 : k = 11
          · rw [if_pos hk1, if_pos hk1, i2]
            exact RSta_mem (μ := μ2) (fun a a1 a2 => by rw [rI_I, if_neg (by omega)]) rfl h2
          · rw [if_neg hk1, if_neg hk1]
            obtain ⟨a, a1, a2⟩ := hP.1 (k + 1) (by omega)
            have hia : a ≠ i := fun q => by
              have := hP.2 (k + 1) 0 (by omega) (by omega) (by rw [a2, i2, q]); omega
            have hk' := hR (k + 1) (by omega)
            rw [a2] at hk' ⊢
            refine RSta_mem (fun b b1 b2 => ?_) ?_ hk'
            · rw [rI_I, if_neg (by omega), rdI e2 (fun j => zR_no (by omega)), rI_I, if_neg (by omega)]; rfl
            · rw [rL_I, rdL e2 (fun j => zR_no (by omega))]; rfl
    · intro k hk1 hk2 ih
      refine v_SO_remember_18 ⟨fun h => absurd h (nI_ge (b := 12) hk2 (by decide)), fun _ => ⟨vp_in_nI hk2 (by decide), ?_, ?_, ?_⟩⟩
      · rw [nx_nI (by omega)]
        show rot (mP μ) k k < NC
        unfold rot; rw [if_neg (by omega)]; exact lt k hk2
      · rw [show (1 : Int32) = nI 1 from rfl, pk_sub (by omega)]; exact vp_in_nI (by omega) (by decide)
      · rw [nx_nI (by omega), show nI k - 1 = nI (k - 1) by rw [show (1 : Int32) = nI 1 from rfl, pk_sub (by omega)], nx_nI (by omega), ← nI_succ]
        have e1 : mP (sPf μ (rot (mP μ) k)) k = mP μ k := by show rot (mP μ) k k = _; unfold rot; rw [if_neg (by omega)]
        have e2 : sP (sPf μ (rot (mP μ) k)) (k - 1) (mP (sPf μ (rot (mP μ) k)) k) = sPf μ (rot (mP μ) (k + 1)) := by
          refine Prod.ext ?_ rfl
          exact rot_s hk1
        refine isK_of (by rw [e1]; exact lt k hk2) (by rw [e1]; exact s8 k hk2) ?_
        rw [e2]; exact ih
  · obtain ⟨i, i1, i2⟩ := hP.1 r (by omega)
    rw [h8]
    refine ⟨fun _ => ⟨vp_in_nI (by omega) (by decide), ?_, ?_⟩, fun h => absurd (nI_inj (a := r) (b := 12) (by omega) (by omega) h) e⟩
    · rw [nx_nI (by omega)]; exact lt r (by omega)
    · rw [nx_nI (by omega)]
      refine isK_of (lt r (by omega)) (s8 r (by omega)) ?_
      rw [i2]
      refine c_cpK i1 h fun μ2 e2 h2 => oV (H _ ?_ ?_)
      · have f := zR_FrA i1 e2
        refine ⟨fun k j h1 h0 => ?_, fun k j h1 => ?_⟩
        · rw [rI_I]
          by_cases hk : k = 0
          · rw [if_pos hk, upd_n (fun hj => h0 ⟨hk, hj⟩), hk]; exact f.1 0 j (by omega) (fun q => h0 ⟨hk, q.2⟩)
          · rw [if_neg hk]; exact f.1 k j h1 (fun q => hk q.1)
        · exact f.2 k j h1
      · have ep2 : mP (sI μ2 0 8 (mI μ2 0 8 + 1)) = mP μ := (rdP e2 : mP μ2 = mP μ)
        have e8 : mI μ2 0 8 = nI r := by rw [rdI1 e2 (zR_no (by omega)), h8]
        have hn : nr r = r + 1 := if_neg e
        refine ⟨by omega, ?_, by rw [ep2]; exact hP, fun k hk => ?_⟩
        · rw [rI_I, if_pos rfl, upd_s, e8, hn, nI_succ]
        · rw [ep2]
          unfold nV
          rw [if_neg e]
          by_cases hk1 : k = r
          · rw [if_pos hk1, hk1, i2]
            exact RSta_mem (μ := μ2) (fun a a1 a2 => by rw [rI_I, if_neg (by omega)]) rfl h2
          · rw [if_neg hk1]
            obtain ⟨a, a1, a2⟩ := hP.1 k (by omega)
            have hia : a ≠ i := fun q => hk1 (hP.2 k r (by omega) (by omega) (by rw [a2, i2, q]))
            have hk' := hR k (by omega)
            rw [a2] at hk' ⊢
            refine RSta_mem (fun b b1 b2 => ?_) ?_ hk'
            · rw [rI_I, if_neg (by omega), rdI e2 (fun j => zR_no (by omega))]
            · rw [rL_I, rdL e2 (fun j => zR_no (by omega))]
end REM
