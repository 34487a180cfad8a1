/-! contracts: Log's rows, teachers, chains -/
section CN
variable {g : Gl} {Φ : Out → Mem → Prop} {μ : Mem} {w : WD}
theorem ci_lg (c : CI μ w) {r : Nat} (hr : r < lg w) : mI μ 23 (lg w - 1 - r) = lw w r 0 ∧ mI μ 24 (lg w - 1 - r) = lw w r 1 ∧ mI μ 25 (lg w - 1 - r) = lw w r 2 ∧ mI μ 26 (lg w - 1 - r) = lw w r 3 ∧ mI μ 28 (lg w - 1 - r) = lw w r 4 ∧
    ∀ p, p < 10 → bt (lw w r 3) p = true → nib (mL μ 27 (lg w - 1 - r)) p = lw w r (5 + p) := c.1.2.2.2.1 r hr
theorem c_lby (c : CI μ w) {r p : Nat} (hr : r < lg w) (hp : p < 10) (H : Φ (.inl (some (.int (lw w r (5 + p))))) μ) : Spec g i_Log_learntBy 0 [.ref 22, .int (nI (lg w - 1 - r)), .int (nI p)] μ Φ := by
  have l60 := wf_l60 c.2.1
  obtain ⟨-, -, -, e3, -, e5⟩ := ci_lg c hr
  have v := vp_in_nI (N := 60) (show lg w - 1 - r < 60 by omega) (by decide)
  refine spi o_Log_learntBy rfl (v_Log_learntBy_0 ⟨v, ?_⟩)
  rw [nx_nI (by omega), e3, tb0 (by omega)]
  refine ⟨fun h => ⟨v, ?_⟩, fun h => ?_⟩
  · rw [Bool.not_eq_false] at h
    have := e5 p hp h
    unfold nib at this
    rw [show (4 : Int32) = nI 4 from rfl, pk_mul, this]; exact H
  · rw [(wf_lea c.2.1 hr hp).2 h] at H; exact H
theorem c_rwb (c : CI μ w) {p t f : Nat} (hp : p < 10) (ht : t < 10) (hf : f ≤ lg w) (H : Φ (.inl (some (.int (ov ((row w p t f).map (fun r => lg w - 1 - r)))))) μ) : Spec g i_Log_rowBefore 0 [.ref 22, .int (nI (lg w - f)), .int (nI p), .int (nI t)] μ Φ := by
  have l60 := wf_l60 c.2.1
  refine spi o_Log_rowBefore rfl (v_Log_rowBefore_0 ?_)
  have key := zup (P := fun k => (∀ i, f ≤ i → i < f + k → lw w i (5 + p) ≠ nI t) → WW g i_Log_rowBefore 0 Φ 0 0 5 [(0, .ref 22), (2, .int (nI p)), (3, .int (nI t)), (4, .int (nI (lg w - f - k) - 1))] [] μ) (lg w - f) ?_ ?_
  · exact key fun i h1 h2 => by omega
  · intro hn
    rw [row_none fun i h1 h2 => hn i h1 (by omega)] at H
    rw [Nat.sub_self]
    exact v_Log_rowBefore_5 ⟨fun _ => H, fun h => absurd (show nI 0 - 1 < 0 by decide) h⟩
  · intro k hk ih hn
    have e0 : nI (lg w - f - k) - 1 = nI (lg w - 1 - (f + k)) := by rw [show lg w - f - k = lg w - 1 - (f + k) + 1 by omega, nI_pred]
    rw [e0]
    refine v_Log_rowBefore_5 ⟨fun h => absurd h (nI_nlt (a := lg w - 1 - (f + k)) (b := 0) (by omega) (by omega)), fun _ => c_lby c (by omega) hp (oI ⟨fun h => ?_, fun h => ?_⟩)⟩
    · have e1 : nI (lg w - 1 - (f + k)) + -1 = nI (lg w - f - (k + 1)) - 1 := by rw [show lg w - 1 - (f + k) = lg w - f - (k + 1) by omega]; grind
      rw [e1]
      refine ih fun i h1 h2 => ?_
      by_cases q : i = f + k
      · rw [q]; exact h
      · exact hn i h1 (by omega)
    · rw [row_some (by omega) (by omega) h fun i h3 h4 => hn i h3 h4] at H
      exact H
theorem ov_map_none {o : Option Nat} {f : Nat → Nat} (h : o = none) : ov (o.map f) = -1 := by rw [h]; rfl
theorem c_chL (c : CI μ w) {p t : Nat} (hp : p < pe w) (ht : t < th w) (H : Φ (.inl (some (.int (nI (chN w p t))))) μ) : Spec g i_Log_chainLength 0 [.ref 22, .int (nI (lg w)), .int (nI p), .int (nI t)] μ Φ := by
  have l60 := wf_l60 c.2.1
  have p10 := ci_p10 c
  have t10 := ci_t10 c
  have key := zup (P := fun k => (∀ j, j < k → (chS w p t j).2.isSome = true) → WW g i_Log_chainLength 0 Φ 0 0 12 [(0, .ref 22), (4, .int (nI k)), (5, .int (ov ((chS w p t k).2.map (fun r => lg w - 1 - r))))] [] μ) 61 ?_ ?_
  · refine spi o_Log_chainLength rfl (v_Log_chainLength_0 ?_)
    have := c_rwb (g := g) (Φ := onI (fun r2 μ1 => WW g i_Log_chainLength 0 Φ 0 0 12 [(0, .ref 22), (4, .int 0), (5, .int r2)] [] μ1) (fun e μ1 => rtM i_Log_chainLength Φ (.inr e) 0 0 μ1)) c (p := p) (t := t) (f := 0) (by omega) (by omega) (by omega) (oI (key fun j h => absurd h (Nat.not_lt_zero _)))
    exact this
  · intro hs
    exfalso
    have h60 := hs 60 (by omega)
    obtain ⟨r, hr⟩ := Option.isSome_iff_exists.mp h60
    have := chS_ge (fun j hj => hs j (by omega)) hr
    omega
  · intro k hk ih hs
    cases hc : (chS w p t k).2 with
    | none =>
      have hN : chN w p t = k := lo_eq hk (by show (chS w p t k).2.isNone = true; rw [hc]; rfl) fun j hj => by
        show (chS w p t j).2.isNone = false
        have := hs j hj
        cases hcj : (chS w p t j).2 with
        | none => rw [hcj] at this; cases this
        | some r => rfl
      rw [hN] at H
      exact v_Log_chainLength_12 ⟨fun _ => H, fun h => absurd (show (-1 : Int32) < 0 by decide) h⟩
    | some r =>
      obtain ⟨hk2, hr⟩ := chS_ge hs hc
      have hb := wf_by c.2.1 hr
      have hy := wf_sy c.2.1 hr
      obtain ⟨-, e1, e2, -, -, -⟩ := ci_lg c hr
      have hd : chS w p t (k + 1) = (byR w r, row w (byR w r) (syR w r / 6) (r + 1)) := by
        show (match (chS w p t k).2 with | none => _ | some r => _) = _
        rw [hc]
      have v := vp_in_nI (N := 60) (show lg w - 1 - r < 60 by omega) (by decide)
      refine v_Log_chainLength_12 ⟨fun h => absurd h (nI_nlt (a := lg w - 1 - r) (b := 0) (by omega) (by omega)), fun _ => ⟨fun h => absurd h (nI_ge (b := 60) (a := k) (by omega) (by decide)), fun _ => ⟨v, v, by decide, ?_⟩⟩⟩
      have er : nx (ov ((some r).map fun r => lg w - 1 - r)) = lg w - 1 - r := nx_nI (show lg w - 1 - r < 2 ^ 31 by omega)
      rw [er, e1, e2, hb.1, hy.1, show (6 : Int32) = nI 6 from rfl, pk_div (by omega) (by decide) (by decide)]
      show Spec g i_Log_rowBefore 0 [.ref 22, .int (nI (lg w - 1 - r)), .int (nI (byR w r)), .int (nI (syR w r / 6))] μ _
      rw [show lg w - 1 - r = lg w - (r + 1) by omega]
      refine c_rwb c (by omega) (by omega) (by omega) (oI ?_)
      have := ih fun j hj => by
        by_cases q : j = k
        · rw [q, hc]; rfl
        · exact hs j (by omega)
      rw [hd, nI_succ] at this
      exact this
theorem c_chB (c : CI μ w) {p t : Nat} (hp : p < pe w) (ht : t < th w) (H : Φ (.inl (some (.int (nI (chS w p t (chN w p t)).1)))) μ) : Spec g i_Log_chainBegin 0 [.ref 22, .int (nI (lg w)), .int (nI p), .int (nI t)] μ Φ := by
  have l60 := wf_l60 c.2.1
  have p10 := ci_p10 c
  have t10 := ci_t10 c
  have key := zup (P := fun k => (∀ j, j < k → (chS w p t j).2.isSome = true) → WW g i_Log_chainBegin 0 Φ 0 0 15 [(0, .ref 22), (4, .int (nI (chS w p t k).1)), (5, .int (ov ((chS w p t k).2.map (fun r => lg w - 1 - r)))), (6, .int (nI k))] [] μ) 61 ?_ ?_
  · refine spi o_Log_chainBegin rfl (v_Log_chainBegin_0 ?_)
    have := c_rwb (g := g) (Φ := onI (fun r2 μ1 => WW g i_Log_chainBegin 0 Φ 0 0 15 [(0, .ref 22), (4, .int (nI p)), (5, .int r2), (6, .int 0)] [] μ1) (fun e μ1 => rtM i_Log_chainBegin Φ (.inr e) 0 0 μ1)) c (p := p) (t := t) (f := 0) (by omega) (by omega) (by omega) (oI (key fun j h => absurd h (Nat.not_lt_zero _)))
    exact this
  · intro hs
    exfalso
    have h60 := hs 60 (by omega)
    obtain ⟨r, hr⟩ := Option.isSome_iff_exists.mp h60
    have := chS_ge (fun j hj => hs j (by omega)) hr
    omega
  · intro k hk ih hs
    cases hc : (chS w p t k).2 with
    | none =>
      have hN : chN w p t = k := lo_eq hk (by show (chS w p t k).2.isNone = true; rw [hc]; rfl) fun j hj => by
        show (chS w p t j).2.isNone = false
        have := hs j hj
        cases hcj : (chS w p t j).2 with
        | none => rw [hcj] at this; cases this
        | some r => rfl
      rw [hN] at H
      exact v_Log_chainBegin_15 ⟨fun _ => H, fun _ => ⟨fun _ => H, fun h => absurd (show (-1 : Int32) < 0 by decide) h⟩⟩
    | some r =>
      obtain ⟨hk2, hr⟩ := chS_ge hs hc
      have hb := wf_by c.2.1 hr
      have hy := wf_sy c.2.1 hr
      obtain ⟨-, e1, e2, -, -, -⟩ := ci_lg c hr
      have hd : chS w p t (k + 1) = (byR w r, row w (byR w r) (syR w r / 6) (r + 1)) := by
        show (match (chS w p t k).2 with | none => _ | some r => _) = _
        rw [hc]
      have v := vp_in_nI (N := 60) (show lg w - 1 - r < 60 by omega) (by decide)
      refine v_Log_chainBegin_15 ⟨fun h => absurd h (nI_ge (b := 60) (a := k) (by omega) (by decide)), fun _ => ⟨fun h => absurd h (nI_nlt (a := lg w - 1 - r) (b := 0) (by omega) (by omega)), fun _ => ⟨v, v, by decide, ?_⟩⟩⟩
      have er : nx (ov ((some r).map fun r => lg w - 1 - r)) = lg w - 1 - r := nx_nI (show lg w - 1 - r < 2 ^ 31 by omega)
      rw [er, e1, e2, hb.1, hy.1, show (6 : Int32) = nI 6 from rfl, pk_div (by omega) (by decide) (by decide)]
      show Spec g i_Log_rowBefore 0 [.ref 22, .int (nI (lg w - 1 - r)), .int (nI (byR w r)), .int (nI (syR w r / 6))] μ _
      rw [show lg w - 1 - r = lg w - (r + 1) by omega]
      refine c_rwb c (by omega) (by omega) (by omega) (oI ?_)
      have := ih fun j hj => by
        by_cases q : j = k
        · rw [q, hc]; rfl
        · exact hs j (by omega)
      rw [hd, nI_succ] at this
      exact this
theorem c_tby (c : CI μ w) {p : Nat} (hp : p < 10) (H : Φ (.inl (some (.int (nI (tau w p))))) μ) : Spec g i_Log_taughtBy 0 [.ref 22, .int (nI p), .int (nI (lg w))] μ Φ := by
  have l60 := wf_l60 c.2.1
  have hre := sm_rev (lg w) (f := fun r => if lw w r 1 = nI p then ct (bt (lw w r 3)) 10 else 0)
  unfold tau at H
  rw [← hre] at H
  refine spi o_Log_taughtBy rfl (v_Log_taughtBy_0 ?_)
  refine zup (P := fun k => WW g i_Log_taughtBy 0 Φ 0 0 5 [(0, .ref 22), (1, .int (nI p)), (2, .int (nI (lg w))), (3, .int (nI (sm (fun k => if lw w (lg w - 1 - k) 1 = nI p then ct (bt (lw w (lg w - 1 - k) 3)) 10 else 0) k))), (4, .int (nI k))] [] μ) (lg w) ?_ ?_
  · exact v_Log_taughtBy_5 ⟨fun _ => H, fun h => absurd (nI_le (Nat.le_refl _) (by omega)) h⟩
  · intro k hk ih
    have hd : sm (fun k => if lw w (lg w - 1 - k) 1 = nI p then ct (bt (lw w (lg w - 1 - k) 3)) 10 else 0) (k + 1) = sm (fun k => if lw w (lg w - 1 - k) 1 = nI p then ct (bt (lw w (lg w - 1 - k) 3)) 10 else 0) k + if lw w (lg w - 1 - k) 1 = nI p then ct (bt (lw w (lg w - 1 - k) 3)) 10 else 0 := rfl
    rw [hd, nI_succ] at ih
    obtain ⟨-, e1, -, e3, -, -⟩ := ci_lg c (r := lg w - 1 - k) (by omega)
    rw [show lg w - 1 - (lg w - 1 - k) = k by omega] at e1 e3
    have v := vp_in_nI (N := 60) (show k < 60 by omega) (by decide)
    refine v_Log_taughtBy_5 ⟨fun h => absurd h (nI_ge hk (by omega)), fun _ => ⟨v, ?_⟩⟩
    rw [nx_nI (by omega), e1, e3]
    refine ⟨fun h => ?_, fun h => ⟨v, c_bc (oI ?_)⟩⟩
    · rw [if_neg h] at ih
      rw [i_a0]; exact ih
    · rw [if_pos h, ← nI_add] at ih
      rw [bc_small (lrn_hi c.2.1 (by omega))]; exact ih
end CN
