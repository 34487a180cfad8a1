/-! the class's face: between, echo -/
section CPUB5
variable {g : Gl} {Φ : Out → Mem → Prop} {μ : Mem} {w : WD}
theorem C_between (c : CI μ w) {a b : Int32} (H : RC Φ μ w 2 0 (q_between w a b)) : Spec g i_SO_between 0 [.ref 0, .int a, .int b] μ Φ := by
  have p10 := ci_p10 c
  have t10 := ci_t10 c
  unfold q_between at H
  refine spi o_SO_between rfl (v_SO_between_0 ?_)
  rcases ix_cs (n := pe w) (by omega) a with ⟨ep, hp⟩ | ⟨p, hp, rfl, ep⟩
  · rw [gdx_n ep] at H; exact c_n2a c hp (oVx (RC_1 H c))
  rw [gdx_s ep] at H
  rcases ix_cs (n := pe w) (by omega) b with ⟨eq, hq⟩ | ⟨r, hr, rfl, eq⟩
  · rw [gdx_n eq] at H; exact c_n2b c hp hq (oVx (RC_1 H c))
  rw [gdx_s eq] at H
  by_cases hne : p = r
  · rw [if_pos hne] at H; subst hne; exact c_n2e c hp (oVx (RC_2 H c))
  rw [if_neg hne] at H
  refine c_n20 c hp hr hne (oV ?_)
  refine zup (P := fun t => ∀ μ', Lz zT μ' = Lz zT μ → WW g i_SO_between 0 Φ 3 18 11 [(0, .ref 0), (1, .int (nI p)), (2, .int (nI r)), (3, .int (bwT w p r t)), (4, .int (nI t))] [] μ') (th w) ?_ ?_ μ rfl
  · intro μ' e
    have c' := c.lv (zT_scr e)
    exact v_SO_between_11 ⟨fun _ => RC_ok H (zT_Q e) c', fun h => absurd (by rw [c'.1.1.1.trans (wf_th c'.2.1).1]; exact nI_le (Nat.le_refl _) (by omega)) h⟩
  · intro t ht ih μ' e
    have w6 := (wf_wo c.2.1 (show t < 10 by omega)).2.1
    have hd : bwT w p r (t + 1) = bwQ w p r t (bwT w p r t) (wo w t) := rfl
    rw [hd] at ih
    generalize bwT w p r t = s at *
    refine v_SO_between_11 ⟨fun h => absurd h (by rw [(c.lv (zT_scr e)).1.1.1.trans (wf_th c.2.1).1]; exact nI_ge ht (by omega)), fun _ => ?_⟩
    refine zup (P := fun q => ∀ μ', Lz zT μ' = Lz zT μ → WW g i_SO_between 0 Φ 3 18 29 [(0, .ref 0), (1, .int (nI p)), (2, .int (nI r)), (3, .int (bwQ w p r t s q)), (4, .int (nI t)), (5, .int (nI q))] [] μ') (wo w t) ?_ ?_ μ' e
    · intro μ' e
      have c' := c.lv (zT_scr e)
      refine v_SO_between_29 ⟨vp_in_nI (by omega) (by decide), fun _ => ?_, fun h => absurd (by rw [nx_nI (by omega), ci_wo c' (by omega)]; exact nI_le (Nat.le_refl _) (by omega)) h⟩
      rw [← nI_succ]; exact ih μ' e
    · intro q hq ihq μ2 e2
      have c2 := c.lv (zT_scr e2)
      have hdq : bwQ w p r t s (q + 1) = bwQ w p r t s q ||| bwV w p r t q := rfl
      rw [hdq, nI_succ] at ihq
      have hl : lef w t q = !sai w t q := by unfold lef; simp [hq]
      have no : (her w p && (kno w p t && !sai w t q)) = false → WW g i_SO_between 0 Φ 3 18 29 [(0, .ref 0), (1, .int (nI p)), (2, .int (nI r)), (3, .int (bwQ w p r t s q)), (4, .int (nI t)), (5, .int (nI q + 1))] [] μ2 := fun h => by
        have := ihq μ2 e2
        unfold bwV at this
        rw [h, if_neg (by decide), or0] at this; exact this
      refine v_SO_between_29 ⟨vp_in_nI (by omega) (by decide), fun h => absurd h (by rw [nx_nI (by omega), ci_wo c2 (by omega)]; exact nI_ge hq (by omega)), fun _ => c_can c2 (by omega) (by omega) (oI ⟨fun h => no ?_, fun h => c_isL c2 (by omega) (by omega) (oI ⟨fun h2 => no ?_, fun h2 => c_tNow c2 (by omega) ht (by omega) fun μ3 e3 => oI ?_⟩)⟩)⟩
      · rw [← Bool.and_assoc, b2i_0.mp h]; rfl
      · rw [hl] at h2; rw [b2i_0.mp h2]; simp
      · have hc : (her w p && (kno w p t && !sai w t q)) = true := by
          rw [← Bool.and_assoc, b2i_n0.mp h, ← hl, b2i_n0.mp h2]; rfl
        have := ihq μ3 (e3.trans e2)
        unfold bwV at this
        rw [if_pos hc] at this
        cases hz : tk0 w p t q r with
        | none => rw [hz] at this; exact ⟨fun h => absurd rfl h, fun _ => this⟩
        | some k =>
          have hk : k < th w := by
            unfold tk0 at hz
            split at hz
            · cases hz
            · exact tk_lt (by omega) hz
          rw [hz] at this
          exact ⟨fun _ => this, fun h => absurd (show nI k = -1 from h) (fun e => nI_pos (n := k) (by omega) (by rw [e]; decide))⟩
theorem C_echo (c : CI μ w) {a b x d : Int32} (H : RC Φ μ w 2 0 (q_echo w a b x d)) : Spec g i_SO_echo 0 [.ref 0, .int a, .int b, .int x, .int d] μ Φ := by
  have p10 := ci_p10 c
  have t10 := ci_t10 c
  unfold q_echo at H
  refine spi o_SO_echo rfl (v_SO_echo_0 ?_)
  rcases ix_cs (n := pe w) (by omega) a with ⟨ep, hp⟩ | ⟨p, hp, rfl, ep⟩
  · rw [gdx_n ep] at H; exact c_nP1 c hp (oVx (RC_1 H c))
  rw [gdx_s ep] at H
  refine c_nP0 c hp (oV ?_)
  rcases ix_cs (n := th w) (by omega) b with ⟨et, ht⟩ | ⟨t, ht, rfl, et⟩
  · rw [gdx_n et] at H; exact c_nS2 c ht (oVx (RC_1 H c))
  rw [gdx_s et] at H
  have w6 := (wf_wo c.2.1 (show t < 10 by omega)).2.1
  rcases ix_cs (n := wo w t) (by omega) x with ⟨eq, hq⟩ | ⟨q, hq, rfl, eq⟩
  · rw [gdx_n eq] at H; exact c_nS1 c ht hq (oVx (RC_1 H c))
  rw [gdx_s eq] at H
  refine c_nS0 c ht hq (oV ?_)
  refine zup (P := fun k => ∀ μ', Lz zT μ' = Lz zT μ → WW g i_SO_echo 0 Φ 3 18 23 [(0, .ref 0), (1, .int (nI p)), (2, .int (nI t)), (3, .int (nI q)), (4, .int d), (5, .int (nI (ecS w p t q k).1)), (6, .int (ov (ecS w p t q k).2.1)), (7, .int (nI (ecS w p t q k).2.2)), (8, .int (nI k))] [] μ') (th w) ?_ ?_ μ rfl
  · intro μ' e
    have c' := c.lv (zT_scr e)
    refine v_SO_echo_23 ⟨fun _ => ⟨fun h => ?_, fun h => ?_⟩, fun h => absurd (by rw [c'.1.1.1.trans (wf_th c'.2.1).1]; exact nI_le (Nat.le_refl _) (by omega)) h⟩
    · rw [if_pos h] at H; exact RC_ok H (zT_Q e) c'
    · rw [if_neg h] at H; exact RC_ok H (zT_Q e) c'
  · intro k hk ih μ' e
    have c' := c.lv (zT_scr e)
    have hd : ecS w p t q (k + 1) = ((ecS w p t q k).1 + (if 0 < ecn w p t q k then 1 else 0), if (ecS w p t q k).2.2 < ecn w p t q k then (some k, ecn w p t q k) else (ecS w p t q k).2) := rfl
    have hl := ecS_le c.2.1 (who := p) (t := t) (q := q) k
    have hc : ecn w p t q k ≤ pe w := ct_le _ _
    rw [hd, nI_succ] at ih
    generalize ecS w p t q k = s at *
    refine v_SO_echo_23 ⟨fun h => absurd h (by rw [c'.1.1.1.trans (wf_th c'.2.1).1]; exact nI_ge hk (by omega)), fun _ => c_tkr (o := some k) c' (by omega) ht (fun n hn => by cases hn; omega) fun μ2 e2 => oI (c_bc (oI ?_))⟩
    rw [bc_msk p10]
    have ih := ih μ2 (e2.trans e)
    show (nI (ecn w p t q k) ≤ 0 → (nI (ecn w p t q k) ≤ nI s.2.2 → _) ∧ (¬ nI (ecn w p t q k) ≤ nI s.2.2 → _)) ∧ (¬ nI (ecn w p t q k) ≤ 0 → (nI (ecn w p t q k) ≤ nI s.2.2 → _) ∧ (¬ nI (ecn w p t q k) ≤ nI s.2.2 → _))
    have e1 : (nI (ecn w p t q k) ≤ 0) ↔ ¬ 0 < ecn w p t q k := by
      rw [show (0 : Int32) = nI 0 from rfl, nI_leI (by omega) (by omega)]; omega
    rw [e1, nI_leI (by omega) (by omega)]
    refine ⟨fun h => ⟨fun h2 => ?_, fun h2 => by omega⟩, fun h => ⟨fun h2 => ?_, fun h2 => ?_⟩⟩
    · rw [if_neg h, if_neg (by omega)] at ih; rw [i_a0]; exact ih
    · rw [if_pos (by omega), if_neg (by omega), nI_succ] at ih; exact ih
    · rw [if_pos (by omega), if_pos (by omega), nI_succ] at ih; exact ih
end CPUB5
