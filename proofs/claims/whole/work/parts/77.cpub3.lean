/-! the class's face: person, rule, sayable -/
section CPUB3
variable {g : Gl} {Φ : Out → Mem → Prop} {μ : Mem} {w : WD}
theorem C_rule (c : CI μ w) {a b : Int32} (H : RC Φ μ w 3 0 (q_rule w a b)) : Spec g i_SO_rule 0 [.ref 0, .int a, .int b] μ Φ := by
  have r12 := (wf_ru c.2.1).2
  unfold q_rule at H
  refine spi o_SO_rule rfl (v_SO_rule_0 ?_)
  rw [ci_ru c]
  rcases ix_cs (n := 2 + 1) (by omega) b with ⟨ej, hj⟩ | ⟨j, hj, rfl, ej⟩
  · rw [gdx_n ej] at H
    refine ⟨fun _ => RC_1 H c, fun h => ⟨fun h2 => ?_, fun _ => RC_1 H c⟩⟩
    rcases hj with h3 | h3
    · exact absurd h3 h
    · exact absurd (Int32.le_trans h3 h2) (by decide)
  rw [gdx_s ej] at H
  refine ⟨fun h => absurd h (nI_pos (by omega)), fun _ => ⟨fun _ => ?_, fun h => absurd (nI_le (b := 2) (by omega) (by decide)) h⟩⟩
  rcases ix_cs (n := ru w) (by omega) a with ⟨e, ha⟩ | ⟨k, hk, rfl, e⟩
  · rw [e] at H
    exact ⟨fun _ => RC_ok H rfl c, fun h => ⟨fun h2 => absurd h2 (bad_ix ha h), fun _ => RC_ok H rfl c⟩⟩
  · rw [e] at H
    obtain ⟨e0, e1, e2⟩ := ci_rul c (show k < 12 by omega)
    have v := vp_in_nI (N := 12) (show k < 12 by omega) (by decide)
    refine ⟨fun h => absurd h (nI_pos (by omega)), fun _ => ⟨fun _ => ?_, fun h => absurd (nI_lt hk (by omega)) h⟩⟩
    rw [nx_nI (by omega), e0, e1, e2]
    rcases (by omega : j = 0 ∨ j = 1 ∨ j = 2) with rfl | rfl | rfl
    · exact ⟨fun h => absurd rfl h, fun _ => ⟨v, RC_ok H rfl c⟩⟩
    · exact ⟨fun _ => ⟨fun h => absurd rfl h, fun _ => ⟨v, RC_ok H rfl c⟩⟩, fun h => absurd h (by decide)⟩
    · exact ⟨fun _ => ⟨fun _ => ⟨v, RC_ok H rfl c⟩, fun h => absurd h (by decide)⟩, fun h => absurd h (by decide)⟩
theorem C_sayable (c : CI μ w) (H : RC Φ μ w 0 0 (0, orf (fun p => if her w p then pf w p 4 else 0) (pe w) &&& (msk (th w) (fun t => decide (lf w t = 0)) ^^^ (-1)))) : Spec g i_SO_sayable 0 [.ref 0] μ Φ := by
  have p10 := ci_p10 c
  have t10 := ci_t10 c
  refine spi o_SO_sayable rfl (v_SO_sayable_0 (c_pre c (oI (c_kby c (oI (c_lTh c (oI ?_)))))))
  have e : orf (fun p => if bt (msk (pe w) (her w)) p then pf w p 4 else 0) (pe w) = orf (fun p => if her w p then pf w p 4 else 0) (pe w) := orf_cong fun i hi => by
    rw [b_msk (by omega) (by omega)]; simp [hi]
  rw [e]
  have e2 : orf (fun p => if her w p then pf w p 4 else 0) (pe w) &&& msk (th w) (fun t => decide (¬ lf w t = 0)) = orf (fun p => if her w p then pf w p 4 else 0) (pe w) &&& (msk (th w) (fun t => decide (lf w t = 0)) ^^^ (-1)) := by
    apply b_ext; intro i hi
    rw [b_and, b_and, b_not hi, b_msk (by omega) hi, b_msk (by omega) hi]
    by_cases q : i < th w
    · simp [q]
    · have : bt (orf (fun p => if her w p then pf w p 4 else 0) (pe w)) i = false := by
        cases hx : bt (orf (fun p => if her w p then pf w p 4 else 0) (pe w)) i with
        | false => rfl
        | true =>
          obtain ⟨k, h1, h2⟩ := b_orf.mp hx
          have hk := (c.2.1.2.2.2.2.2.2.2.1 k (by omega)).2.2.2.2.1 i (by omega) hi
          split at h2
          · rw [hk] at h2; cases h2
          · rw [b_0] at h2; cases h2
      rw [this]; rfl
  rw [e2]
  exact RC_ok H rfl c
theorem C_person (c : CI μ w) {a b : Int32} (H : RC Φ μ w 2 3 (q_person w a b)) : Spec g i_SO_person 0 [.ref 0, .int a, .int b] μ Φ := by
  have p10 := ci_p10 c
  unfold q_person at H
  refine spi o_SO_person rfl (v_SO_person_0 ?_)
  rcases ix_cs (n := pe w) (by omega) a with ⟨ep, hp⟩ | ⟨p, hp, rfl, ep⟩
  · rw [gdx_n ep] at H; exact c_nP1 c hp (oVx (RC_1 H c))
  rw [gdx_s ep] at H
  refine c_nP0 c hp (oV ?_)
  have v := vp_in_nI (N := 10) (show p < 10 by omega) (by decide)
  rw [nx_nI (by omega), ci_x c (by omega), ci_y c (by omega), ci_ear c (by omega), ci_stm c (by omega), ci_kn c (by omega)]
  rcases ix_cs (n := 7 + 1) (by omega) b with ⟨ej, hj⟩ | ⟨j, hj, rfl, ej⟩
  · rw [gdx_n ej] at H
    have nb := fun j hj2 => ne_bad (n := 8) (j := j) (by decide) hj hj2
    exact ⟨fun h => absurd h (nb 0 (by decide)), fun _ => ⟨fun h => absurd h (nb 1 (by decide)), fun _ => ⟨fun h => absurd h (nb 2 (by decide)), fun _ => ⟨fun h => absurd h (nb 3 (by decide)), fun _ => ⟨fun h => absurd h (nb 4 (by decide)), fun _ => ⟨fun h => absurd h (nb 5 (by decide)), fun _ => ⟨fun h => absurd h (nb 6 (by decide)), fun _ => ⟨fun h => absurd h (nb 7 (by decide)), fun _ => RC_2 H c⟩⟩⟩⟩⟩⟩⟩⟩
  rw [gdx_s ej] at H
  rcases (by omega : j = 0 ∨ j = 1 ∨ j = 2 ∨ j = 3 ∨ j = 4 ∨ j = 5 ∨ j = 6 ∨ j = 7) with rfl | rfl | rfl | rfl | rfl | rfl | rfl | rfl
  · exact ⟨fun _ => ⟨v, RC_ok H rfl c⟩, fun h => absurd rfl h⟩
  · exact ⟨fun h => absurd h (by decide), fun _ => ⟨fun _ => ⟨v, RC_ok H rfl c⟩, fun h => absurd rfl h⟩⟩
  · exact ⟨fun h => absurd h (by decide), fun _ => ⟨fun h => absurd h (by decide), fun _ => ⟨fun _ => ⟨v, RC_ok H rfl c⟩, fun h => absurd rfl h⟩⟩⟩
  · exact ⟨fun h => absurd h (by decide), fun _ => ⟨fun h => absurd h (by decide), fun _ => ⟨fun h => absurd h (by decide), fun _ => ⟨fun _ => ⟨v, RC_ok H rfl c⟩, fun h => absurd rfl h⟩⟩⟩⟩
  · exact ⟨fun h => absurd h (by decide), fun _ => ⟨fun h => absurd h (by decide), fun _ => ⟨fun h => absurd h (by decide), fun _ => ⟨fun h => absurd h (by decide), fun _ => ⟨fun _ => ⟨v, RC_ok H rfl c⟩, fun h => absurd rfl h⟩⟩⟩⟩⟩
  · refine ⟨fun h => absurd h (by decide), fun _ => ⟨fun h => absurd h (by decide), fun _ => ⟨fun h => absurd h (by decide), fun _ => ⟨fun h => absurd h (by decide), fun _ => ⟨fun h => absurd h (by decide), fun _ => ⟨fun _ => c_abs c (by omega) (oI ⟨fun h => ?_, fun h => ?_⟩), fun h => absurd rfl h⟩⟩⟩⟩⟩⟩
    · have h3 : pf w p 5 = 0 := of_decide_eq_true (show her w p = true by simpa using b2i_0.mp h)
      have : Φ (.inl (some (.int (pf w p 5)))) μ := RC_ok H rfl c
      rw [h3] at this; exact this
    · have h3 : ¬ pf w p 5 = 0 := of_decide_eq_false (show her w p = false by simpa using b2i_n0.mp h)
      have : Φ (.inl (some (.int (pf w p 5)))) μ := RC_ok H rfl c
      rcases (c.2.1.2.2.2.2.2.2.2.1 p (by omega)).2.2.2.2.2.1 with h4 | h4
      · exact absurd h4 h3
      · rw [h4] at this; exact this
  · exact ⟨fun h => absurd h (by decide), fun _ => ⟨fun h => absurd h (by decide), fun _ => ⟨fun h => absurd h (by decide), fun _ => ⟨fun h => absurd h (by decide), fun _ => ⟨fun h => absurd h (by decide), fun _ => ⟨fun h => absurd h (by decide), fun _ => ⟨fun _ => ⟨v, c_fol c (oI (RC_ok H rfl c))⟩, fun h => absurd rfl h⟩⟩⟩⟩⟩⟩⟩
  · refine ⟨fun h => absurd h (by decide), fun _ => ⟨fun h => absurd h (by decide), fun _ => ⟨fun h => absurd h (by decide), fun _ => ⟨fun h => absurd h (by decide), fun _ => ⟨fun h => absurd h (by decide), fun _ => ⟨fun h => absurd h (by decide), fun _ => ⟨fun h => absurd h (by decide), fun _ => ⟨fun _ => ⟨v, c_pre c (oI (c_kby c (oI ?_)))⟩, fun h => absurd rfl h⟩⟩⟩⟩⟩⟩⟩⟩
    rw [show orf (fun o => if bt (msk (pe w) (her w) &&& (((1 : Int32) <<< (nI p &&& 31)) ^^^ (-1))) o then pf w o 4 else 0) (pe w) = orf (fun o => if (!decide (o = p) && her w o) then pf w o 4 else 0) (pe w) from orf_cong fun i hi => by
      rw [b_and, b_not (by omega), b_1s (by omega) (by omega), b_msk (by omega) (by omega), Bool.and_comm]; simp [hi]]
    exact RC_ok H rfl c
end CPUB3
