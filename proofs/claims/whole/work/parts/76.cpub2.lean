/-! the class's face: margin, thing, person, rule, log -/
section CPUB2
variable {g : Gl} {Φ : Out → Mem → Prop} {μ : Mem} {w : WD}
theorem i_mar (a b d e m : Int32) (h : e = d + m) : a - b + m = a + e - b - d := by subst h; grind
theorem lin_le (h : WFs w) {x : Int32} : sm (fun t => if bt x t then lf w t else 0) (th w) ≤ 60 := by
  have t10 := (wf_th h).2
  have := sm_le (f := fun t => if bt x t then lf w t else 0) (c := 6) (n := th w) fun i _ => by
    show (if _ then _ else _) ≤ 6
    split
    · exact lf_le w i
    · omega
  omega
theorem c_lead (c : CI μ w) {p q : Nat} (hp : p < 10) (hq : q < 10) (H : Φ (.inl (some (.int (mrg w p q)))) μ) : Spec g i_SO_lead 0 [.ref 0, .int (nI p), .int (nI q)] μ Φ := by
  refine spi o_SO_lead rfl (v_SO_lead_0 ⟨vp_in_nI hp (by decide), vp_in_nI hq (by decide), ?_⟩)
  rw [nx_nI (by omega), nx_nI (by omega), ci_kn c hp, ci_kn c hq]
  refine c_cLO c (oI (c_cLO c (oI (c_cLO c (oI ⟨by decide, ?_⟩)))))
  unfold mrg at H
  have hS := lin_le c.2.1 (x := pf w p 4 &&& pf w q 4)
  generalize sm (fun t => if bt (pf w p 4 &&& pf w q 4) t then lf w t else 0) (th w) = S at *
  have e1 : (nI S + 1) / 2 = nI ((S + 1) / 2) := by rw [← nI_succ, show (2 : Int32) = nI 2 from rfl, pk_div (by omega) (by decide) (by decide)]
  have e2 : nI S / 2 = nI (S / 2) := by rw [show (2 : Int32) = nI 2 from rfl, pk_div (by omega) (by decide) (by decide)]
  have e3 : nI S - nI S / 2 * 2 = nI (S % 2) := by rw [show (2 : Int32) = nI 2 from rfl, pk_rem (by omega) (by decide) (by decide)]
  rw [e1, e2] at H
  rw [e3, i_mar _ _ (nI (S / 2)) (nI ((S + 1) / 2)) _ (by rw [nI_add]; congr 1; omega)]
  exact H
theorem C_margin (c : CI μ w) {a b : Int32} (H : RC Φ μ w 2 0 (q_margin w a b)) : Spec g i_SO_margin 0 [.ref 0, .int a, .int b] μ Φ := by
  have p10 := ci_p10 c
  unfold q_margin at H
  refine spi o_SO_margin rfl (v_SO_margin_0 ?_)
  rcases ix_cs (n := pe w) (by omega) a with ⟨ep, hp⟩ | ⟨p, hp, rfl, ep⟩
  · rw [gdx_n ep] at H; exact c_n2a c hp (oVx (RC_1 H c))
  rw [gdx_s ep] at H
  rcases ix_cs (n := pe w) (by omega) b with ⟨eq, hq⟩ | ⟨q, hq, rfl, eq⟩
  · rw [gdx_n eq] at H; exact c_n2b c hp hq (oVx (RC_1 H c))
  rw [gdx_s eq] at H
  by_cases hne : p = q
  · rw [if_pos hne] at H; subst hne; exact c_n2e c hp (oVx (RC_2 H c))
  rw [if_neg hne] at H
  exact c_n20 c hp hq hne (oV (c_lead c (by omega) (by omega) (oI (RC_ok H rfl c))))
theorem C_keeps (c : CI μ w) {a b : Int32} (H : RC Φ μ w 2 0 (q_keeps w a b)) : Spec g i_SO_keeps 0 [.ref 0, .int a, .int b] μ Φ := by
  have p10 := ci_p10 c
  unfold q_keeps at H
  refine spi o_SO_keeps rfl (v_SO_keeps_0 ?_)
  rcases ix_cs (n := pe w) (by omega) a with ⟨ep, hp⟩ | ⟨p, hp, rfl, ep⟩
  · rw [gdx_n ep] at H; exact c_n2a c hp (oVx (RC_1 H c))
  rw [gdx_s ep] at H
  rcases ix_cs (n := pe w) (by omega) b with ⟨eq, hq⟩ | ⟨q, hq, rfl, eq⟩
  · rw [gdx_n eq] at H; exact c_n2b c hp hq (oVx (RC_1 H c))
  rw [gdx_s eq] at H
  by_cases hne : p = q
  · rw [if_pos hne] at H; subst hne; exact c_n2e c hp (oVx (RC_2 H c))
  rw [if_neg hne] at H
  refine c_n20 c hp hq hne (oV (c_lead c (by omega) (by omega) (oI ⟨fun h => ?_, fun h => ?_⟩)))
  · rw [if_pos h] at H; exact ⟨Or.inl rfl, RC_ok H rfl c⟩
  · rw [if_neg h] at H; exact ⟨Or.inr rfl, RC_ok H rfl c⟩
theorem ne_bad {n j : Nat} {b : Int32} (hn : n < 2 ^ 31) (h : b < 0 ∨ nI n ≤ b) (hj : j < n) : ¬ b = nI j := fun e => by
  rw [e] at h
  rcases h with h | h
  · exact nI_pos (by omega) h
  · exact nI_ge hj hn h
theorem C_thing (c : CI μ w) {a b : Int32} (H : RC Φ μ w 2 3 (q_thing w a b)) : Spec g i_SO_thing 0 [.ref 0, .int a, .int b] μ Φ := by
  have t10 := ci_t10 c
  unfold q_thing at H
  refine spi o_SO_thing rfl (v_SO_thing_0 ?_)
  rcases ix_cs (n := th w) (by omega) a with ⟨et, ht⟩ | ⟨t, ht, rfl, et⟩
  · rw [gdx_n et] at H; exact c_nT1 c ht (oVx (RC_1 H c))
  rw [gdx_s et] at H
  refine c_nT0 c ht (oV ?_)
  rcases ix_cs (n := 3 + 1) (by omega) b with ⟨ej, hj⟩ | ⟨j, hj, rfl, ej⟩
  · rw [gdx_n ej] at H
    exact ⟨fun h => absurd h (ne_bad (j := 0) (by decide) hj (by decide)), fun _ => ⟨fun h => absurd h (ne_bad (j := 1) (by decide) hj (by decide)), fun _ => ⟨fun h => absurd h (ne_bad (j := 2) (by decide) hj (by decide)), fun _ => ⟨fun h => absurd h (ne_bad (j := 3) (by decide) hj (by decide)), fun _ => RC_2 H c⟩⟩⟩⟩
  rw [gdx_s ej] at H
  rcases (by omega : j = 0 ∨ j = 1 ∨ j = 2 ∨ j = 3) with rfl | rfl | rfl | rfl
  · refine ⟨fun _ => ⟨vp_in_nI (by omega) (by decide), ?_⟩, fun h => absurd rfl h⟩
    rw [nx_nI (by omega), ci_wo c (by omega)]; exact RC_ok H rfl c
  · exact ⟨fun h => absurd h (by decide), fun _ => ⟨fun _ => c_cL c (by omega) (oI (RC_ok H rfl c)), fun h => absurd rfl h⟩⟩
  · exact ⟨fun h => absurd h (by decide), fun _ => ⟨fun h => absurd h (by decide), fun _ => ⟨fun _ => c_knr c (by omega) (oI (RC_ok H rfl c)), fun h => absurd rfl h⟩⟩⟩
  · exact ⟨fun h => absurd h (by decide), fun _ => ⟨fun h => absurd h (by decide), fun _ => ⟨fun h => absurd h (by decide), fun _ => ⟨fun _ => c_src c (by omega) (oI (RC_ok H rfl c)), fun h => absurd rfl h⟩⟩⟩⟩
theorem C_log (c : CI μ w) {a b : Int32} (H : RC Φ μ w 3 0 (q_log w a b)) : Spec g i_SO_log 0 [.ref 0, .int a, .int b] μ Φ := by
  have l60 := wf_l60 c.2.1
  unfold q_log at H
  refine spi o_SO_log rfl (v_SO_log_0 ?_)
  rcases ix_cs (n := 4 + 1) (by omega) b with ⟨ej, hj⟩ | ⟨j, hj, rfl, ej⟩
  · rw [gdx_n ej] at H
    refine ⟨fun _ => RC_1 H c, fun h => ⟨fun h2 => ?_, fun _ => RC_1 H c⟩⟩
    rcases hj with h3 | h3
    · exact absurd h3 h
    · exact absurd (Int32.le_trans h3 h2) (by decide)
  rw [gdx_s ej] at H
  refine ⟨fun h => absurd h (nI_pos (by omega)), fun _ => ⟨fun _ => c_ago c (oI ?_), fun h => absurd (nI_le (b := 4) (by omega) (by decide)) h⟩⟩
  rcases ix_cs (n := lg w) (by omega) a with ⟨e, -⟩ | ⟨k, hk, rfl, e⟩
  · rw [e] at H ⊢; exact ⟨fun h => absurd rfl h, fun _ => RC_ok H rfl c⟩
  · rw [e] at H ⊢
    obtain ⟨e0, e1, e2, e3, e4, -⟩ := ci_lg c hk
    have v : vp_in (ov ((some k).map fun k => lg w - 1 - k)) 60 := vp_in_nI (show lg w - 1 - k < 60 by omega) (by decide)
    have er : nx (ov ((some k).map fun r => lg w - 1 - r)) = lg w - 1 - k := nx_nI (show lg w - 1 - k < 2 ^ 31 by omega)
    refine ⟨fun _ => ?_, fun h => absurd (show nI (lg w - 1 - k) = -1 from h) (fun e => nI_pos (n := lg w - 1 - k) (by omega) (by rw [e]; decide))⟩
    rw [er, e0, e1, e2, e3, e4]
    rcases (by omega : j = 0 ∨ j = 1 ∨ j = 2 ∨ j = 3 ∨ j = 4) with rfl | rfl | rfl | rfl | rfl
    · exact ⟨fun _ => ⟨v, RC_ok H rfl c⟩, fun h => absurd rfl h⟩
    · exact ⟨fun h => absurd h (by decide), fun _ => ⟨fun _ => ⟨v, RC_ok H rfl c⟩, fun h => absurd rfl h⟩⟩
    · exact ⟨fun h => absurd h (by decide), fun _ => ⟨fun h => absurd h (by decide), fun _ => ⟨fun _ => ⟨v, RC_ok H rfl c⟩, fun h => absurd rfl h⟩⟩⟩
    · exact ⟨fun h => absurd h (by decide), fun _ => ⟨fun h => absurd h (by decide), fun _ => ⟨fun h => absurd h (by decide), fun _ => ⟨fun _ => ⟨v, RC_ok H rfl c⟩, fun h => absurd rfl h⟩⟩⟩⟩
    · refine ⟨fun h => absurd h (by decide), fun _ => ⟨fun h => absurd h (by decide), fun _ => ⟨fun h => absurd h (by decide), fun _ => ⟨fun h => absurd h (by decide), fun _ => ⟨v, fun h => ?_, fun h => ?_⟩⟩⟩⟩⟩
      · have : Φ (.inl (some (.int (lw w k 4)))) μ := RC_ok H rfl c
        rw [h] at this; exact this
      · have : Φ (.inl (some (.int (lw w k 4)))) μ := RC_ok H rfl c
        rcases (wf_rw c.2.1 hk).2.2.2.1 with h2 | h2
        · exact absurd h2 h
        · rw [h2] at this; exact this
end CPUB2
