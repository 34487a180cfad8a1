section PUBC
variable {g : Gl} {Φ : Out → Mem → Prop} {μ : Mem} {w : WD}
theorem C_apart (c : CI μ w) {a b : Int32} (H : RC Φ μ w 2 0 (q_apart w a b)) : Spec g i_SO_apart 0 [.ref 0, .int a, .int b] μ Φ := by
  have p10 := ci_p10 c
  have t10 := ci_t10 c
  unfold q_apart at H
  refine spi o_SO_apart rfl (v_SO_apart_0 ?_)
  rcases ix_cs (n := pe w) (by omega) a with ⟨ep, hp⟩ | ⟨p, hp, rfl, ep⟩
  · rw [gdx_n ep] at H
    exact c_n2a c hp (oVx (RC_1 H c))
  rw [gdx_s ep] at H
  rcases ix_cs (n := pe w) (by omega) b with ⟨eq, hq⟩ | ⟨q, hq, rfl, eq⟩
  · rw [gdx_n eq] at H
    exact c_n2b c hp hq (oVx (RC_1 H c))
  rw [gdx_s eq] at H
  by_cases hne : p = q
  · rw [if_pos hne] at H
    subst hne
    exact c_n2e c hp (oVx (RC_2 H c))
  rw [if_neg hne] at H
  refine c_n20 c hp hq hne (oV ?_)
  exact c_dist c (by omega) (by omega) (oI (RC_ok H rfl c))
theorem C_alike (c : CI μ w) {a b : Int32} (H : RC Φ μ w 2 0 (q_alike w a b)) : Spec g i_SO_alike 0 [.ref 0, .int a, .int b] μ Φ := by
  have p10 := ci_p10 c
  have t10 := ci_t10 c
  unfold q_alike at H
  refine spi o_SO_alike rfl (v_SO_alike_0 ?_)
  rcases ix_cs (n := pe w) (by omega) a with ⟨ep, hp⟩ | ⟨p, hp, rfl, ep⟩
  · rw [gdx_n ep] at H
    exact c_n2a c hp (oVx (RC_1 H c))
  rw [gdx_s ep] at H
  rcases ix_cs (n := pe w) (by omega) b with ⟨eq, hq⟩ | ⟨q, hq, rfl, eq⟩
  · rw [gdx_n eq] at H
    exact c_n2b c hp hq (oVx (RC_1 H c))
  rw [gdx_s eq] at H
  by_cases hne : p = q
  · rw [if_pos hne] at H
    subst hne
    exact c_n2e c hp (oVx (RC_2 H c))
  rw [if_neg hne] at H
  refine c_n20 c hp hq hne (oV ?_)
  refine c_all c (oI ⟨vp_in_nI (by omega) (by decide), vp_in_nI (by omega) (by decide), ?_⟩)
  rw [nx_nI (by omega), nx_nI (by omega), ci_kn c (by omega), ci_kn c (by omega)]
  exact RC_ok H rfl c
theorem C_ask (c : CI μ w) {a b : Int32} (H : RC Φ μ w 2 0 (q_ask w a b)) : Spec g i_SO_ask 0 [.ref 0, .int a, .int b] μ Φ := by
  have p10 := ci_p10 c
  have t10 := ci_t10 c
  unfold q_ask at H
  refine spi o_SO_ask rfl (v_SO_ask_0 ?_)
  rcases ix_cs (n := pe w) (by omega) a with ⟨ep, hp⟩ | ⟨p, hp, rfl, ep⟩
  · rw [gdx_n ep] at H
    exact c_n2a c hp (oVx (RC_1 H c))
  rw [gdx_s ep] at H
  rcases ix_cs (n := pe w) (by omega) b with ⟨eq, hq⟩ | ⟨q, hq, rfl, eq⟩
  · rw [gdx_n eq] at H
    exact c_n2b c hp hq (oVx (RC_1 H c))
  rw [gdx_s eq] at H
  by_cases hne : p = q
  · rw [if_pos hne] at H
    subst hne
    exact c_n2e c hp (oVx (RC_2 H c))
  rw [if_neg hne] at H
  refine c_n20 c hp hq hne (oV ?_)
  refine ⟨vp_in_nI (by omega) (by decide), vp_in_nI (by omega) (by decide), ?_⟩
  rw [nx_nI (by omega), nx_nI (by omega), ci_kn c (by omega), ci_kn c (by omega)]
  refine ⟨fun h => c_tz (oI ?_), fun h => ?_⟩
  · rw [if_neg h] at H; exact RC_ok H rfl c
  · rw [if_pos h] at H; exact RC_ok H rfl c
theorem C_hears (c : CI μ w) {a b x d : Int32} (H : RC Φ μ w 2 0 (q_hears w a b x d)) : Spec g i_SO_hears 0 [.ref 0, .int a, .int b, .int x, .int d] μ Φ := by
  have p10 := ci_p10 c
  have t10 := ci_t10 c
  unfold q_hears at H
  refine spi o_SO_hears rfl (v_SO_hears_0 ?_)
  rcases ix_cs (n := pe w) (by omega) a with ⟨ep, hp⟩ | ⟨p, hp, rfl, ep⟩
  · rw [gdx_n ep] at H
    refine c_nSx c (oV ?_) (oVx (RC_1 H c))
    exact c_n2a c hp (oVx (RC_1 H c))
  rw [gdx_s ep] at H
  rcases ix_cs (n := th w) (by omega) b with ⟨et, ht⟩ | ⟨t, ht, rfl, et⟩
  · rw [gdx_n et] at H
    exact c_nS2 c ht (oVx (RC_1 H c))
  rw [gdx_s et] at H
  have w6 := (wf_wo c.2.1 (show t < 10 by omega)).2.1
  rcases ix_cs (n := wo w t) (by omega) x with ⟨eq, hq⟩ | ⟨q, hq, rfl, eq⟩
  · rw [gdx_n eq] at H
    exact c_nS1 c ht hq (oVx (RC_1 H c))
  rw [gdx_s eq] at H
  rcases ix_cs (n := pe w) (by omega) d with ⟨er, hr⟩ | ⟨r, hr, rfl, er⟩
  · rw [gdx_n er] at H
    refine c_nS0 c ht hq (oV ?_)
    exact c_n2b c hp hr (oVx (RC_1 H c))
  rw [gdx_s er] at H
  by_cases hne : p = r
  · rw [if_pos hne] at H
    subst hne
    refine c_nS0 c ht hq (oV ?_)
    exact c_n2e c hp (oVx (RC_2 H c))
  rw [if_neg hne] at H
  refine c_nS0 c ht hq (oV ?_)
  refine c_n20 c hp hr hne (oV ?_)
  exact c_tNow c (by omega) ht (by omega) fun μ2 e2 => oI (RC_ok H (zT_Q e2) (c.lv (zT_scr e2)))
theorem C_audience (c : CI μ w) {a b x : Int32} {d : Bool} (H : RC Φ μ w 2 0 (q_audience w a b x d)) : Spec g i_SO_audience 0 [.ref 0, .int a, .int b, .int x, .int (b2i d)] μ Φ := by
  have p10 := ci_p10 c
  have t10 := ci_t10 c
  unfold q_audience at H
  refine spi o_SO_audience rfl (v_SO_audience_0 ?_)
  rcases ix_cs (n := pe w) (by omega) a with ⟨ep, hp⟩ | ⟨p, hp, rfl, ep⟩
  · rw [gdx_n ep] at H
    exact c_nP1 c hp (oVx (RC_1 H c))
  rw [gdx_s ep] at H
  rcases ix_cs (n := th w) (by omega) b with ⟨et, ht⟩ | ⟨t, ht, rfl, et⟩
  · rw [gdx_n et] at H
    refine c_nP0 c hp (oV ?_)
    exact c_nS2 c ht (oVx (RC_1 H c))
  rw [gdx_s et] at H
  have w6 := (wf_wo c.2.1 (show t < 10 by omega)).2.1
  rcases ix_cs (n := wo w t) (by omega) x with ⟨eq, hq⟩ | ⟨q, hq, rfl, eq⟩
  · rw [gdx_n eq] at H
    refine c_nP0 c hp (oV ?_)
    exact c_nS1 c ht hq (oVx (RC_1 H c))
  rw [gdx_s eq] at H
  refine c_nP0 c hp (oV ?_)
  refine c_nS0 c ht hq (oV ?_)
  cases d with
  | false =>
    refine ⟨fun _ => c_hrs c (by omega) ht fun μ2 e2 => oI ?_, fun h => absurd rfl h⟩
    rw [show msk (pe w) (fun i => (tk0 w p t q i).isSome) = msk (pe w) (hrf w p t q false) from msk_cong fun i _ => hrf_s.symm]
    exact RC_ok H (zT_Q e2) (c.lv (zT_scr e2))
  | true =>
    refine ⟨fun h => absurd h (by decide), fun _ => c_tkt c (by omega) ht fun μ2 e2 => oI ?_⟩
    rw [show tkm w p t q = msk (pe w) (hrf w p t q true) from msk_cong fun i _ => hrf_T.symm]
    exact RC_ok H (zT_Q e2) (c.lv (zT_scr e2))
theorem C_kept (c : CI μ w) {a b : Int32} (H : RC Φ μ w 2 0 (q_kept w a b)) : Spec g i_SO_kept 0 [.ref 0, .int a, .int b] μ Φ := by
  have p10 := ci_p10 c
  have t10 := ci_t10 c
  unfold q_kept at H
  refine spi o_SO_kept rfl (v_SO_kept_0 ?_)
  rcases ix_cs (n := pe w) (by omega) a with ⟨ep, hp⟩ | ⟨p, hp, rfl, ep⟩
  · rw [gdx_n ep] at H
    exact c_nP1 c hp (oVx (RC_1 H c))
  rw [gdx_s ep] at H
  rcases ix_cs (n := th w) (by omega) b with ⟨et, ht⟩ | ⟨t, ht, rfl, et⟩
  · rw [gdx_n et] at H
    refine c_nP0 c hp (oV ?_)
    exact c_nT1 c ht (oVx (RC_1 H c))
  rw [gdx_s et] at H
  refine c_nP0 c hp (oV ?_)
  refine c_nT0 c ht (oV ?_)
  exact c_kep c hp ht fun μ2 e2 => oI (RC_ok H (zS_Q e2) (c.lv (zS_scr e2)))
theorem C_speakers (c : CI μ w) {a : Int32} (H : RC Φ μ w 2 0 (q_speakers w a)) : Spec g i_SO_speakers 0 [.ref 0, .int a] μ Φ := by
  have p10 := ci_p10 c
  have t10 := ci_t10 c
  unfold q_speakers at H
  refine spi o_SO_speakers rfl (v_SO_speakers_0 ?_)
  rcases ix_cs (n := th w) (by omega) a with ⟨et, ht⟩ | ⟨t, ht, rfl, et⟩
  · rw [gdx_n et] at H
    exact c_nT1 c ht (oVx (RC_1 H c))
  rw [gdx_s et] at H
  refine c_nT0 c ht (oV ?_)
  exact c_spk c ht fun μ2 e2 => oI (RC_ok H (zS_Q e2) (c.lv (zS_scr e2)))
theorem C_spot (c : CI μ w) (hd : DS w) {a b x d : Int32} (H : RC Φ μ w 2 0 (q_spot w a b x d)) : Spec g i_SO_spot 0 [.ref 0, .int a, .int b, .int x, .int d] μ Φ := by
  have p10 := ci_p10 c
  have t10 := ci_t10 c
  unfold q_spot at H
  refine spi o_SO_spot rfl (v_SO_spot_0 ?_)
  rcases ix_cs (n := pe w) (by omega) a with ⟨ep, hp⟩ | ⟨p, hp, rfl, ep⟩
  · rw [gdx_n ep] at H
    refine c_nSx c (oV ?_) (oVx (RC_1 H c))
    exact c_n2a c hp (oVx (RC_1 H c))
  rw [gdx_s ep] at H
  rcases ix_cs (n := pe w) (by omega) b with ⟨er, hr⟩ | ⟨r, hr, rfl, er⟩
  · rw [gdx_n er] at H
    refine c_nSx c (oV ?_) (oVx (RC_1 H c))
    exact c_n2b c hp hr (oVx (RC_1 H c))
  rw [gdx_s er] at H
  rcases ix_cs (n := th w) (by omega) x with ⟨et, ht⟩ | ⟨t, ht, rfl, et⟩
  · rw [gdx_n et] at H
    exact c_nS2 c ht (oVx (RC_1 H c))
  rw [gdx_s et] at H
  have w6 := (wf_wo c.2.1 (show t < 10 by omega)).2.1
  rcases ix_cs (n := wo w t) (by omega) d with ⟨eq, hq⟩ | ⟨q, hq, rfl, eq⟩
  · rw [gdx_n eq] at H
    exact c_nS1 c ht hq (oVx (RC_1 H c))
  rw [gdx_s eq] at H
  by_cases hne : p = r
  · rw [if_pos hne] at H
    subst hne
    refine c_nS0 c ht hq (oV ?_)
    exact c_n2e c hp (oVx (RC_2 H c))
  rw [if_neg hne] at H
  refine c_nS0 c ht hq (oV ?_)
  refine c_n20 c hp hr hne (oV ?_)
  exact c_spf c hd hp hr ht fun μ2 e2 c2 => oI (RC_ok H e2 c2)
theorem C_chain (c : CI μ w) {a b x : Int32} (H : RC Φ μ w 2 0 (q_chain w a b x)) : Spec g i_SO_chain 0 [.ref 0, .int a, .int b, .int x] μ Φ := by
  have p10 := ci_p10 c
  have t10 := ci_t10 c
  unfold q_chain at H
  refine spi o_SO_chain rfl (v_SO_chain_0 ?_)
  rcases ix_cs (n := pe w) (by omega) a with ⟨ep, hp⟩ | ⟨p, hp, rfl, ep⟩
  · rw [gdx_n ep] at H
    exact c_nP1 c hp (oVx (RC_1 H c))
  rw [gdx_s ep] at H
  rcases ix_cs (n := th w) (by omega) b with ⟨et, ht⟩ | ⟨t, ht, rfl, et⟩
  · rw [gdx_n et] at H
    refine c_nP0 c hp (oV ?_)
    exact c_nT1 c ht (oVx (RC_1 H c))
  rw [gdx_s et] at H
  refine c_nP0 c hp (oV ?_)
  refine c_nT0 c ht (oV ?_)
  refine c_isk c (by omega) (by omega) (oI ?_)
  rw [ci_row c]
  cases hk : kno w p t with
  | true =>
    rw [hk, if_pos rfl] at H
    refine ⟨fun _ => ⟨fun h => c_chL c hp ht (oI ?_), fun h => c_chB c hp ht (oI ?_)⟩, fun h => absurd h (by decide)⟩
    · rw [if_pos h] at H; exact RC_ok H rfl c
    · rw [if_neg h] at H; exact RC_ok H rfl c
  | false =>
    rw [hk, if_neg (by decide)] at H
    refine ⟨fun h => absurd rfl h, fun _ => ⟨fun h => ?_, fun h => ?_⟩⟩
    · rw [if_pos h] at H; exact RC_ok H rfl c
    · rw [if_neg h] at H; exact RC_ok H rfl c
theorem C_how (c : CI μ w) {a b : Int32} (H : RC Φ μ w 2 0 (q_how w a b)) : Spec g i_SO_how 0 [.ref 0, .int a, .int b] μ Φ := by
  have p10 := ci_p10 c
  have t10 := ci_t10 c
  unfold q_how at H
  refine spi o_SO_how rfl (v_SO_how_0 ?_)
  rcases ix_cs (n := pe w) (by omega) a with ⟨ep, hp⟩ | ⟨p, hp, rfl, ep⟩
  · rw [gdx_n ep] at H
    exact c_nP1 c hp (oVx (RC_1 H c))
  rw [gdx_s ep] at H
  rcases ix_cs (n := th w) (by omega) b with ⟨et, ht⟩ | ⟨t, ht, rfl, et⟩
  · rw [gdx_n et] at H
    refine c_nP0 c hp (oV ?_)
    exact c_nT1 c ht (oVx (RC_1 H c))
  rw [gdx_s et] at H
  refine c_nP0 c hp (oV ?_)
  refine c_nT0 c ht (oV ?_)
  have l60 := wf_l60 c.2.1
  rw [ci_row c]
  refine c_rwb (f := 0) c (by omega) (by omega) (by omega) (oI ?_)
  rw [ci_row c]
  cases hr : row w p t 0 with
  | none => rw [hr] at H; exact ⟨fun h => absurd rfl h, fun _ => RC_ok H rfl c⟩
  | some r =>
    rw [hr] at H
    have hl := (row_is hr).2
    refine ⟨fun _ => ?_, fun h => absurd (show nI (lg w - 1 - r) = -1 from h) (fun e => nI_pos (n := lg w - 1 - r) (by omega) (by rw [e]; decide))⟩
    show Φ (.inl (some (.int (nI (lg w) - 1 - nI (lg w - 1 - r))))) μ
    rw [show nI (lg w) - 1 - nI (lg w - 1 - r) = nI r by rw [show (1 : Int32) = nI 1 from rfl, pk_sub (by omega), pk_sub (by omega)]; congr 1; omega]
    exact RC_ok H rfl c
theorem C_learnt (c : CI μ w) {a b : Int32} (H : RC Φ μ w 2 0 (q_learnt w a b)) : Spec g i_SO_learnt 0 [.ref 0, .int a, .int b] μ Φ := by
  have p10 := ci_p10 c
  have t10 := ci_t10 c
  unfold q_learnt at H
  refine spi o_SO_learnt rfl (v_SO_learnt_0 ?_)
  rcases ix_cs (n := pe w) (by omega) b with ⟨ep, hp⟩ | ⟨p, hp, rfl, ep⟩
  · rw [gdx_n ep] at H
    exact c_nP1 c hp (oVx (RC_1 H c))
  rw [gdx_s ep] at H
  refine c_nP0 c hp (oV ?_)
  have l60 := wf_l60 c.2.1
  refine c_ago c (oI ?_)
  rcases ix_cs (n := lg w) (by omega) a with ⟨e, -⟩ | ⟨k, hk, rfl, e⟩
  · rw [e] at H ⊢; exact ⟨fun h => absurd rfl h, fun _ => RC_ok H rfl c⟩
  · rw [e] at H ⊢
    exact ⟨fun _ => c_lby c hk (by omega) (oI (RC_ok H rfl c)), fun h => absurd (show nI (lg w - 1 - k) = -1 from h) (fun e => nI_pos (n := lg w - 1 - k) (by omega) (by rw [e]; decide))⟩
theorem C_seats (c : CI μ w) {a b x d : Int32} (H : RC Φ μ w 2 0 (q_seats w a b x d)) : Spec g i_SO_seats 0 [.ref 0, .int a, .int b, .int x, .int d] μ Φ := by
  have p10 := ci_p10 c
  have t10 := ci_t10 c
  unfold q_seats at H
  refine spi o_SO_seats rfl (v_SO_seats_0 ?_)
  rcases ix_cs (n := pe w) (by omega) a with ⟨ep, hp⟩ | ⟨p, hp, rfl, ep⟩
  · rw [gdx_n ep] at H
    exact c_nP1 c hp (oVx (RC_1 H c))
  rw [gdx_s ep] at H
  rcases ix_cs (n := th w) (by omega) b with ⟨et, ht⟩ | ⟨t, ht, rfl, et⟩
  · rw [gdx_n et] at H
    refine c_nP0 c hp (oV ?_)
    exact c_nS2 c ht (oVx (RC_1 H c))
  rw [gdx_s et] at H
  have w6 := (wf_wo c.2.1 (show t < 10 by omega)).2.1
  rcases ix_cs (n := wo w t) (by omega) x with ⟨eq, hq⟩ | ⟨q, hq, rfl, eq⟩
  · rw [gdx_n eq] at H
    refine c_nP0 c hp (oV ?_)
    exact c_nS1 c ht hq (oVx (RC_1 H c))
  rw [gdx_s eq] at H
  refine c_nP0 c hp (oV ?_)
  refine c_nS0 c ht hq (oV ?_)
  refine c_bsw c hp ht fun μ2 e2 c2 => oI ⟨fun hd => ?_, fun hd => ?_⟩
  · rw [if_neg hd] at H
    rcases stP_is (w := w) (who := p) (t := t) (q := q) (pe w) with h | ⟨p1, r1, h1, h2, h3, h4⟩
    · rw [h] at H ⊢
      refine ⟨fun h => absurd rfl h, fun _ => c_hrs c2 (by omega) ht fun μ3 e3 => oI (c_bc (oI ?_))⟩
      rw [bc_msk p10]
      exact RC_ok H ((zT_Q e3).trans e2) (c2.lv (zT_scr e3))
    · rw [h4] at H ⊢
      refine ⟨fun _ => ⟨by decide, by decide, ?_⟩, fun h => absurd (show nI (10 * p1 + r1) = -1 from h) (fun e => nI_pos (n := 10 * p1 + r1) (by omega) (by rw [e]; decide))⟩
      show Spec g i_Se_hearersIfSwapped 0 [.ref 68, .int (nI (10 * p1 + r1) / 10), .int (nI (10 * p1 + r1) - nI (10 * p1 + r1) / 10 * 10), .int (nI p), .int (nI t), .int (nI q)] μ2 _
      obtain ⟨d1, d2⟩ := s10 (show 10 * p1 + r1 < 100 by omega)
      rw [d2, d1, show (10 * p1 + r1) / 10 = p1 by omega, show (10 * p1 + r1) % 10 = r1 by omega]
      exact c_hif c2 (by omega) (by omega) (by omega) (by omega) ht fun μ3 e3 c3 => oI (RC_ok H (e3.trans e2) c3)
  · rw [if_pos hd] at H; exact RC_ok H e2 c2
theorem C_last (c : CI μ w) (H : RC Φ μ w 0 0 (0, nI (las w))) : Spec g i_SO_last 0 [.ref 0] μ Φ := spi o_SO_last rfl (v_SO_last_0 (c_las c fun μ2 e2 => oI (RC_ok H (zL_Q e2) (c.lv (zL_scr e2)))))
theorem C_silent (c : CI μ w) (H : RC Φ μ w 0 0 (0, msk (th w) (fun t => decide (lf w t = 0)))) : Spec g i_SO_silent 0 [.ref 0] μ Φ := by
  have t10 := ci_t10 c
  refine spi o_SO_silent rfl (v_SO_silent_0 (c_all c (oI (c_lTh c (oI ?_)))))
  rw [msk_andn (by omega), show msk (th w) (fun i => true && !decide (¬ lf w i = 0)) = msk (th w) (fun t => decide (lf w t = 0)) from msk_cong fun i _ => by simp]
  exact RC_ok H rfl c
end PUBC
