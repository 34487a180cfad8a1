/-! the class's face: call -/
section CPUB4
variable {g : Gl} {Φ : Out → Mem → Prop} {μ : Mem} {w : WD}
theorem clS_is {t : Nat} : ∀ n, clS w t n = (none, 0) ∨ ∃ p, p < n ∧ clS w t n = (some p, itsN w p t) := by
  intro n
  induction n with
  | zero => exact Or.inl rfl
  | succ n ih =>
    have hd : clS w t (n + 1) = if (her w n && (kno w n t && !decide (lf w t = 0))) && clB (itsN w n t) (clS w t n) then (some n, itsN w n t) else clS w t n := rfl
    by_cases hb : ((her w n && (kno w n t && !decide (lf w t = 0))) && clB (itsN w n t) (clS w t n)) = true
    · rw [hd, if_pos hb]; exact Or.inr ⟨n, by omega, rfl⟩
    · rw [hd, if_neg hb]
      rcases ih with h | ⟨p, h1, h2⟩
      · exact Or.inl h
      · exact Or.inr ⟨p, by omega, h2⟩
theorem c_woc (c : CI μ w) {p t : Nat} (hp : p < 10) (ht : t < th w) (H : ∀ μ', Lz zT μ' = Lz zT μ → Φ (.inl (some (.int (nI (itsN w p t))))) μ') : Spec g i_Se_worthOfCalling 0 [.ref 68, .int (nI p), .int (nI t)] μ Φ := by
  have p10 := ci_p10 c
  have t10 := ci_t10 c
  have w6 := (wf_wo c.2.1 (show t < 10 by omega)).2.1
  refine spi o_Se_worthOfCalling rfl (v_Se_worthOfCalling_0 (c_knr c (by omega) (oI ?_)))
  refine zup (P := fun k => ∀ μ', Lz zT μ' = Lz zT μ → WW g i_Se_worthOfCalling 0 Φ 0 0 17 [(0, .ref 68), (1, .int (nI p)), (2, .int (nI t)), (3, .int (msk (pe w) (fun r => kno w r t) ^^^ (-1))), (4, .int (nI (mbN w p t k))), (5, .int (nI k))] [] μ') (wo w t) ?_ ?_ μ rfl
  · intro μ' e
    have c' := c.lv (zT_scr e)
    refine v_Se_worthOfCalling_17 ⟨vp_in_nI (by omega) (by decide), fun _ => ⟨vp_in_nI hp (by decide), ?_⟩, fun h => absurd (by rw [nx_nI (by omega), ci_wo c' (by omega)]; exact nI_le (Nat.le_refl _) (by omega)) h⟩
    rw [nx_nI (by omega), ci_stm c' hp, (wf_st c.2.1 hp).1, i_100 (wf_st c.2.1 hp).2]
    exact H μ' e
  · intro k hk ih μ' e
    have c' := c.lv (zT_scr e)
    have hd : mbN w p t (k + 1) = if sai w t k then mbN w p t k else max (mbN w p t k) (ct (fun r => hrf w p t k true r && !kno w r t) (pe w)) := rfl
    have ml := mbN_le w p t k
    have cl := ct_le (fun r => hrf w p t k true r && !kno w r t) (pe w)
    rw [hd, nI_succ] at ih
    refine v_Se_worthOfCalling_17 ⟨vp_in_nI (by omega) (by decide), fun h => absurd h (by rw [nx_nI (by omega), ci_wo c' (by omega)]; exact nI_ge hk (by omega)), fun _ => c_isL c' (by omega) (by omega) (oI ⟨fun h => ?_, fun h => c_tkt c' hp ht fun μ2 e2 => oI (c_bc (oI ?_))⟩)⟩
    · have h := b2i_0.mp h
      have hs : sai w t k = true := by
        unfold lef at h
        simpa [hk] using h
      rw [if_pos hs] at ih; exact ih μ' e
    · have h := b2i_n0.mp h
      have hs : sai w t k = false := by
        unfold lef at h
        simpa [hk] using h
      rw [hs, if_neg (by decide), ← mmax_nI (by omega) (by omega), ← bc_msk p10] at ih
      have := ih μ2 (e2.trans e)
      rw [show msk (pe w) (fun r => hrf w p t k true r && !kno w r t) = tkm w p t k &&& (msk (pe w) (fun r => kno w r t) ^^^ (-1)) by
        unfold tkm; rw [msk_andn (by omega)]; exact msk_cong fun i _ => by rw [hrf_T]] at this
      exact this
def clm (s : Option Nat × Nat) : Int32 := match s.1 with
  | none => -1
  | some _ => nI s.2
theorem c_bcl (c : CI μ w) {t : Nat} (ht : t < th w) (H : ∀ μ', Lz zT μ' = Lz zT μ → Φ (.inl (some (.int (ov (clS w t (pe w)).1)))) μ') : Spec g i_Se_bestCaller 0 [.ref 68, .int (nI t)] μ Φ := by
  have p10 := ci_p10 c
  have t10 := ci_t10 c
  have l6 := lf_le w t
  refine spi o_Se_bestCaller rfl (v_Se_bestCaller_0 ?_)
  refine zup (P := fun k => ∀ μ', Lz zT μ' = Lz zT μ → WW g i_Se_bestCaller 0 Φ 0 0 7 [(0, .ref 68), (1, .int (nI t)), (2, .int (ov (clS w t k).1)), (3, .int (clm (clS w t k))), (4, .int (nI k))] [] μ') (pe w) ?_ ?_ μ rfl
  · intro μ' e
    exact v_Se_bestCaller_7 ⟨fun _ => H μ' e, fun h => absurd (by rw [ci_pe (c.lv (zT_scr e))]; exact nI_le (Nat.le_refl _) (by omega)) h⟩
  · intro k hk ih μ' e
    have c' := c.lv (zT_scr e)
    have hd : clS w t (k + 1) = if (her w k && (kno w k t && !decide (lf w t = 0))) && clB (itsN w k t) (clS w t k) then (some k, itsN w k t) else clS w t k := rfl
    have hl := clS_le c.2.1 (t := t) k
    have hi := its_le c.2.1 (p := k) (t := t)
    rw [hd, nI_succ] at ih
    generalize clS w t k = s at *
    have no : ∀ μ2, Lz zT μ2 = Lz zT μ → ((her w k && (kno w k t && !decide (lf w t = 0))) && clB (itsN w k t) s) = false → WW g i_Se_bestCaller 0 Φ 0 0 7 [(0, .ref 68), (1, .int (nI t)), (2, .int (ov s.1)), (3, .int (clm s)), (4, .int (nI k + 1))] [] μ2 := fun μ2 e2 h => by
      rw [if_neg (by rw [h]; decide)] at ih; exact ih μ2 e2
    refine v_Se_bestCaller_7 ⟨fun h => absurd h (by rw [ci_pe c']; exact nI_ge hk (by omega)), fun _ => c_can c' (by omega) (by omega) (oI ⟨fun h => no μ' e ?_, fun h => c_cL c' (by omega) (oI ⟨fun h2 => no μ' e ?_, fun h2 => c_woc c' (by omega) ht fun μ2 e2 => oI ?_⟩)⟩)⟩
    · have := b2i_0.mp h
      rw [← Bool.and_assoc, this]; simp
    · have : lf w t = 0 := by
        have := (nI_leI (a := lf w t) (b := 0) (by omega) (by decide)).mp h2
        omega
      rw [this]; simp
    · have h1 := b2i_n0.mp h
      have h3 : ¬ lf w t = 0 := fun e => h2 (by rw [e]; decide)
      have hcond : ((her w k && (kno w k t && !decide (lf w t = 0))) && clB (itsN w k t) s) = clB (itsN w k t) s := by
        rw [← Bool.and_assoc, h1, decide_eq_false h3]; simp
      rw [hcond] at ih no
      have hcm : nI (itsN w k t) ≤ clm s ↔ clB (itsN w k t) s = false := by
        unfold clm clB
        cases s.1 with
        | none =>
          refine ⟨fun h => ?_, fun h => by cases h⟩
          exact absurd (Int32.le_trans (nI_pos' (n := itsN w k t) (by omega)) h) (show ¬ (0 : Int32) ≤ -1 by decide)
        | some b =>
          show nI (itsN w k t) ≤ nI s.2 ↔ decide (s.2 < itsN w k t) = false
          rw [nI_leI (by omega) (by omega), decide_eq_false_iff_not]; omega
      refine ⟨fun h4 => no μ2 (e2.trans e) (hcm.mp h4), fun h4 => ?_⟩
      have hb : clB (itsN w k t) s = true := by
        cases hx : clB (itsN w k t) s with
        | true => rfl
        | false => exact absurd (hcm.mpr hx) h4
      rw [if_pos hb] at ih
      exact ih μ2 (e2.trans e)
theorem C_call (c : CI μ w) {a b : Int32} (H : RC Φ μ w 2 0 (q_call w a b)) : Spec g i_SO_call 0 [.ref 0, .int a, .int b] μ Φ := by
  have p10 := ci_p10 c
  have t10 := ci_t10 c
  unfold q_call at H
  refine spi o_SO_call rfl (v_SO_call_0 ?_)
  rcases ix_cs (n := th w) (by omega) a with ⟨et, ht⟩ | ⟨t, ht, rfl, et⟩
  · rw [gdx_n et] at H; exact c_nT1 c ht (oVx (RC_1 H c))
  rw [gdx_s et] at H
  refine c_nT0 c ht (oV (c_bcl c ht fun μ2 e2 => oI ⟨fun hb => ?_, fun hb => ?_⟩))
  · rw [if_neg hb] at H
    have c2 := c.lv (zT_scr e2)
    rcases clS_is (w := w) (t := t) (pe w) with h | ⟨p, h1, h2⟩
    · rw [h] at H ⊢
      exact ⟨fun h => absurd rfl h, fun _ => RC_ok H (zT_Q e2) c2⟩
    · rw [h2] at H ⊢
      exact ⟨fun _ => c_woc c2 (by omega) ht fun μ3 e3 => oI (RC_ok H (zT_Q (e3.trans e2)) (c2.lv (zT_scr e3))), fun h => absurd (show nI p = -1 from h) (fun e => nI_pos (n := p) (by omega) (by rw [e]; decide))⟩
  · rw [if_pos hb] at H; exact RC_ok H (zT_Q e2) (c.lv (zT_scr e2))
end CPUB4
