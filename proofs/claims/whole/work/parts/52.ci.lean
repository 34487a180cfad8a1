/-! terms -/
/-- what texts alone tell is the same -/
def suS (w w' : WD) : Prop := ∀ j, j ≠ 5 → j ≠ 7 → j ≠ 8 → ¬ (115 ≤ j ∧ j < 1015) → ¬ (19 ≤ j ∧ j < 79 ∧ ((j - 19) % 6 = 0 ∨ (j - 19) % 6 = 1 ∨ (j - 19) % 6 = 4 ∨ (j - 19) % 6 = 5)) → w'.1 j = w.1 j
theorem suS_rfl {w : WD} : suS w w := fun _ _ _ _ _ _ => rfl
theorem suS_tr {w v u : WD} (h : suS w v) (k : suS v u) : suS w u := fun j a b c d e => (k j a b c d e).trans (h j a b c d e)
theorem agS_su {w v : WD} (h : agS w v) : suS w v := fun j a _ c _ e => h j a c e
theorem suS_th {w v : WD} (h : suS w v) : th v = th w := congrArg nx (h 0 (by omega) (by omega) (by omega) (by omega) (by omega))
theorem suS_pe {w v : WD} (h : suS w v) : pe v = pe w := congrArg nx (h 1 (by omega) (by omega) (by omega) (by omega) (by omega))
theorem suS_say {w : WD} {who t q : Nat} (h10 : pe w ≤ 10) : suS w (sayW w who t q) := fun j a b c d e => by
  have epe : pe (dW (stW w t q)) = pe w := congrArg nx (dW_o (by decide))
  show (say1 (dW (stW w t q)) who t q).1 j = _
  by_cases q : j < 115
  · unfold say1
    rw [lrn_o (by omega) (by omega) (by omega), tlW_lo q b, dW_o c]; rfl
  · rw [say1_hi (by omega) (by omega), dW_o c]; rfl
theorem lg_say {w : WD} {who t q : Nat} (h10 : pe w ≤ 10) (h : WFs w) : lg (sayW w who t q) = lg w + 1 := by
  have epe : pe (dW (stW w t q)) = pe w := congrArg nx (dW_o (by decide))
  have elg : lg (dW (stW w t q)) = lg w := congrArg nx (dW_o (by decide))
  have h60 := (wf_lg h).2
  have : lg (sayW w who t q) = lg (tlW (dW (stW w t q)) who (6 * t + q) (stm (dW (stW w t q)) who)) := congrArg nx (lrn_o (by omega) (by omega) (by omega))
  rw [this]
  show nx (nI (lg (dW (stW w t q)) + 1)) = _
  rw [elg, nx_nI (by omega)]
theorem dW_lef {w : WD} {t q : Nat} : lef (dW w) t q = lef w t q := by
  have : wo (dW w) t = if 9 + t = 8 then nx (nsd (w.1 8)) else wo w t := by
    rw [if_neg (by omega)]; exact congrArg nx (dW_o (by omega))
  unfold lef; rw [this, if_neg (by omega)]; rfl
theorem lef_is {w : WD} {t : Nat} (h : lo (lef w t) 6 < 6) : lo (lef w t) 6 < wo w t ∧ sai w t (lo (lef w t) 6) = false := by
  have := lo_yes h
  unfold lef at this
  simp only [Bool.and_eq_true, decide_eq_true_eq, Bool.not_eq_true'] at this
  exact this
theorem tsW_ok {w : WD} (h : WF w) (hp : 0 < pe w) (ht : 0 < th w) : WF (tsW w).1 ∧ suS w (tsW w).1 ∧ lg w ≤ lg (tsW w).1 := by
  have p10 := (wf_pe h.1).2
  have t10 := (wf_th h.1).2
  have h2 := WF_d (WF_d h)
  have ep : pe (dW (dW w)) = pe w := (congrArg nx (dW_o (by decide))).trans (congrArg nx (dW_o (by decide)))
  have et : th (dW (dW w)) = th w := (congrArg nx (dW_o (by decide))).trans (congrArg nx (dW_o (by decide)))
  have el : lg (dW (dW w)) = lg w := (congrArg nx (dW_o (by decide))).trans (congrArg nx (dW_o (by decide)))
  have su : suS w (dW (dW w)) := suS_tr (agS_su dW_ag) (agS_su dW_ag)
  unfold tsW
  dsimp only
  split
  · rename_i hc
    have hwho : drw ((dW w).1 8) % pe w < pe w := Nat.mod_lt _ hp
    have hth : drw ((dW (dW w)).1 8) % th w < th w := Nat.mod_lt _ ht
    obtain ⟨c1, c2⟩ := lef_is hc.1
    have := sayW_ok h2 (by rw [ep]; exact hwho) (by rw [et]; exact hth) c1 c2
    refine ⟨this.2.2.1, suS_tr su (suS_say (by omega)), ?_⟩
    rw [lg_say (by omega) h2.1, el]; omega
  · exact ⟨h2, su, Nat.le_of_eq el.symm⟩
theorem trW_ok {w : WD} (h : WF w) (hp : 0 < pe w) (ht : 0 < th w) (n : Nat) : WF (trW w n).1 ∧ suS w (trW w n).1 ∧ lg w ≤ lg (trW w n).1 ∧ (trW w n).2 ≤ n := by
  induction n with
  | zero => exact ⟨h, suS_rfl, Nat.le_refl _, Nat.le_refl _⟩
  | succ n ih =>
    obtain ⟨i1, i2, i3, i4⟩ := ih
    obtain ⟨j1, j2, j3⟩ := tsW_ok i1 (by rw [suS_pe i2]; exact hp) (by rw [suS_th i2]; exact ht)
    rw [trW_s]
    generalize tsW (trW w n).1 = r at *
    refine ⟨j1, suS_tr i2 j2, Nat.le_trans i3 j3, ?_⟩
    show (trW w n).2 + (if r.2 = true then 1 else 0) ≤ n + 1
    split <;> omega
def tmW (w : WD) (n : Nat) : WD × Nat := if 0 < pe w ∧ 0 < th w then trW w n else (w, 0)
theorem tmW_ok {w : WD} (h : WF w) (n : Nat) : WF (tmW w n).1 ∧ suS w (tmW w n).1 ∧ lg w ≤ lg (tmW w n).1 ∧ (tmW w n).2 ≤ n := by
  unfold tmW; split
  · rename_i q; exact trW_ok h q.1 q.2 n
  · exact ⟨h, suS_rfl, Nat.le_refl _, Nat.zero_le _⟩
theorem tz_m {f : Nat → Bool} (h : ¬ msk 6 f = 0) : lo f 6 < 6 ∧ tzF (msk 6 f) = nI (lo f 6) := by
  have h1 : lo f 6 < 6 := by
    rcases Nat.lt_or_ge (lo f 6) 6 with q | q
    · exact q
    · exact absurd ((msk_0 (by omega)).mpr fun i hi => lo_no (n := 6) (by omega)) h
  have e : lo (bt (msk 6 f)) 10 = lo f 6 := by
    refine lo_eq (by omega) ?_ ?_
    · rw [b_msk (by omega) (by omega), lo_yes h1]; simp [h1]
    · intro i hi; rw [b_msk (by omega) (by omega), lo_no hi]; simp
  have hs := tz_small (x := msk 6 f) (fun i a b => by rw [b_msk (by omega) b]; simp; omega) h
  rw [e] at hs
  exact ⟨h1, hs⟩
section CJ
variable {g : Gl} {Φ : Out → Mem → Prop} {μ : Mem} {w : WD}
theorem LK_same {n : Nat} {μ' : Mem} (h23 : mI μ' 23 = mI μ 23) (h24 : mI μ' 24 = mI μ 24) (h25 : mI μ' 25 = mI μ 25) (h26 : mI μ' 26 = mI μ 26) (h27 : mL μ' 27 = mL μ 27) (h28 : mI μ' 28 = mI μ 28) : LK n μ' μ := fun k _ => by rw [h23, h24, h25, h26, h27, h28]; exact ⟨rfl, rfl, rfl, rfl, rfl, rfl⟩
theorem c_run (c : CI μ w) {n : Nat} (hn : n < 2 ^ 31) (H : ∀ μ', Lz zN μ' = Lz zN μ → CI μ' (tmW w n).1 → LK (lg w) μ' μ → Φ (.inl (some (.int (nI (tmW w n).2)))) μ') : Spec g i_Sch_runTerm 0 [.ref 3, .int (nI n)] μ Φ := by
  refine spi o_Sch_runTerm rfl (v_Sch_runTerm_0 ?_)
  by_cases hq : 0 < pe w ∧ 0 < th w
  · have hp := hq.1
    have ht := hq.2
    unfold tmW at H; rw [if_pos hq] at H
    refine zup (P := fun k => ∀ μ', Lz zN μ' = Lz zN μ → CI μ' (trW w k).1 → LK (lg w) μ' μ → WW g i_Sch_runTerm 0 Φ 0 0 4 [(0, .ref 3), (1, .int (nI n)), (2, .int (nI (trW w k).2)), (3, .int (nI k))] [] μ') n ?_ ?_ μ rfl c LK_rfl
    · intro μ' e c' k'
      exact v_Sch_runTerm_4 ⟨fun _ => H μ' e c' k', fun h => absurd (nI_le (Nat.le_refl _) hn) h⟩
    · intro k hk ih μ' e c' k'
      obtain ⟨i1, i2, i3, i4⟩ := trW_ok c.2 hp ht k
      have epp := suS_pe i2
      have ett := suS_th i2
      rw [trW_s] at ih
      dsimp only at ih
      generalize (trW w k).1 = v at *
      generalize (trW w k).2 = sd at *
      have p10 := (wf_pe i1.1).2
      have t10 := (wf_th i1.1).2
      refine v_Sch_runTerm_4 ⟨fun h => absurd h (nI_ge hk hn), fun _ => ⟨fun h => absurd h (by rw [ci_pe c']; exact nI_nle (by omega) (by omega)), fun _ => ⟨fun h => absurd h (by rw [ci_th c']; exact nI_nle (by omega) (by omega)), fun _ => ?_⟩⟩⟩
      refine c_draw c' (oI ?_)
      have c1 := CI_d c'
      refine ⟨by rw [ci_pe c1, show pe (dW v) = pe v from congrArg nx (dW_o (by decide))]; exact nI_ne0 (by omega) (by omega), c_draw c1 (oI ?_)⟩
      have c2 := CI_d c1
      have e2 : Lz zN (sI (sI μ' 11 6 (nsd (v.1 8))) 11 6 (nsd ((dW v).1 8))) = Lz zN μ := ((Lz_I rfl).trans (Lz_I rfl)).trans e
      have k2 : LK (lg w) (sI (sI μ' 11 6 (nsd (v.1 8))) 11 6 (nsd ((dW v).1 8))) μ := LK_tr (Nat.le_refl _) k' (LK_same rfl rfl rfl rfl rfl rfl)
      have ep2 : pe (dW (dW v)) = pe v := (congrArg nx (dW_o (by decide))).trans (congrArg nx (dW_o (by decide)))
      have et2 : th (dW (dW v)) = th v := (congrArg nx (dW_o (by decide))).trans (congrArg nx (dW_o (by decide)))
      have elg2 : lg (dW (dW v)) = lg v := (congrArg nx (dW_o (by decide))).trans (congrArg nx (dW_o (by decide)))
      have ep1 : mI (sI μ' 11 6 (nsd (v.1 8))) 4 2 = nI (pe v) := by rw [rI_I, if_neg (by decide)]; exact ci_pe c'
      have et1 : mI (sI (sI μ' 11 6 (nsd (v.1 8))) 11 6 (nsd ((dW v).1 8))) 4 0 = nI (th v) := by rw [rI_I, if_neg (by decide), rI_I, if_neg (by decide)]; exact ci_th c'
      rw [ep1, et1]
      have l1 := drw_lt (nsd (v.1 8))
      have l2 := drw_lt (nsd ((dW v).1 8))
      rw [pk_rem (by omega) (by omega) (by omega), pk_rem (by omega) (by omega) (by omega)]
      have ets : tsW v = if lo (lef (dW (dW v)) (drw (nsd ((dW v).1 8)) % th v)) 6 < 6 ∧ (her (dW (dW v)) (drw (nsd (v.1 8)) % pe v) && kno (dW (dW v)) (drw (nsd (v.1 8)) % pe v) (drw (nsd ((dW v).1 8)) % th v)) = true then (sayW (dW (dW v)) (drw (nsd (v.1 8)) % pe v) (drw (nsd ((dW v).1 8)) % th v) (lo (lef (dW (dW v)) (drw (nsd ((dW v).1 8)) % th v)) 6), true) else (dW (dW v), false) := by
        unfold tsW; dsimp only; rw [dW_8, dW_8]
      have hwho : drw (nsd (v.1 8)) % pe v < pe v := Nat.mod_lt _ (by omega)
      have hth : drw (nsd ((dW v).1 8)) % th v < th v := Nat.mod_lt _ (by omega)
      generalize drw (nsd (v.1 8)) % pe v = who at *
      generalize drw (nsd ((dW v).1 8)) % th v = t at *
      generalize sI (sI μ' 11 6 (nsd (v.1 8))) 11 6 (nsd ((dW v).1 8)) = μ2 at *
      generalize dW (dW v) = v2 at *
      refine ⟨nI_ne0 (by omega) (by omega), c_left c2 (by omega) (oI ⟨fun h => ?_, fun h => c_can c2 (by omega) (by omega) (oI ⟨fun h2 => ?_, fun h2 => c_tz (oI ?_)⟩)⟩)⟩
      · have hno : ¬ lo (lef v2 t) 6 < 6 := fun q => by
          have := lo_yes q
          rw [(msk_0 (by omega)).mp h _ q] at this; cases this
        have ets0 : tsW v = (v2, false) := by rw [ets, if_neg (fun q => hno q.1)]
        have := ih μ2 e2 (by rw [ets0]; exact c2) k2
        rw [ets0, nI_succ] at this
        exact this
      · have hno : ¬ (her v2 who && kno v2 who t) = true := by rw [b2i_0.mp h2]; decide
        have ets0 : tsW v = (v2, false) := by rw [ets, if_neg (fun q => hno q.2)]
        have := ih μ2 e2 (by rw [ets0]; exact c2) k2
        rw [ets0, nI_succ] at this
        exact this
      · obtain ⟨q1, q2⟩ := tz_m h
        obtain ⟨q3, q4⟩ := lef_is q1
        rw [q2]
        refine c_speak c2 (by omega) (by omega) q3 q4 fun μ3 e3 c3 k3 => oI ?_
        have hy : lo (lef v2 t) 6 < 6 ∧ (her v2 who && kno v2 who t) = true := ⟨q1, b2i_n0.mp h2⟩
        have ets1 : tsW v = (sayW v2 who t (lo (lef v2 t) 6), true) := by rw [ets, if_pos hy]
        have := ih μ3 (e3.trans e2) (by rw [ets1]; exact c3) (LK_tr (Nat.le_trans i3 (by omega)) k2 k3)
        rw [ets1] at this
        have h1 : nI (sd + if (sayW v2 who t (lo (lef v2 t) 6), true).2 = true then 1 else 0) = nI sd + 1 := nI_succ sd
        rw [h1, nI_succ] at this
        exact this
  · unfold tmW at H; rw [if_neg hq] at H
    have H' := H μ rfl c LK_rfl
    have p10 := ci_p10 c
    have t10 := ci_t10 c
    refine v_Sch_runTerm_4 ⟨fun _ => H', fun _ => ⟨fun _ => H', fun h => ⟨fun _ => H', fun h2 => ?_⟩⟩⟩
    exfalso
    rw [ci_pe c] at h
    rw [ci_th c] at h2
    refine hq ⟨?_, ?_⟩
    · rcases Nat.eq_zero_or_pos (pe w) with q | q
      · rw [q] at h; exact absurd (by decide) h
      · exact q
    · rcases Nat.eq_zero_or_pos (th w) with q | q
      · rw [q] at h2; exact absurd (by decide) h2
      · exact q
end CJ
