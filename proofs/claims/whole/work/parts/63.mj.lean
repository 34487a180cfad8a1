/-! spot, on both sides -/
theorem mov_1 {w : WD} {p j : Nat} {x y : Int32} : (mov w p x y).1 j = if j = 20 + 6 * p then y else if j = 19 + 6 * p then x else w.1 j := by
  show upd (upd w.1 (19 + 6 * p) x) (20 + 6 * p) y j = _
  by_cases h : j = 20 + 6 * p
  · rw [h, upd_s, if_pos rfl]
  · rw [upd_n h, if_neg h]
    by_cases h2 : j = 19 + 6 * p
    · rw [h2, upd_s, if_pos rfl]
    · rw [upd_n h2, if_neg h2]
theorem mov_mov {w : WD} {p : Nat} {x y x' y' : Int32} : mov (mov w p x y) p x' y' = mov w p x' y' := by
  refine Prod.ext ?_ rfl
  funext j
  rw [mov_1, mov_1, mov_1]
  by_cases h : j = 20 + 6 * p
  · rw [if_pos h, if_pos h]
  · rw [if_neg h, if_neg h, if_neg h]
    by_cases h2 : j = 19 + 6 * p
    · rw [if_pos h2, if_pos h2]
    · rw [if_neg h2, if_neg h2, if_neg h2]
theorem mov_self {w : WD} {p : Nat} : mov w p (pf w p 0) (pf w p 1) = w := by
  refine Prod.ext ?_ rfl
  funext j
  rw [mov_1]
  by_cases h : j = 20 + 6 * p
  · rw [if_pos h, h]; show w.1 (19 + 6 * p + 1) = _; exact congrArg w.1 (by omega)
  · rw [if_neg h]
    by_cases h2 : j = 19 + 6 * p
    · rw [if_pos h2, h2]; rfl
    · rw [if_neg h2]
section MJ
variable {g : Gl} {Φ : Out → Mem → Prop} {μ : Mem} {w : WD}
theorem s10 {s : Nat} (h : s < 100) : nI s / 10 = nI (s / 10) ∧ nI s - nI s / 10 * 10 = nI (s % 10) := ⟨by rw [show (10 : Int32) = nI 10 from rfl, pk_div (by omega) (by decide) (by decide)], by rw [show (10 : Int32) = nI 10 from rfl, pk_rem (by omega) (by decide) (by decide)]⟩
theorem c_spf (c : CI μ w) (hd : DS w) {p who t q : Nat} (hp : p < pe w) (hw : who < pe w) (ht : t < th w) (H : ∀ μ', Lz zQ μ' = Lz zQ μ → CI μ' w → Φ (.inl (some (.int (ov (spo w p who t q))))) μ') :
    Spec g i_Se_spotFor 0 [.ref 68, .int (nI p), .int (nI who), .int (nI t), .int (nI q)] μ Φ := by
  have p10 := ci_p10 c
  have t10 := ci_t10 c
  obtain ⟨ox, ox9, hox⟩ := wf_x c.2.1 (show p < 10 by omega)
  obtain ⟨oy, oy9, hoy⟩ := wf_y c.2.1 (show p < 10 by omega)
  have vp := vp_in_nI (N := 10) (show p < 10 by omega) (by decide)
  refine spi o_Se_spotFor rfl (v_Se_spotFor_0 ⟨vp, vp, ?_⟩)
  rw [nx_nI (by omega), ci_x c (by omega), ci_y c (by omega)]
  -- the end
  have fin : ∀ μ' a b o, a ≤ 9 → b ≤ 9 → Lz zQ μ' = Lz zQ μ → CI μ' (mov w p (nI a) (nI b)) → ov o = ov (spo w p who t q) → Spec g i_Sta_seat 0 [.ref 11, .int (nI p), .int (pf w p 0), .int (pf w p 1)] μ' (onV (fun μ1 => Φ (.inl (some (.int (ov o)))) μ1) (fun e μ1 => rtM i_Se_spotFor Φ (.inr e) 0 0 μ1)) := by
    intro μ' a b o _ _ e c' ho
    rw [hox, hoy]
    refine c_seat (by omega) (oV ?_)
    rw [ho]
    have := CI_mov c' (p := p) (by omega) ox9 oy9
    rw [mov_mov, ← hox, ← hoy, mov_self] at this
    rw [← hox, ← hoy]
    exact H _ ((Lz_I rfl).trans ((Lz_I rfl).trans e)) this
  have key := zup (P := fun s => ∀ μ' a b, a ≤ 9 → b ≤ 9 → Lz zQ μ' = Lz zQ μ → CI μ' (mov w p (nI a) (nI b)) → ((a = ox ∧ b = oy) ∨ 10 * a + b < s) → (∀ i, i < s → spt w p who t q i = false) → WW g i_Se_spotFor 0 Φ 0 0 34 [(0, .ref 68), (1, .int (nI p)), (2, .int (nI who)), (3, .int (nI t)), (4, .int (nI q)), (5, .int (pf w p 0)), (6, .int (pf w p 1)), (7, .int (-1)), (8, .int (nI s))] [] μ') 100 ?_ ?_ μ ox oy ox9 oy9 rfl (by rw [← hox, ← hoy, mov_self]; exact c) (Or.inl ⟨rfl, rfl⟩) fun i h => absurd h (Nat.not_lt_zero _)
  · exact key
  · intro μ' a b ha hb e c' _ hn
    refine v_Se_spotFor_34 ⟨fun _ => fin μ' a b none ha hb e c' ?_, fun h => absurd (nI_le (a := 100) (b := 100) (by decide) (by decide)) h⟩
    unfold spo; rw [lo_none hn, if_neg (by decide)]
  · intro s hs ih μ' a b ha hb e c' hab hn
    obtain ⟨d1, d2⟩ := s10 hs
    have epe : pe (mov w p (nI a) (nI b)) = pe w := agS_pe (mov_ag (by omega))
    have eth : th (mov w p (nI a) (nI b)) = th w := agS_th (mov_ag (by omega))
    refine v_Se_spotFor_34 ⟨fun h => absurd h (nI_ge (b := 100) hs (by decide)), fun _ => ⟨fun h => absurd rfl h, fun _ => ⟨by decide, by decide, ?_⟩⟩⟩
    rw [d2, d1, ci_pe c']
    -- going on, having sat there
    have sit : (decide (∀ o, o < pe w → o ≠ p → ¬ (pf w o 0 = nI (s / 10) ∧ pf w o 1 = nI (s % 10)))) = true → Spec g i_Sta_seat 0 [.ref 11, .int (nI p), .int (nI (s / 10)), .int (nI (s % 10))] μ' (onV (fun μ5 => Spec g i_Sch_takenNow 0 [.ref 3, .int (nI who), .int (nI t), .int (nI q), .int (nI p)] μ5 (onI (fun r7 μ6 => (r7 = -1 → WW g i_Se_spotFor 0 Φ 0 0 34 [(0, .ref 68), (1, .int (nI p)), (2, .int (nI who)), (3, .int (nI t)), (4, .int (nI q)), (5, .int (pf w p 0)), (6, .int (pf w p 1)), (7, .int (-1)), (8, .int (nI s + 1))] [] μ6) ∧ (¬ r7 = -1 → WW g i_Se_spotFor 0 Φ 0 0 34 [(0, .ref 68), (1, .int (nI p)), (2, .int (nI who)), (3, .int (nI t)), (4, .int (nI q)), (5, .int (pf w p 0)), (6, .int (pf w p 1)), (7, .int (nI s)), (8, .int (nI s + 1))] [] μ6)) (fun e μ6 => rtM i_Se_spotFor Φ (.inr e) 0 0 μ6))) (fun e μ5 => rtM i_Se_spotFor Φ (.inr e) 0 0 μ5)) := by
      intro hok
      refine c_seat (by omega) (oV ?_)
      have c1 := CI_mov c' (p := p) (a := s / 10) (b := s % 10) (by omega) (by omega) (by omega)
      rw [mov_mov] at c1
      have eth1 : th (mov w p (nI (s / 10)) (nI (s % 10))) = th w := agS_th (mov_ag (by omega))
      refine c_tNow c1 (by omega) (by rw [eth1]; exact ht) (by omega) fun μ6 e6 => oI ?_
      have c6 := c1.lv (zT_scr e6)
      have e7 : Lz zQ μ6 = Lz zQ μ := (zT_Q e6).trans ((Lz_I rfl).trans ((Lz_I rfl).trans e))
      have hsp : spt w p who t q s = (tk0 (mov w p (nI (s / 10)) (nI (s % 10))) who t q p).isSome := by unfold spt; rw [hok]; rfl
      cases ht0 : tk0 (mov w p (nI (s / 10)) (nI (s % 10))) who t q p with
      | none =>
        refine ⟨fun _ => ?_, fun h => absurd rfl h⟩
        rw [← nI_succ]
        refine ih μ6 (s / 10) (s % 10) (by omega) (by omega) e7 c6 (Or.inr (by omega)) fun i hi => ?_
        by_cases q1 : i = s
        · rw [q1, hsp, ht0]; rfl
        · exact hn i (by omega)
      | some k =>
        have hk : k < 10 := by
          have : k < th (mov w p (nI (s / 10)) (nI (s % 10))) := by
            unfold tk0 at ht0
            split at ht0
            · cases ht0
            · exact tk_lt (by rw [eth1]; omega) ht0
          rw [eth1] at this; omega
        refine ⟨fun h => absurd h (fun e => nI_pos (n := k) (by omega) (by rw [show nI k = -1 from e]; decide)), fun _ => ?_⟩
        have hs1 : spt w p who t q s = true := by rw [hsp, ht0]; rfl
        have hov : ov (some s) = ov (spo w p who t q) := by unfold spo; rw [lo_eq hs hs1 hn, if_pos hs]
        refine v_Se_spotFor_34 ⟨fun _ => fin μ6 (s / 10) (s % 10) (some s) (by omega) (by omega) e7 c6 hov, fun _ => ⟨fun _ => fin μ6 (s / 10) (s % 10) (some s) (by omega) (by omega) e7 c6 hov, fun h => absurd h (fun e => nI_pos (n := s) (by omega) (by rw [show nI s = -1 from e]; decide))⟩⟩
    have skip : (decide (∀ o, o < pe w → o ≠ p → ¬ (pf w o 0 = nI (s / 10) ∧ pf w o 1 = nI (s % 10)))) = false → WW g i_Se_spotFor 0 Φ 0 0 34 [(0, .ref 68), (1, .int (nI p)), (2, .int (nI who)), (3, .int (nI t)), (4, .int (nI q)), (5, .int (pf w p 0)), (6, .int (pf w p 1)), (7, .int (-1)), (8, .int (nI s + 1))] [] μ' := by
      intro hno
      rw [← nI_succ]
      refine ih μ' a b ha hb e c' (by rcases hab with h | h
                                      · exact Or.inl h
                                      · exact Or.inr (by omega)) fun i hi => ?_
      by_cases q1 : i = s
      · rw [q1]; unfold spt; rw [hno]; rfl
      · exact hn i (by omega)
    have opf : ∀ o k, k < 6 → o ≠ p → pf (mov w p (nI a) (nI b)) o k = pf w o k := fun o k hk ho => by rw [mov_pf hk]; simp [ho]
    refine c_satd c' (oI ?_)
    by_cases hlt : lo (fun o => decide (pf (mov w p (nI a) (nI b)) o 0 = nI (s / 10) ∧ pf (mov w p (nI a) (nI b)) o 1 = nI (s % 10))) (pe (mov w p (nI a) (nI b))) < pe (mov w p (nI a) (nI b))
    · rw [if_pos hlt]
      have hy := lo_yes hlt
      have hbef := fun i (hi : i < lo (fun o => decide (pf (mov w p (nI a) (nI b)) o 0 = nI (s / 10) ∧ pf (mov w p (nI a) (nI b)) o 1 = nI (s % 10))) (pe (mov w p (nI a) (nI b)))) => lo_no hi
      generalize lo (fun o => decide (pf (mov w p (nI a) (nI b)) o 0 = nI (s / 10) ∧ pf (mov w p (nI a) (nI b)) o 1 = nI (s % 10))) (pe (mov w p (nI a) (nI b))) = r at *
      rw [epe] at hlt
      rw [decide_eq_true_eq] at hy
      refine ⟨fun h => absurd h (fun e => nI_pos (n := r) (by omega) (by rw [show nI r = -1 from e]; decide)), fun _ => ⟨fun h => skip (decide_eq_false fun hall => ?_), fun h => ⟨by decide, by decide, sit (decide_eq_true fun o ho hop hat => ?_)⟩⟩⟩
      · have hrp : r ≠ p := fun q1 => h (by show nI r = nI p; rw [q1])
        rw [opf r 0 (by decide) hrp, opf r 1 (by decide) hrp] at hy
        exact hall r hlt hrp hy
      · have hrp : r = p := nI_inj (by omega) (by omega) h
        subst hrp
        rw [mov_pf (by decide), mov_pf (by decide)] at hy
        simp at hy
        have e1 := nI_inj (by omega) (by omega) hy.1
        have e2 := nI_inj (by omega) (by omega) hy.2
        rcases hab with ⟨h1, h2⟩ | h1
        · have hx : pf w r 0 = pf w o 0 := by rw [hox, ← h1, hy.1, hat.1]
          have hy' : pf w r 1 = pf w o 1 := by rw [hoy, ← h2, hy.2, hat.2]
          rcases Nat.lt_or_ge o r with q1 | q1
          · exact hd r o hp q1 ⟨hx, hy'⟩
          · exact hd o r ho (by omega) ⟨hx.symm, hy'.symm⟩
        · omega
    · rw [if_neg hlt]
      refine ⟨fun _ => ⟨by decide, by decide, sit (decide_eq_true fun o ho hop hat => ?_)⟩, fun h => absurd rfl h⟩
      have hall := fun i (hi : i < lo (fun o => decide (pf (mov w p (nI a) (nI b)) o 0 = nI (s / 10) ∧ pf (mov w p (nI a) (nI b)) o 1 = nI (s % 10))) (pe (mov w p (nI a) (nI b)))) => lo_no hi
      have := hall o (by rw [epe] at hlt ⊢; omega)
      rw [opf o 0 (by decide) hop, opf o 1 (by decide) hop, decide_eq_false_iff_not] at this
      exact this hat
theorem m_sit (m : MW μ w) {x y : Int32} (H : ∀ o : Option Nat, (o = none → ∀ i, i < pe w → ¬ (pf w i 0 = x ∧ pf w i 1 = y)) → (∀ r, o = some r → r < pe w ∧ (pf w r 0 = x ∧ pf w r 1 = y) ∧ ∀ i, r < i → i < pe w → ¬ (pf w i 0 = x ∧ pf w i 1 = y)) → Φ (.inl (some (.int (ov o)))) μ) : Spec g i_Mo_sitter 0 [.ref 140, .int x, .int y] μ Φ := by
  have p10 := (wf_pe m.2.1).2
  refine spi o_Mo_sitter rfl (v_Mo_sitter_0 ?_)
  have key := zup (P := fun k => ∀ o : Option Nat, (o = none → ∀ i, i < k → ¬ (pf w i 0 = x ∧ pf w i 1 = y)) → (∀ r, o = some r → r < k ∧ (pf w r 0 = x ∧ pf w r 1 = y) ∧ ∀ i, r < i → i < k → ¬ (pf w i 0 = x ∧ pf w i 1 = y)) → WW g i_Mo_sitter 0 Φ 0 0 5 [(0, .ref 140), (1, .int x), (2, .int y), (3, .int (ov o)), (4, .int (nI k))] [] μ) (pe w) ?_ ?_
  · exact key none (fun _ i h => absurd h (Nat.not_lt_zero _)) fun r h => by cases h
  · intro o h1 h2
    exact v_Mo_sitter_5 (m_pe m (oI ⟨fun _ => H o h1 h2, fun h => absurd (nI_le (Nat.le_refl _) (by omega)) h⟩))
  · intro k hk ih o h1 h2
    have no : ¬ (pf w k 0 = x ∧ pf w k 1 = y) → WW g i_Mo_sitter 0 Φ 0 0 5 [(0, .ref 140), (1, .int x), (2, .int y), (3, .int (ov o)), (4, .int (nI k + 1))] [] μ := fun hn => by
      rw [← nI_succ]
      refine ih o (fun ho i hi => ?_) fun r hr => ?_
      · by_cases q : i = k
        · rw [q]; exact hn
        · exact h1 ho i (by omega)
      · obtain ⟨a, b, c⟩ := h2 r hr
        refine ⟨by omega, b, fun i hi hk2 => ?_⟩
        by_cases q : i = k
        · rw [q]; exact hn
        · exact c i hi (by omega)
    refine v_Mo_sitter_5 (m_pe m (oI ⟨fun h => absurd h (nI_ge hk (by omega)), fun _ => m_of (k := 0) m (by omega) (by decide) (oI ⟨fun h => no fun q => h q.1, fun hx => m_of (k := 1) m (by omega) (by decide) (oI ⟨fun h => no fun q => h q.2, fun hy => ?_⟩)⟩)⟩))
    rw [← nI_succ]
    refine ih (some k) (fun h => by cases h) fun r hr => ?_
    cases hr
    exact ⟨by omega, ⟨hx, hy⟩, fun i h3 h4 => by omega⟩
theorem m_hat (m : MW μ w) {p who t q a b : Nat} (hp : p < pe w) (hw : who < pe w) (hn : p ≠ who) (ht : t < th w) (hq : q < 6) (ha : a ≤ 9) (hb : b ≤ 9) (H : ∀ μ', Lz zW μ' = Lz zW μ → MW μ' w → Φ (.inl (some (.int (b2i (tk0 (mov w p (nI a) (nI b)) who t q p).isSome)))) μ') :
    Spec g i_Mo_isHeardAt 0 [.ref 140, .int (nI p), .int (nI who), .int (nI (6 * t + q)), .int (nI a), .int (nI b)] μ Φ := by
  have p10 := (wf_pe m.2.1).2
  have t10 := (wf_th m.2.1).2
  have e141 := mw_i m
  refine spi o_Mo_isHeardAt rfl (v_Mo_isHeardAt_0 ?_)
  refine m_of (k := 0) m (by omega) (by decide) (oI (m_of (k := 1) m (by omega) (by decide) (oI (m_at (k := 0) (oI ⟨vp_in_nI (by omega) (by decide), m_at (k := 1) (oI ⟨vp_in_nI (by omega) (by decide), ?_⟩)⟩)))))
  rw [nx_nI (by omega), nx_nI (by omega)]
  have m1 : MW (sI (sI μ 141 (19 + 6 * p + 0) (nI a)) 141 (19 + 6 * p + 1) (nI b)) (mov w p (nI a) (nI b)) := by
    refine ⟨Prod.ext ?_ ((mw_l m).trans rfl), mov_WF m.2 (by omega) ha hb⟩
    show mI (sI (sI μ 141 _ _) 141 _ _) 141 = _
    rw [rI_I, if_pos rfl, rI_I, if_pos rfl, e141]
    show _ = upd (upd w.1 (19 + 6 * p) (nI a)) (20 + 6 * p) (nI b)
    rw [show 19 + 6 * p + 1 = 20 + 6 * p by omega, Nat.add_zero]
  have et : th (mov w p (nI a) (nI b)) = th w := agS_th (mov_ag (by omega))
  refine m_tk m1 (by rw [et]; exact ht) hq (by omega) (by omega) fun f => oI ?_
  have ek : tk (mov w p (nI a) (nI b)) who t q p (kno (mov w p (nI a) (nI b)) p t) = tk0 (mov w p (nI a) (nI b)) who t q p := by unfold tk0; rw [if_neg hn]
  rw [ek]
  have fin : Φ (.inl (some (.int (b2i (tk0 (mov w p (nI a) (nI b)) who t q p).isSome)))) (sI (sI (sRI (sI (sI μ 141 (19 + 6 * p + 0) (nI a)) 141 (19 + 6 * p + 1) (nI b)) 149 f) 141 (19 + 6 * p + 0) (pf w p 0)) 141 (19 + 6 * p + 1) (pf w p 1)) := by
    refine H _ ((Lz_I rfl).trans ((Lz_I rfl).trans ((Lz_RI fun _ => rfl).trans ((Lz_I rfl).trans (Lz_I rfl))))) ⟨Prod.ext ?_ ((mw_l m).trans rfl), m.2⟩
    show mI (sI (sI (sRI (sI (sI μ 141 _ _) 141 _ _) 149 f) 141 _ _) 141 _ _) 141 = _
    rw [rI_I, if_pos rfl, rI_I, if_pos rfl, rI_RI, if_neg (by decide), rI_I, if_pos rfl, rI_I, if_pos rfl, e141]
    funext j
    by_cases h : j = 19 + 6 * p + 1
    · rw [h, upd_s]; rfl
    · rw [upd_n h]
      by_cases h2 : j = 19 + 6 * p + 0
      · rw [h2, upd_s]; rfl
      · rw [upd_n h2, upd_n h, upd_n h2]
  cases h0 : tk0 (mov w p (nI a) (nI b)) who t q p with
  | none =>
    rw [h0] at fin
    refine ⟨fun _ => m_at (k := 0) (oI ⟨vp_in_nI (by omega) (by decide), m_at (k := 1) (oI ⟨vp_in_nI (by omega) (by decide), ?_⟩)⟩), fun h => absurd (show (-1 : Int32) < 0 by decide) h⟩
    rw [nx_nI (by omega), nx_nI (by omega)]; exact ⟨Or.inl rfl, fin⟩
  | some k =>
    rw [h0] at fin
    have hk : k < th (mov w p (nI a) (nI b)) := by
      rw [← ek] at h0; exact tk_lt (by rw [et]; omega) h0
    rw [et] at hk
    refine ⟨fun h => absurd h (nI_nlt (a := k) (b := 0) (by omega) (by omega)), fun _ => m_at (k := 0) (oI ⟨vp_in_nI (by omega) (by decide), m_at (k := 1) (oI ⟨vp_in_nI (by omega) (by decide), ?_⟩)⟩)⟩
    rw [nx_nI (by omega), nx_nI (by omega)]; exact ⟨Or.inr rfl, fin⟩
theorem m_spo67 (m : MW μ w) (hd : DS w) {p who t q : Nat} (hp : p < pe w) (hw : who < pe w) (hn : p ≠ who) (ht : t < th w) (hq : q < 6) (H : ∀ μ', Lz zW μ' = Lz zW μ → MW μ' w → Φ (.inl (some (.int (ov (spo w p who t q))))) μ') :
    WW g i_Mo_spot 0 Φ 0 0 67 [(0, .ref 140), (1, .int (nI p)), (2, .int (nI who)), (3, .int (nI t)), (4, .int (nI q)), (5, .int 0)] [] μ := by
  have p10 := (wf_pe m.2.1).2
  have t10 := (wf_th m.2.1).2
  refine zup (P := fun s => ∀ μ', Lz zW μ' = Lz zW μ → MW μ' w → (∀ i, i < s → spt w p who t q i = false) → WW g i_Mo_spot 0 Φ 0 0 67 [(0, .ref 140), (1, .int (nI p)), (2, .int (nI who)), (3, .int (nI t)), (4, .int (nI q)), (5, .int (nI s))] [] μ') 100 ?_ ?_ μ rfl m fun i h => absurd h (Nat.not_lt_zero _)
  · intro μ' e m' hno
    have H := H μ' e m'
    unfold spo at H; rw [lo_none hno, if_neg (by decide)] at H
    exact v_Mo_spot_67 ⟨fun _ => H, fun h => absurd (nI_le (a := 100) (b := 100) (by decide) (by decide)) h⟩
  · intro s hs ih μ' e m' hno
    obtain ⟨d1, d2⟩ := s10 hs
    refine v_Mo_spot_67 ⟨fun h => absurd h (nI_ge (b := 100) hs (by decide)), fun _ => ⟨by decide, by decide, ?_⟩⟩
    rw [d2, d1]
    have skip : ∀ μ2, Lz zW μ2 = Lz zW μ' → MW μ2 w → spt w p who t q s = false → WW g i_Mo_spot 0 Φ 0 0 67 [(0, .ref 140), (1, .int (nI p)), (2, .int (nI who)), (3, .int (nI t)), (4, .int (nI q)), (5, .int (nI s + 1))] [] μ2 := by
      intro μ2 e2 m2 hz
      rw [← nI_succ]
      refine ih μ2 (e2.trans e) m2 fun i hi => ?_
      by_cases q1 : i = s
      · rw [q1]; exact hz
      · exact hno i (by omega)
    have go : decide (∀ o, o < pe w → o ≠ p → ¬ (pf w o 0 = nI (s / 10) ∧ pf w o 1 = nI (s % 10))) = true → Spec g i_Mo_isHeardAt 0 [.ref 140, .int (nI p), .int (nI who), .int (nI (6 * t + q)), .int (nI (s / 10)), .int (nI (s % 10))] μ' (onI (fun r6 μ5 => (r6 = 0 → WW g i_Mo_spot 0 Φ 0 0 67 [(0, .ref 140), (1, .int (nI p)), (2, .int (nI who)), (3, .int (nI t)), (4, .int (nI q)), (5, .int (nI s + 1))] [] μ5) ∧ (¬ r6 = 0 → Φ (.inl (some (.int (nI s)))) μ5)) (fun e μ5 => rtM i_Mo_spot Φ (.inr e) 0 0 μ5)) := by
      intro hok
      refine m_hat m' hp hw hn ht hq (by omega) (by omega) fun μ2 e2 m2 => oI ?_
      have hsp : spt w p who t q s = (tk0 (mov w p (nI (s / 10)) (nI (s % 10))) who t q p).isSome := by unfold spt; rw [hok]; rfl
      rw [← hsp]
      refine ⟨fun h => skip μ2 e2 m2 (b2i_0.mp h), fun h => ?_⟩
      have H := H μ2 (e2.trans e) m2
      unfold spo at H
      rw [lo_eq hs (b2i_n0.mp h) hno, if_pos hs] at H; exact H
    refine m_sit m' fun o h1 h2 => oI ?_
    cases o with
    | none => exact ⟨fun _ => m_so (oI ⟨by decide, by decide, go (decide_eq_true fun o ho _ => h1 rfl o ho)⟩), fun h => absurd (show (-1 : Int32) < 0 by decide) h⟩
    | some r =>
      obtain ⟨a1, a2, a3⟩ := h2 r rfl
      refine ⟨fun h => absurd h (nI_nlt (a := r) (b := 0) (by omega) (by omega)), fun _ => ⟨fun h => skip μ' rfl m' ?_, fun h => m_so (oI ⟨by decide, by decide, go (decide_eq_true fun o ho hop hat => ?_)⟩)⟩⟩
      · have hrp : r ≠ p := fun q1 => h (by show nI r = nI p; rw [q1])
        unfold spt
        rw [decide_eq_false fun hall => hall r a1 hrp a2]; rfl
      · have hrp : r = p := nI_inj (by omega) (by omega) h
        subst hrp
        rcases Nat.lt_or_ge o r with q1 | q1
        · exact hd r o hp q1 ⟨a2.1.trans hat.1.symm, a2.2.trans hat.2.symm⟩
        · exact a3 o (by omega) ho hat
end MJ
