/-! the reference's seats, spot -/
/-- nobody sits where another one sits -/
def DS (w : WD) : Prop := ∀ p q, p < pe w → q < p → ¬ (pf w p 0 = pf w q 0 ∧ pf w p 1 = pf w q 1)
theorem trd_WF {w : WD} {p q : Nat} (h : WF w) (hp : p < 10) (hq : q < 10) : WF (trd w p q) := by
  obtain ⟨a, a1, a2⟩ := wf_x h.1 hq
  obtain ⟨b, b1, b2⟩ := wf_y h.1 hq
  obtain ⟨d, d1, d2⟩ := wf_x h.1 hp
  obtain ⟨e, e1, e2⟩ := wf_y h.1 hp
  unfold trd
  rw [a2, b2, d2, e2]
  exact mov_WF (mov_WF h hp a1 b1) hq d1 e1
theorem trd_1 {w : WD} {p q : Nat} (hn : p ≠ q) (j : Nat) : (trd w p q).1 j = if j = 19 + 6 * p then pf w q 0 else if j = 20 + 6 * p then pf w q 1 else if j = 19 + 6 * q then pf w p 0 else if j = 20 + 6 * q then pf w p 1 else w.1 j := by
  show upd (upd (upd (upd w.1 (19 + 6 * p) (pf w q 0)) (20 + 6 * p) (pf w q 1)) (19 + 6 * q) (pf w p 0)) (20 + 6 * q) (pf w p 1) j = _
  by_cases h4 : j = 20 + 6 * q
  · subst h4; rw [upd_s, if_neg (by omega), if_neg (by omega), if_neg (by omega), if_pos rfl]
  rw [upd_n h4]
  by_cases h3 : j = 19 + 6 * q
  · subst h3; rw [upd_s, if_neg (by omega), if_neg (by omega), if_pos rfl]
  rw [upd_n h3]
  by_cases h2 : j = 20 + 6 * p
  · subst h2; rw [upd_s, if_neg (by omega), if_pos rfl]
  rw [upd_n h2]
  by_cases h1 : j = 19 + 6 * p
  · subst h1; rw [upd_s, if_pos rfl]
  rw [upd_n h1, if_neg h1, if_neg h2, if_neg h3, if_neg h4]
theorem trd_pf {w : WD} {p q r k : Nat} (hn : p ≠ q) (hk : k < 6) : pf (trd w p q) r k = if r = p ∧ k < 2 then pf w q k else if r = q ∧ k < 2 then pf w p k else pf w r k := by
  show (trd w p q).1 (19 + 6 * r + k) = _
  rw [trd_1 hn]
  by_cases a : r = p ∧ k < 2
  · rw [if_pos a]
    rcases (by omega : k = 0 ∨ k = 1) with e | e
    · subst e; rw [if_pos (by omega)]
    · subst e; rw [if_neg (by omega), if_pos (by omega)]
  rw [if_neg a, if_neg (by omega), if_neg (by omega)]
  by_cases b : r = q ∧ k < 2
  · rw [if_pos b]
    rcases (by omega : k = 0 ∨ k = 1) with e | e
    · subst e; rw [if_pos (by omega)]
    · subst e; rw [if_neg (by omega), if_pos (by omega)]
  rw [if_neg b, if_neg (by omega), if_neg (by omega)]; rfl
theorem trd_2 {w : WD} {p q : Nat} (hn : p ≠ q) : trd (trd w p q) p q = w := by
  refine Prod.ext ?_ rfl
  funext j
  rw [trd_1 hn, trd_pf hn (by decide), trd_pf hn (by decide), trd_pf hn (by decide), trd_pf hn (by decide)]
  by_cases h1 : j = 19 + 6 * p
  · rw [if_pos h1, if_neg (by omega), if_pos (by omega), h1]; rfl
  rw [if_neg h1]
  by_cases h2 : j = 20 + 6 * p
  · rw [if_pos h2, if_neg (by omega), if_pos (by omega), h2]; show w.1 (19 + 6 * p + 1) = _; exact congrArg w.1 (by omega)
  rw [if_neg h2]
  by_cases h3 : j = 19 + 6 * q
  · rw [if_pos h3, if_pos (by omega), h3]; rfl
  rw [if_neg h3]
  by_cases h4 : j = 20 + 6 * q
  · rw [if_pos h4, if_pos (by omega), h4]; show w.1 (19 + 6 * q + 1) = _; exact congrArg w.1 (by omega)
  rw [if_neg h4, trd_1 hn, if_neg h1, if_neg h2, if_neg h3, if_neg h4]
theorem trd_ag {w : WD} {p q : Nat} (hp : p < 10) (hq : q < 10) : agS w (trd w p q) := agS_tr (mov_ag hp) (mov_ag hq)
/-- how many hear if two have changed their seats -/
def msn (w : WD) (who t q p r : Nat) : Nat := ct (fun i => (tk0 (trd w p r) who t q i).isSome) (pe w)
def ms0 (w : WD) (who t q : Nat) : Nat := ct (fun i => (tk0 w who t q i).isSome) (pe w)
def stQ (w : WD) (who t q p : Nat) (s : Option Nat × Nat) : Nat → Option Nat × Nat
  | 0 => s
  | k + 1 => if (stQ w who t q p s k).2 < msn w who t q p (p + 1 + k) then (some (10 * p + (p + 1 + k)), msn w who t q p (p + 1 + k)) else stQ w who t q p s k
def stP (w : WD) (who t q : Nat) : Nat → Option Nat × Nat
  | 0 => (none, ms0 w who t q)
  | p + 1 => stQ w who t q p (stP w who t q p) (pe w - (p + 1))
section MI
variable {g : Gl} {Φ : Out → Mem → Prop} {μ : Mem} {w : WD}
theorem hrf_s {who t q p : Nat} : hrf w who t q false p = (tk0 w who t q p).isSome := by
  unfold hrf; cases tk0 w who t q p <;> rfl
theorem m_trd (m : MW μ w) {p q : Nat} (hp : p < 10) (hq : q < 10) (hn : p ≠ q) (H : ∀ μ', Lz zW μ' = Lz zW μ → MW μ' (trd w p q) → Φ (.inl none) μ') : Spec g i_Mo_trades 0 [.ref 140, .int (nI p), .int (nI q)] μ Φ := by
  have e141 := mw_i m
  refine spi o_Mo_trades rfl (v_Mo_trades_0 (v_Mo_trades_2 ⟨fun h => absurd h (by decide), fun _ => ?_⟩))
  refine m_of (k := 0) m hp (by decide) (oI (m_at (k := 0) (oI (m_of (k := 0) m hq (by decide) (oI ⟨vp_in_nI (by omega) (by decide), m_at (k := 0) (oI ⟨vp_in_nI (by omega) (by decide), ?_⟩)⟩)))))
  rw [nx_nI (by omega), nx_nI (by omega)]
  obtain ⟨a, a1, a2⟩ := wf_x m.2.1 hq
  obtain ⟨d, d1, d2⟩ := wf_x m.2.1 hp
  obtain ⟨b, b1, b2⟩ := wf_y m.2.1 hq
  obtain ⟨e, e1, e2⟩ := wf_y m.2.1 hp
  have hv : (mov (mov w p (nI a) (pf w p 1)) q (nI d) (pf w q 1)).1 = upd (upd w.1 (19 + 6 * p + 0) (pf w q 0)) (19 + 6 * q + 0) (pf w p 0) := by
    funext j
    show upd (upd (upd (upd w.1 (19 + 6 * p) (nI a)) (20 + 6 * p) (pf w p 1)) (19 + 6 * q) (nI d)) (20 + 6 * q) (pf w q 1) j = _
    rw [← a2, ← d2]
    by_cases h4 : j = 20 + 6 * q
    · subst h4; rw [upd_s, upd_n (by omega), upd_n (by omega)]; show w.1 (19 + 6 * q + 1) = _; exact congrArg w.1 (by omega)
    rw [upd_n h4]
    by_cases h3 : j = 19 + 6 * q
    · subst h3; rw [upd_s]; exact upd_s.symm
    rw [upd_n h3, upd_n (show j ≠ 19 + 6 * q + 0 by omega)]
    by_cases h2 : j = 20 + 6 * p
    · subst h2; rw [upd_s, upd_n (by omega)]; show w.1 (19 + 6 * p + 1) = _; exact congrArg w.1 (by omega)
    rw [upd_n h2]
    rfl
  have m1 : MW (sI (sI μ 141 (19 + 6 * p + 0) (pf w q 0)) 141 (19 + 6 * q + 0) (pf w p 0)) (mov (mov w p (nI a) (pf w p 1)) q (nI d) (pf w q 1)) := by
    refine ⟨Prod.ext ?_ ((mw_l m).trans rfl), ?_⟩
    · show mI (sI (sI μ 141 _ _) 141 _ _) 141 = _
      rw [hv, rI_I, if_pos rfl, rI_I, if_pos rfl, e141]
    · rw [e2, b2]; exact mov_WF (mov_WF m.2 hp a1 e1) hq d1 b1
  have epp : pf (mov (mov w p (nI a) (pf w p 1)) q (nI d) (pf w q 1)) p 1 = pf w p 1 := by
    rw [mov_pf (by decide), mov_pf (by decide)]; simp [hn]
  have epq : pf (mov (mov w p (nI a) (pf w p 1)) q (nI d) (pf w q 1)) q 1 = pf w q 1 := by
    rw [mov_pf (by decide)]; simp
  refine v_Mo_trades_2 ⟨fun h => absurd h (by decide), fun _ => ?_⟩
  refine m_of (k := 1) m1 hp (by decide) (oI (m_at (k := 1) (oI (m_of (k := 1) m1 hq (by decide) (oI ⟨vp_in_nI (by omega) (by decide), m_at (k := 1) (oI ⟨vp_in_nI (by omega) (by decide), ?_⟩)⟩)))))
  rw [nx_nI (by omega), nx_nI (by omega), epp, epq]
  refine v_Mo_trades_2 ⟨fun _ => H _ ((Lz_I rfl).trans ((Lz_I rfl).trans ((Lz_I rfl).trans (Lz_I rfl)))) ⟨Prod.ext ?_ ((mw_l m).trans rfl), trd_WF m.2 hp hq⟩, fun h => absurd (by decide) h⟩
  show mI (sI (sI (sI (sI μ 141 _ _) 141 _ _) 141 _ _) 141 _ _) 141 = _
  rw [rI_I, if_pos rfl, rI_I, if_pos rfl, rI_I, if_pos rfl, rI_I, if_pos rfl, e141]
  funext j
  rw [trd_1 hn]
  by_cases h4 : j = 20 + 6 * q
  · rw [h4, show 20 + 6 * q = 19 + 6 * q + 1 by omega, upd_s, if_neg (by omega), if_neg (by omega), if_neg (by omega), if_pos rfl]
  rw [upd_n (by omega)]
  by_cases h2 : j = 20 + 6 * p
  · rw [h2, show 20 + 6 * p = 19 + 6 * p + 1 by omega, upd_s, if_neg (by omega), if_pos rfl]
  rw [upd_n (by omega)]
  by_cases h3 : j = 19 + 6 * q
  · rw [h3, show 19 + 6 * q = 19 + 6 * q + 0 by omega, upd_s, if_neg (by omega), if_neg (by omega), if_pos rfl]
  rw [upd_n (by omega)]
  by_cases h1 : j = 19 + 6 * p
  · rw [h1, show 19 + 6 * p = 19 + 6 * p + 0 by omega, upd_s, if_pos rfl]
  rw [upd_n (by omega), if_neg h1, if_neg h2, if_neg h3, if_neg h4]
theorem ms_le {who t q p r : Nat} : msn w who t q p r ≤ pe w := ct_le _ _
theorem stQ_le {who t q p : Nat} {s : Option Nat × Nat} (h : s.2 ≤ pe w) (n : Nat) : (stQ w who t q p s n).2 ≤ pe w := by
  induction n with
  | zero => exact h
  | succ n ih => unfold stQ; split
                 · exact ct_le _ _
                 · exact ih
theorem stP_le {who t q : Nat} (n : Nat) : (stP w who t q n).2 ≤ pe w := by
  induction n with
  | zero => exact ct_le _ _
  | succ n ih => exact stQ_le ih _
theorem hrs_n (t10 : th w ≤ 10) (p10 : pe w ≤ 10) (m : MW μ w) {who t q : Nat} (ht : t < th w) (hq : q < 6) (hw : who < 10) {f : Int32 → Mem → Prop} {x : Nat → Mem → Prop} (H : ∀ h, f (nI (ms0 w who t q)) (sRI μ 149 h)) :
    Spec g i_Mo_hearers 0 [.ref 140, .int (nI (6 * t + q)), .int (nI who), .int 0] μ (onI (fun r5 μ4 => Spec g i_Int_bitCount 0 [.int r5] μ4 (onI f x)) x) := by
  refine m_hrs (right := false) m ht hq hw fun h => oI (c_bc (oI ?_))
  rw [bc_msk p10]
  have : ct (hrf w who t q false) (pe w) = ms0 w who t q := ct_cong fun i _ => hrf_s
  rw [this]; exact H h
theorem m_sts63 (m : MW μ w) {who t q : Nat} {d : Int32} (hw : who < pe w) (ht : t < th w) (hq : q < wo w t) (H : ∀ μ', Lz zW μ' = Lz zW μ → MW μ' w → Φ (.inl (some (.int (if d = 0 then ov (stP w who t q (pe w)).1 else nI (stP w who t q (pe w)).2)))) μ') :
    WW g i_Mo_seats 0 Φ 0 0 63 [(0, .ref 140), (1, .int (nI who)), (4, .int d), (5, .int (nI (6 * t + q))), (6, .int (-1)), (7, .int (nI (ms0 w who t q))), (8, .int 0)] [] μ := by
  have p10 := (wf_pe m.2.1).2
  have t10 := (wf_th m.2.1).2
  have w6 := (wf_wo m.2.1 (show t < 10 by omega)).2.1
  refine zup (P := fun p => ∀ μ', Lz zW μ' = Lz zW μ → MW μ' w → WW g i_Mo_seats 0 Φ 0 0 63 [(0, .ref 140), (1, .int (nI who)), (4, .int d), (5, .int (nI (6 * t + q))), (6, .int (ov (stP w who t q p).1)), (7, .int (nI (stP w who t q p).2)), (8, .int (nI p))] [] μ') (pe w) ?_ ?_ μ rfl m
  · intro μ' e m'
    have H := H μ' e m'
    refine v_Mo_seats_63 (m_pe m' (oI ⟨fun _ => ⟨fun h => ?_, fun h => ?_⟩, fun h => absurd (nI_le (Nat.le_refl _) (by omega)) h⟩))
    · rw [if_pos h] at H; exact H
    · rw [if_neg h] at H; exact H
  · intro p hp ihp μ1 e1 m1
    have hd : stP w who t q (p + 1) = stQ w who t q p (stP w who t q p) (pe w - (p + 1)) := rfl
    have hle := stP_le (w := w) (who := who) (t := t) (q := q) p
    rw [hd] at ihp
    generalize stP w who t q p = s at *
    refine v_Mo_seats_63 (m_pe m1 (oI ⟨fun h => absurd h (nI_ge hp (by omega)), fun _ => ?_⟩))
    have key := zup (P := fun k => ∀ μ', Lz zW μ' = Lz zW μ → MW μ' w → WW g i_Mo_seats 0 Φ 0 0 78 [(0, .ref 140), (1, .int (nI who)), (4, .int d), (5, .int (nI (6 * t + q))), (6, .int (ov (stQ w who t q p s k).1)), (7, .int (nI (stQ w who t q p s k).2)), (8, .int (nI p)), (9, .int (nI (p + 1 + k)))] [] μ') (pe w - (p + 1)) ?_ ?_ μ1 e1 m1
    · rw [Nat.add_zero, nI_succ] at key; exact key
    · intro μ' e m'
      refine v_Mo_seats_78 (m_pe m' (oI ⟨fun _ => ?_, fun h => absurd (nI_le (by omega) (by omega)) h⟩))
      rw [← nI_succ]; exact ihp μ' e m'
    · intro k hk ihk μ2 e2 m2
      have hdk : stQ w who t q p s (k + 1) = if (stQ w who t q p s k).2 < msn w who t q p (p + 1 + k) then (some (10 * p + (p + 1 + k)), msn w who t q p (p + 1 + k)) else stQ w who t q p s k := rfl
      have hle2 := stQ_le (who := who) (t := t) (q := q) (p := p) hle k
      rw [hdk, show p + 1 + (k + 1) = p + 1 + k + 1 by omega] at ihk
      generalize stQ w who t q p s k = u at *
      have hr : p + 1 + k < pe w := by omega
      have hpr : p ≠ p + 1 + k := by omega
      generalize p + 1 + k = r at *
      refine v_Mo_seats_78 (m_pe m2 (oI ⟨fun h => absurd h (nI_ge hr (by omega)), fun _ => ?_⟩))
      refine m_trd m2 (by omega) (by omega) hpr fun μ3 e3 m3 => oV ?_
      have et : th (trd w p r) = th w := agS_th (trd_ag (by omega) (by omega))
      have ep : pe (trd w p r) = pe w := agS_pe (trd_ag (by omega) (by omega))
      refine hrs_n (by rw [et]; exact t10) (by rw [ep]; exact p10) m3 (by rw [et]; exact ht) (by omega) (by omega) fun h => ?_
      have e0 : ms0 (trd w p r) who t q = msn w who t q p r := by unfold ms0 msn; rw [ep]
      rw [e0]
      have m3' := MW_149 m3 h
      refine m_trd m3' (by omega) (by omega) hpr fun μ4 e4 m4 => oV ?_
      rw [trd_2 hpr] at m4
      have e5 : Lz zW μ4 = Lz zW μ := e4.trans ((Lz_RI fun _ => rfl).trans (e3.trans e2))
      have hml := ms_le (w := w) (who := who) (t := t) (q := q) (p := p) (r := r)
      refine ⟨fun h2 => ?_, fun h2 => ?_⟩
      · rw [nI_ltI (by omega) (by omega)] at h2
        rw [if_pos h2, nI_succ] at ihk
        have := ihk μ4 e5 m4
        rw [show (10 : Int32) = nI 10 from rfl, pk_mul, nI_add]; exact this
      · rw [nI_ltI (by omega) (by omega)] at h2
        rw [if_neg h2, nI_succ] at ihk
        exact ihk μ4 e5 m4
end MI
