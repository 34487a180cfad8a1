/-! the log, on both sides: rows, teachers, chains -/
theorem wf_rw {w : WD} (h : WFs w) {r : Nat} (hr : r < lg w) : WFr w r := h.2.2.2.2.2.2.2.2.2.2.2 r hr
/-- the newest row, from that one on, by which one learnt a thing -/
def row (w : WD) (p t f : Nat) : Option Nat := if lo (fun k => decide (f ≤ k) && decide (lw w k (5 + p) = nI t)) (lg w) < lg w then some (lo (fun k => decide (f ≤ k) && decide (lw w k (5 + p) = nI t)) (lg w)) else none
theorem row_some {w : WD} {p t f k : Nat} (hf : f ≤ k) (hk : k < lg w) (h : lw w k (5 + p) = nI t) (hn : ∀ i, f ≤ i → i < k → lw w i (5 + p) ≠ nI t) : row w p t f = some k := by
  unfold row
  rw [lo_eq (f := fun k => decide (f ≤ k) && decide (lw w k (5 + p) = nI t)) hk (by simp [hf, h]) fun i hi => ?_, if_pos hk]
  by_cases q : f ≤ i
  · simp [hn i q hi]
  · simp [q]
theorem row_none {w : WD} {p t f : Nat} (hn : ∀ i, f ≤ i → i < lg w → lw w i (5 + p) ≠ nI t) : row w p t f = none := by
  unfold row
  rw [lo_none fun i hi => ?_, if_neg (Nat.lt_irrefl _)]
  by_cases q : f ≤ i
  · simp [hn i q hi]
  · simp [q]
theorem row_is {w : WD} {p t f k : Nat} (h : row w p t f = some k) : f ≤ k ∧ k < lg w := by
  unfold row at h
  split at h
  · rename_i hl
    have := lo_yes hl
    rw [Option.some.inj h] at this hl
    rw [Bool.and_eq_true, decide_eq_true_eq] at this
    exact ⟨this.1, hl⟩
  · cases h
def byR (w : WD) (r : Nat) : Nat := nx (lw w r 1)
def syR (w : WD) (r : Nat) : Nat := nx (lw w r 2)
theorem wf_by {w : WD} (h : WFs w) {r : Nat} (hr : r < lg w) : lw w r 1 = nI (byR w r) ∧ byR w r < pe w := by
  obtain ⟨n, h1, h2⟩ := (wf_rw h hr).1
  have := (wf_pe h).2
  unfold byR; rw [h2, nx_nI (by omega)]; exact ⟨rfl, h1⟩
theorem wf_sy {w : WD} (h : WFs w) {r : Nat} (hr : r < lg w) : lw w r 2 = nI (syR w r) ∧ syR w r < 6 * th w := by
  obtain ⟨n, h1, h2⟩ := (wf_rw h hr).2.1
  have := (wf_th h).2
  unfold syR; rw [h2, nx_nI (by omega)]; exact ⟨rfl, h1⟩
/-- a chain, row by row -/
def chS (w : WD) (p t : Nat) : Nat → Nat × Option Nat
  | 0 => (p, row w p t 0)
  | k + 1 => match (chS w p t k).2 with
    | none => chS w p t k
    | some r => (byR w r, row w (byR w r) (syR w r / 6) (r + 1))
theorem chS_ge {w : WD} {p t : Nat} : ∀ {k r : Nat}, (∀ j, j < k → (chS w p t j).2.isSome = true) → (chS w p t k).2 = some r → k ≤ r ∧ r < lg w := by
  intro k
  induction k with
  | zero => intro r _ h; exact ⟨by omega, (row_is (f := 0) h).2⟩
  | succ k ih =>
    intro r hs h
    cases hk : (chS w p t k).2 with
    | none => have := hs k (by omega); rw [hk] at this; cases this
    | some r' =>
      have h1 := (ih (fun j hj => hs j (by omega)) hk).1
      have hd : chS w p t (k + 1) = (byR w r', row w (byR w r') (syR w r' / 6) (r' + 1)) := by
        show (match (chS w p t k).2 with | none => _ | some r => _) = _
        rw [hk]
      rw [hd] at h
      have := row_is h
      omega
/-- how long a chain is -/
def chN (w : WD) (p t : Nat) : Nat := lo (fun k => (chS w p t k).2.isNone) 61
def tau (w : WD) (p : Nat) : Nat := sm (fun r => if lw w r 1 = nI p then ct (bt (lw w r 3)) 10 else 0) (lg w)
def tcB (w : WD) (p : Nat) : Option Nat → Bool
  | none => decide (0 < tau w p)
  | some b => decide (tau w b < tau w p)
def tcS (w : WD) : Nat → Option Nat
  | 0 => none
  | p + 1 => if tcB w p (tcS w p) = true then some p else tcS w p
theorem tcS_is {w : WD} : ∀ {n b : Nat}, tcS w n = some b → b < n ∧ 0 < tau w b := by
  intro n
  induction n with
  | zero => intro b h; cases h
  | succ n ih =>
    intro b h
    have hd : tcS w (n + 1) = if tcB w n (tcS w n) = true then some n else tcS w n := rfl
    rw [hd] at h
    by_cases hb : tcB w n (tcS w n) = true
    · rw [if_pos hb] at h
      rw [← Option.some.inj h]
      refine ⟨by omega, ?_⟩
      cases hc : tcS w n with
      | none => rw [hc] at hb; exact of_decide_eq_true hb
      | some c => rw [hc] at hb; have : tau w c < tau w n := of_decide_eq_true hb; omega
    · rw [if_neg hb] at h
      have := ih h
      exact ⟨by omega, this.2⟩
theorem sm_rev : ∀ (n : Nat) {f : Nat → Nat}, sm (fun k => f (n - 1 - k)) n = sm f n := by
  have key : ∀ (f : Nat → Nat) n, sm (fun k => f (k + 1)) n + f 0 = sm f (n + 1) := by
    intro f n
    induction n with
    | zero => show 0 + f 0 = 0 + f 0; rfl
    | succ n ih => show sm (fun k => f (k + 1)) n + f (n + 1) + f 0 = sm f (n + 1) + f (n + 1); omega
  intro n
  induction n with
  | zero => intro f; rfl
  | succ n ih =>
    intro f
    show sm (fun k => f (n + 1 - 1 - k)) n + f (n + 1 - 1 - n) = _
    rw [show n + 1 - 1 - n = 0 by omega, ← key f n, ← ih (f := fun k => f (k + 1))]
    congr 1
    exact sm_cong fun i hi => by rw [show n + 1 - 1 - i = n - 1 - i + 1 by omega]
section MK
variable {g : Gl} {Φ : Out → Mem → Prop} {μ : Mem} {w : WD}
theorem wf_l60 (h : WFs w) : lg w ≤ 60 := (wf_lg h).2
theorem wf_lea (h : WFs w) {r p : Nat} (hr : r < lg w) (hp : p < 10) : (bt (lw w r 3) p = true → ∃ n, n < th w ∧ lw w r (5 + p) = nI n) ∧ (bt (lw w r 3) p = false → lw w r (5 + p) = -1) := (wf_rw h hr).2.2.2.2 p hp
theorem m_row (m : MW μ w) {p t f : Nat} (hp : p < 10) (ht : t < 10) (hf : f ≤ lg w) (H : Φ (.inl (some (.int (ov (row w p t f))))) μ) : Spec g i_Mo_rowOf 0 [.ref 140, .int (nI p), .int (nI t), .int (nI f)] μ Φ := by
  have l60 := wf_l60 m.2.1
  have e7 : mI μ 141 (nx 7) = nI (lg w) := by rw [mw_i m]; exact (wf_lg m.2.1).1
  refine spi o_Mo_rowOf rfl (v_Mo_rowOf_0 ?_)
  have key := zup (P := fun k => (∀ i, f ≤ i → i < f + k → lw w i (5 + p) ≠ nI t) → WW g i_Mo_rowOf 0 Φ 0 0 3 [(0, .ref 140), (1, .int (nI p)), (2, .int (nI t)), (4, .int (nI (f + k)))] [] μ) (lg w - f) ?_ ?_
  · exact key fun i h1 h2 => by omega
  · intro hn
    rw [row_none fun i h1 h2 => hn i h1 (by omega)] at H
    refine v_Mo_rowOf_3 ⟨vin 7 rfl, fun _ => H, fun h => absurd ?_ h⟩
    rw [e7]; exact nI_le (by omega) (by omega)
  · intro k hk ih hn
    have skip : lw w (f + k) (5 + p) ≠ nI t → WW g i_Mo_rowOf 0 Φ 0 0 3 [(0, .ref 140), (1, .int (nI p)), (2, .int (nI t)), (4, .int (nI (f + k) + 1))] [] μ := fun hne => by
      rw [← nI_succ]
      refine ih fun i h1 h2 => ?_
      by_cases q : i = f + k
      · rw [q]; exact hne
      · exact hn i h1 (by omega)
    refine v_Mo_rowOf_3 ⟨vin 7 rfl, fun h => absurd h (by rw [e7]; exact nI_ge (by omega) (by omega)), fun _ => m_olg (c := 3) m (by omega) (by decide) (oI (m_has (by omega) (oI ⟨fun h => skip ?_, fun h => ?_⟩)))⟩
    · rw [(wf_lea m.2.1 (by omega) hp).2 (b2i_0.mp h)]
      exact fun e => nI_pos (n := t) (by omega) (by rw [← e]; decide)
    · rw [show (5 : Int32) = nI 5 from rfl, nI_add]
      refine m_olg m (by omega) (by omega) (oI ⟨skip, fun h2 => ?_⟩)
      rw [row_some (by omega) (by omega) h2 fun i h3 h4 => hn i h3 h4] at H
      exact H
theorem m_chn70 (m : MW μ w) {p t : Nat} {d : Int32} (hp : p < pe w) (ht : t < th w) (H : Φ (.inl (some (.int (if d = 0 then nI (chN w p t) else nI (chS w p t (chN w p t)).1)))) μ) :
    WW g i_Mo_chain 0 Φ 0 0 70 [(0, .ref 140), (3, .int d), (4, .int 0), (5, .int (nI p)), (6, .int (ov (row w p t 0)))] [] μ := by
  have l60 := wf_l60 m.2.1
  have p10 := (wf_pe m.2.1).2
  have t10 := (wf_th m.2.1).2
  have key := zup (P := fun k => (∀ j, j < k → (chS w p t j).2.isSome = true) → WW g i_Mo_chain 0 Φ 0 0 70 [(0, .ref 140), (3, .int d), (4, .int (nI k)), (5, .int (nI (chS w p t k).1)), (6, .int (ov (chS w p t k).2))] [] μ) 61 ?_ ?_
  · exact key fun j h => absurd h (Nat.not_lt_zero _)
  · intro hs
    exfalso
    have h60 := hs 60 (by omega)
    obtain ⟨r, hr⟩ := Option.isSome_iff_exists.mp h60
    have := chS_ge (fun j hj => hs j (by omega)) hr
    omega
  · intro k hk ih hs
    cases hc : (chS w p t k).2 with
    | none =>
      have hN : chN w p t = k := lo_eq hk (by show (chS w p t k).2.isNone = true; rw [hc]; rfl) fun j hj => by
        show (chS w p t j).2.isNone = false
        have := hs j hj
        cases hcj : (chS w p t j).2 with
        | none => rw [hcj] at this; cases this
        | some r => rfl
      rw [hN] at H
      refine v_Mo_chain_70 ⟨fun _ => ⟨fun h => ?_, fun h => ?_⟩, fun h => absurd (show (-1 : Int32) < 0 by decide) h⟩
      · rw [if_pos h] at H; exact H
      · rw [if_neg h] at H; exact H
    | some r =>
      have hr := (chS_ge hs hc).2
      have hb := wf_by m.2.1 hr
      have hy := wf_sy m.2.1 hr
      have hd : chS w p t (k + 1) = (byR w r, row w (byR w r) (syR w r / 6) (r + 1)) := by
        show (match (chS w p t k).2 with | none => _ | some r => _) = _
        rw [hc]
      refine v_Mo_chain_70 ⟨fun h => absurd h (nI_nlt (a := r) (b := 0) (by omega) (by omega)), fun _ => m_olg (r := r) (c := 1) m (by omega) (by decide) (oI (m_olg (r := r) (c := 2) m (by omega) (by decide) (oI ⟨by decide, ?_⟩)))⟩
      rw [hb.1, hy.1, show (6 : Int32) = nI 6 from rfl, pk_div (by omega) (by decide) (by decide)]
      show Spec g i_Mo_rowOf 0 [.ref 140, .int (nI (byR w r)), .int (nI (syR w r / 6)), .int (nI r + 1)] μ _
      rw [← nI_succ]
      refine m_row m (by omega) (by omega) (by omega) (oI ?_)
      have := ih fun j hj => by
        by_cases q : j = k
        · rw [q, hc]; rfl
        · exact hs j (by omega)
      rw [hd, nI_succ] at this
      exact this
theorem ct10_lt {x : Int32} : ct (bt x) 10 ≤ 10 := ct_le _ _
theorem lrn_hi (h : WFs w) {r : Nat} (hr : r < lg w) : ∀ i, 10 ≤ i → i < 32 → bt (lw w r 3) i = false := fun i h1 h2 => (wf_rw h hr).2.2.1 i (by have := (wf_pe h).2; omega) h2
theorem tau_le (h : WFs w) {p : Nat} : tau w p ≤ 600 := by
  have l60 := wf_l60 h
  have := sm_le (f := fun r => if lw w r 1 = nI p then ct (bt (lw w r 3)) 10 else 0) (c := 10) (n := lg w) fun i _ => by
    show (if _ then _ else _) ≤ 10
    split
    · exact ct_le _ _
    · omega
  unfold tau; omega
theorem m_tau (m : MW μ w) {p : Nat} (hp : p < 10) (H : Φ (.inl (some (.int (nI (tau w p))))) μ) : Spec g i_Mo_taught 0 [.ref 140, .int (nI p)] μ Φ := by
  have l60 := wf_l60 m.2.1
  have e7 : mI μ 141 (nx 7) = nI (lg w) := by rw [mw_i m]; exact (wf_lg m.2.1).1
  refine spi o_Mo_taught rfl (v_Mo_taught_0 ?_)
  refine zup (P := fun k => WW g i_Mo_taught 0 Φ 0 0 4 [(0, .ref 140), (1, .int (nI p)), (2, .int (nI (sm (fun r => if lw w r 1 = nI p then ct (bt (lw w r 3)) 10 else 0) k))), (3, .int (nI k))] [] μ) (lg w) ?_ ?_
  · refine v_Mo_taught_4 ⟨vin 7 rfl, fun _ => H, fun h => absurd ?_ h⟩
    rw [e7]; exact nI_le (Nat.le_refl _) (by omega)
  · intro k hk ih
    have hd : sm (fun r => if lw w r 1 = nI p then ct (bt (lw w r 3)) 10 else 0) (k + 1) = sm (fun r => if lw w r 1 = nI p then ct (bt (lw w r 3)) 10 else 0) k + if lw w k 1 = nI p then ct (bt (lw w k 3)) 10 else 0 := rfl
    rw [hd, nI_succ] at ih
    refine v_Mo_taught_4 ⟨vin 7 rfl, fun h => absurd h (by rw [e7]; exact nI_ge hk (by omega)), fun _ => m_olg (c := 1) m (by omega) (by decide) (oI ⟨fun h => ?_, fun h => m_olg (c := 3) m (by omega) (by decide) (oI (c_bc (oI ?_)))⟩)⟩
    · rw [if_neg h] at ih
      rw [i_a0]; exact ih
    · rw [if_pos h, ← nI_add] at ih
      rw [bc_small (lrn_hi m.2.1 hk)]; exact ih
theorem m_tch (m : MW μ w) (H : Φ (.inl (some (.int (ov (tcS w (pe w)))))) μ) : WW g i_Mo_teacher 0 Φ 0 0 9 [(0, .ref 140), (1, .int (-1)), (2, .int 0)] [] μ := by
  have p10 := (wf_pe m.2.1).2
  have tl := fun p => tau_le m.2.1 (p := p)
  refine zup (P := fun k => WW g i_Mo_teacher 0 Φ 0 0 9 [(0, .ref 140), (1, .int (ov (tcS w k))), (2, .int (nI k))] [] μ) (pe w) ?_ ?_
  · exact v_Mo_teacher_9 (m_pe m (oI ⟨fun _ => H, fun h => absurd (nI_le (Nat.le_refl _) (by omega)) h⟩))
  · intro k hk ih
    have hd : tcS w (k + 1) = if tcB w k (tcS w k) = true then some k else tcS w k := rfl
    have hi := fun b => tcS_is (w := w) (n := k) (b := b)
    rw [hd, nI_succ] at ih
    have t1 := tl k
    refine v_Mo_teacher_9 (m_pe m (oI ⟨fun h => absurd h (nI_ge hk (by omega)), fun _ => m_tau m (by omega) (oI ?_)⟩))
    generalize tcS w k = o at *
    cases o with
    | none =>
      refine ⟨fun h => ?_, fun h => ⟨fun _ => ?_, fun h2 => absurd (show (-1 : Int32) < 0 by decide) h2⟩⟩
      · rw [show (0 : Int32) = nI 0 from rfl, nI_leI (by omega) (by omega)] at h
        rw [if_neg (by show ¬ decide (0 < tau w k) = true; rw [decide_eq_true_eq]; omega)] at ih; exact ih
      · rw [show (0 : Int32) = nI 0 from rfl, nI_leI (by omega) (by omega)] at h
        rw [if_pos (by show decide (0 < tau w k) = true; rw [decide_eq_true_eq]; omega)] at ih; exact ih
    | some b =>
      obtain ⟨hb, hb0⟩ := hi b rfl
      have t2 := tl b
      refine ⟨fun h => ?_, fun h => ⟨fun h2 => absurd h2 (nI_nlt (a := b) (b := 0) (by omega) (by omega)), fun _ => m_tau m (by omega) (oI (m_tau m (by omega) (oI ⟨fun h3 => ?_, fun h3 => ?_⟩)))⟩⟩
      · rw [show (0 : Int32) = nI 0 from rfl, nI_leI (by omega) (by omega)] at h
        rw [if_neg (by show ¬ decide (tau w b < tau w k) = true; rw [decide_eq_true_eq]; omega)] at ih; exact ih
      · rw [nI_leI (by omega) (by omega)] at h3
        rw [if_neg (by show ¬ decide (tau w b < tau w k) = true; rw [decide_eq_true_eq]; omega)] at ih; exact ih
      · rw [nI_leI (by omega) (by omega)] at h3
        rw [if_pos (by show decide (tau w b < tau w k) = true; rw [decide_eq_true_eq]; omega)] at ih; exact ih
end MK
