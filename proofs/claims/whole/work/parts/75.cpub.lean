/-! the class's face: teacher, dumb, exam, groups, margin -/
section CPUB
variable {g : Gl} {Φ : Out → Mem → Prop} {μ : Mem} {w : WD}
def mst (w : WD) : Option Nat → Nat
  | none => 0
  | some b => tau w b
theorem tcB_m {p : Nat} {o : Option Nat} : tcB w p o = decide (mst w o < tau w p) := by cases o <;> rfl
theorem C_teacher (c : CI μ w) (H : RC Φ μ w 0 0 (0, ov (tcS w (pe w)))) : Spec g i_SO_teacher 0 [.ref 0] μ Φ := by
  have p10 := ci_p10 c
  have tl := fun p => tau_le c.2.1 (p := p)
  refine spi o_SO_teacher rfl (v_SO_teacher_0 ?_)
  refine zup (P := fun k => WW g i_SO_teacher 0 Φ 0 0 6 [(0, .ref 0), (1, .int (ov (tcS w k))), (2, .int (nI (mst w (tcS w k)))), (3, .int (nI k))] [] μ) (pe w) ?_ ?_
  · exact v_SO_teacher_6 ⟨fun _ => RC_ok H rfl c, fun h => absurd (by rw [ci_pe c]; exact nI_le (Nat.le_refl _) (by omega)) h⟩
  · intro k hk ih
    have hd : tcS w (k + 1) = if tcB w k (tcS w k) = true then some k else tcS w k := rfl
    rw [hd, nI_succ, tcB_m] at ih
    have hm : mst w (tcS w k) ≤ 600 := by cases tcS w k with
      | none => exact Nat.zero_le _
      | some b => exact tl b
    have tk := tl k
    refine v_SO_teacher_6 ⟨fun h => absurd h (by rw [ci_pe c]; exact nI_ge hk (by omega)), fun _ => ?_⟩
    rw [ci_row c]
    refine c_tby c (by omega) (oI ?_)
    rw [nI_leI (by omega) (by omega)]
    refine ⟨fun h => ?_, fun h => ?_⟩
    · rw [if_neg (by rw [decide_eq_true_eq]; omega)] at ih; exact ih
    · rw [if_pos (by rw [decide_eq_true_eq]; omega)] at ih; exact ih
theorem kn_lf (h : WFs w) {p : Nat} (hp : p < 10) : pf w p 4 &&& msk (th w) (fun t => decide (¬ lf w t = 0)) = pf w p 4 &&& (msk (th w) (fun t => decide (lf w t = 0)) ^^^ (-1)) := by
  have t10 := (wf_th h).2
  apply b_ext; intro i hi
  rw [b_and, b_and, b_not hi, b_msk (by omega) hi, b_msk (by omega) hi]
  by_cases q : i < th w
  · simp [q]
  · rw [(h.2.2.2.2.2.2.2.1 p hp).2.2.2.2.1 i (by omega) hi]; rfl
theorem C_dumb (c : CI μ w) (H : RC Φ μ w 0 0 (0, msk (pe w) (dmb w))) : Spec g i_SO_dumb 0 [.ref 0] μ Φ := by
  have p10 := ci_p10 c
  refine spi o_SO_dumb rfl (v_SO_dumb_0 ?_)
  refine zup (P := fun k => WW g i_SO_dumb 0 Φ 0 0 4 [(0, .ref 0), (1, .int (msk k (dmb w))), (2, .int (nI k))] [] μ) (pe w) ?_ ?_
  · exact v_SO_dumb_4 ⟨fun _ => RC_ok H rfl c, fun h => absurd (by rw [ci_pe c]; exact nI_le (Nat.le_refl _) (by omega)) h⟩
  · intro k hk ih
    rw [nI_succ] at ih
    refine v_SO_dumb_4 ⟨fun h => absurd h (by rw [ci_pe c]; exact nI_ge hk (by omega)), fun _ => c_abs c (by omega) (oI ⟨fun h => ?_, fun h => ⟨vp_in_nI (by omega) (by decide), c_lTh c (oI ?_)⟩⟩)⟩
    · rw [b2i_n0] at h
      rw [msk_t (by unfold dmb; rw [h]; rfl)] at ih; exact ih
    · rw [b2i_0] at h
      rw [nx_nI (by omega), ci_kn c (by omega), kn_lf c.2.1 (by omega)]
      refine ⟨fun h2 => ?_, fun h2 => ?_⟩
      · rw [msk_f (by unfold dmb; rw [h, decide_eq_false h2]; rfl), or0] at ih; exact ih
      · rw [msk_t (by unfold dmb; rw [decide_eq_true h2]; simp)] at ih; exact ih
theorem ct_all {f : Nat → Bool} : ∀ {n : Nat}, ct f n = n ↔ ∀ i, i < n → f i = true := by
  intro n
  induction n with
  | zero => exact ⟨fun _ i h => absurd h (Nat.not_lt_zero _), fun _ => rfl⟩
  | succ n ih =>
    have hl := ct_le f n
    cases hf : f n with
    | true =>
      rw [ct_t hf]
      constructor
      · intro h i hi
        by_cases q : i = n
        · rw [q]; exact hf
        · exact ih.mp (by omega) i (by omega)
      · intro h; have := ih.mpr fun i hi => h i (by omega); omega
    | false =>
      rw [ct_f hf]
      constructor
      · intro h; omega
      · intro h; have := h n (by omega); rw [hf] at this; cases this
theorem lf_w0 (h : WFs w) {t : Nat} (ht : t < 10) : lf w t = wo w t ↔ ct (sai w t) 6 = 0 := by
  have w6 := (wf_wo h ht).2.1
  rw [lf_wo h ht, ct_all, ct_0]
  constructor
  · intro hh q hq
    cases hs : sai w t q with
    | false => rfl
    | true =>
      have h1 := h.2.2.2.2.2.2.2.2.2.1 t ht q hq hs
      have := hh q h1
      simp [hs] at this
  · intro hh q hq
    have := hh q (by omega)
    simp [this]
theorem C_exam (c : CI μ w) (H : RC Φ μ w 0 0 (0, exW w)) : Spec g i_SO_exam 0 [.ref 0] μ Φ := by
  have p10 := ci_p10 c
  have t10 := ci_t10 c
  refine spi o_SO_exam rfl (v_SO_exam_0 ?_)
  refine zup (P := fun k => WW g i_SO_exam 0 Φ 0 0 4 [(0, .ref 0), (1, .int (orf (fun p => if her w p then clo w 10 (pf w p 4) &&& (pf w p 4 ^^^ (-1)) else 0) k)), (2, .int (nI k))] [] μ) (pe w) ?_ ?_
  · refine v_SO_exam_4 ⟨fun _ => c_sTh c (oI ?_), fun h => absurd (by rw [ci_pe c]; exact nI_le (Nat.le_refl _) (by omega)) h⟩
    rw [show msk (th w) (fun t => decide (¬ ct (sai w t) 6 = 0)) = msk (th w) (fun t => !decide (lf w t = wo w t)) from msk_cong fun i hi => by
      rw [decide_not]; congr 1; exact decide_eq_decide.mpr (lf_w0 c.2.1 (by omega)).symm]
    exact RC_ok H rfl c
  · intro k hk ih
    refine v_SO_exam_4 ⟨fun h => absurd h (by rw [ci_pe c]; exact nI_ge hk (by omega)), fun _ => c_abs c (by omega) (oI ⟨fun h => ?_, fun h => ⟨vp_in_nI (by omega) (by decide), ?_⟩⟩)⟩
    · have h3 : her w k = false := by simpa using b2i_n0.mp h
      rw [orf_f (c := her w) (f := fun p => clo w 10 (pf w p 4) &&& (pf w p 4 ^^^ (-1))) h3, nI_succ, or0] at ih; exact ih
    · have h3 : her w k = true := by simpa using b2i_0.mp h
      rw [nx_nI (by omega), ci_kn c (by omega)]
      refine c_fol c (oI ⟨vp_in_nI (by omega) (by decide), ?_⟩)
      rw [ci_kn c (by omega)]
      rw [orf_t (c := her w) (f := fun p => clo w 10 (pf w p 4) &&& (pf w p 4 ^^^ (-1))) h3, nI_succ] at ih; exact ih
def fsj (w : WD) (k j : Nat) : Bool := decide (∀ q, q < j → q < k → ¬ pf w q 4 = pf w k 4)
theorem C_groups {a : Int32} (c : CI μ w) (H : RC Φ μ w 0 0 (0, if a = 0 then nI (gct w (pe w)) else nI (gmx w (pe w)))) : Spec g i_SO_groups 0 [.ref 0, .int a] μ Φ := by
  have p10 := ci_p10 c
  refine spi o_SO_groups rfl (v_SO_groups_0 ?_)
  refine zup (P := fun k => WW g i_SO_groups 0 Φ 0 0 7 [(0, .ref 0), (1, .int a), (2, .int (nI (gct w k))), (3, .int (nI (gmx w k))), (4, .int (nI k))] [] μ) (pe w) ?_ ?_
  · refine v_SO_groups_7 ⟨fun _ => ⟨fun h => ?_, fun h => ?_⟩, fun h => absurd (by rw [ci_pe c]; exact nI_le (Nat.le_refl _) (by omega)) h⟩
    · rw [if_pos h] at H; exact RC_ok H rfl c
    · rw [if_neg h] at H; exact RC_ok H rfl c
  · intro k hk ih
    have hd : gct w (k + 1) = gct w k + if frst w k then 1 else 0 := rfl
    have hd2 : gmx w (k + 1) = max (gmx w k) (ct (same w k) (pe w)) := rfl
    have gl := gmx_le (w := w) k
    have cl := ct_le (same w k) (pe w)
    rw [hd, hd2, nI_succ, ← mmax_nI (by omega) (by omega)] at ih
    refine v_SO_groups_7 ⟨fun h => absurd h (by rw [ci_pe c]; exact nI_ge hk (by omega)), fun _ => ?_⟩
    refine zup (P := fun j => WW g i_SO_groups 0 Φ 0 0 31 [(0, .ref 0), (1, .int a), (2, .int (nI (gct w k))), (3, .int (nI (gmx w k))), (4, .int (nI k)), (5, .int (nI (ct (same w k) j))), (6, .int (b2i (fsj w k j))), (7, .int (nI j))] [] μ) (pe w) ?_ ?_ |> fun key => by
      rw [show fsj w k 0 = true from decide_eq_true fun q h => absurd h (Nat.not_lt_zero _)] at key
      exact key
    · have hf : fsj w k (pe w) = frst w k := decide_eq_decide.mpr ⟨fun h q hq => h q (by omega) hq, fun h q _ hq => h q hq⟩
      rw [hf]
      refine v_SO_groups_31 ⟨fun _ => ⟨fun h => ?_, fun h => ?_⟩, fun h => absurd (by rw [ci_pe c]; exact nI_le (Nat.le_refl _) (by omega)) h⟩
      · rw [b2i_0.mp h] at ih
        rw [i_a0]; exact ih
      · rw [b2i_n0.mp h, if_pos rfl, nI_succ] at ih; exact ih
    · intro j hj ihj
      have vk := vp_in_nI (N := 10) (show k < 10 by omega) (by decide)
      have vj := vp_in_nI (N := 10) (show j < 10 by omega) (by decide)
      rw [nI_succ] at ihj
      refine v_SO_groups_31 ⟨fun h => absurd h (by rw [ci_pe c]; exact nI_ge hj (by omega)), fun _ => ⟨vk, vj, ?_⟩⟩
      rw [nx_nI (by omega), nx_nI (by omega), ci_kn c (by omega), ci_kn c (by omega)]
      refine ⟨fun h => ?_, fun h => ?_⟩
      · rw [ct_f (show same w k j = false from decide_eq_false fun e => h e.symm)] at ihj
        rw [show fsj w k (j + 1) = fsj w k j from decide_eq_decide.mpr ⟨fun hh q hq => hh q (by omega), fun hh q hq hk2 => by
          by_cases e : q = j
          · rw [e]; exact fun e2 => h e2.symm
          · exact hh q (by omega) hk2⟩] at ihj
        exact ihj
      · rw [ct_t (show same w k j = true from decide_eq_true h.symm), nI_succ] at ihj
        have no : fsj w k (j + 1) = false → WW g i_SO_groups 0 Φ 0 0 31 [(0, .ref 0), (1, .int a), (2, .int (nI (gct w k))), (3, .int (nI (gmx w k))), (4, .int (nI k)), (5, .int (nI (ct (same w k) j) + 1)), (6, .int 0), (7, .int (nI j + 1))] [] μ := fun e => by rw [e] at ihj; exact ihj
        refine ⟨fun h2 => no ?_, fun h2 => ⟨fun h3 => no ?_, fun h3 => ?_⟩⟩
        · have := of_decide_eq_false (b2i_0.mp h2)
          exact decide_eq_false fun hh => this fun q hq => hh q (by omega)
        · rw [nI_ltI (by omega) (by omega)] at h3
          exact decide_eq_false fun hh => hh j (by omega) h3 h.symm
        · rw [nI_ltI (by omega) (by omega)] at h3
          have := of_decide_eq_true (b2i_n0.mp h2)
          rw [show fsj w k (j + 1) = true from decide_eq_true fun q hq hk2 => this q (by omega) hk2] at ihj
          exact ihj
end CPUB
