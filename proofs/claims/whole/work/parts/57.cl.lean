/-! contracts: countLast; the reference's goesThrough -/
section CL2
variable {g : Gl} {Φ : Out → Mem → Prop} {μ : Mem} {w : WD}
theorem or_b (a b : Bool) : b2i a ||| b2i b = b2i (a || b) := by cases a <;> cases b <;> decide
theorem c_tellA (c : CI μ w) {who : Nat} {s : MD × Bool} (hM : HM w μ s.1) (hw : who < pe w) (H : ∀ μ', Lz zL μ' = Lz zL μ → HM w μ' (tlT w who (s.1, false) (th w)).1 → Φ (.inl (some (.int (b2i (tlT w who (s.1, false) (th w)).2)))) μ') :
    Spec g i_Sch_tellAll 0 [.ref 3, .int (nI who)] μ Φ := by
  have t10 := ci_t10 c
  have p10 := ci_p10 c
  refine spi o_Sch_tellAll rfl (v_Sch_tellAll_0 ?_)
  refine zup (P := fun k => ∀ μ', Lz zL μ' = Lz zL μ → HM w μ' (tlT w who (s.1, false) k).1 → WW g i_Sch_tellAll 0 Φ 0 0 4 [(0, .ref 3), (1, .int (nI who)), (2, .int (b2i (tlT w who (s.1, false) k).2)), (3, .int (nI k))] [] μ') (th w) ?_ ?_ μ rfl hM
  · intro μ' e h
    exact v_Sch_tellAll_4 ⟨fun _ => ⟨b2i_or _, H μ' e h⟩, fun h2 => absurd (by rw [ci_th (c.lv (zL_scr e))]; exact nI_le (Nat.le_refl _) (by omega)) h2⟩
  · intro k hk ih μ' e h
    have w6 := (wf_wo c.2.1 (show k < 10 by omega)).2.1
    have hd : tlT w who (s.1, false) (k + 1) = tlQ w who k (tlT w who (s.1, false) k) (wo w k) := rfl
    rw [hd] at ih
    generalize tlT w who (s.1, false) k = u at *
    refine v_Sch_tellAll_4 ⟨fun h2 => absurd h2 (by rw [ci_th (c.lv (zL_scr e))]; exact nI_ge hk (by omega)), fun _ => ?_⟩
    refine zup (P := fun j => ∀ μ2, Lz zL μ2 = Lz zL μ → HM w μ2 (tlQ w who k u j).1 → WW g i_Sch_tellAll 0 Φ 0 0 18 [(0, .ref 3), (1, .int (nI who)), (2, .int (b2i (tlQ w who k u j).2)), (3, .int (nI k)), (4, .int (nI j))] [] μ2) (wo w k) ?_ ?_ μ' e h
    · intro μ2 e2 h2
      have c2 := c.lv (zL_scr e2)
      refine v_Sch_tellAll_18 ⟨vp_in_nI (by omega) (by decide), fun _ => ?_, fun h3 => absurd (by rw [nx_nI (by omega), ci_wo c2 (by omega)]; exact nI_le (Nat.le_refl _) (by omega)) h3⟩
      rw [← nI_succ]; exact ih μ2 e2 h2
    · intro j hj ihj μ2 e2 h2
      have c2 := c.lv (zL_scr e2)
      have hdj : tlQ w who k u (j + 1) = if bt ((tlQ w who k u j).1 who) k && lef w k j then (tl1 w who k j (tlQ w who k u j).1 (pe w), (tlQ w who k u j).2 || anyb (nwM w who k j (tlQ w who k u j).1) (pe w)) else tlQ w who k u j := rfl
      have eM : mI μ2 33 (nx (nI who)) = (tlQ w who k u j).1 who := by rw [nx_nI (by omega)]; exact h2 who hw
      rw [hdj] at ihj
      generalize tlQ w who k u j = x at *
      have no : (bt (x.1 who) k && lef w k j) = false → WW g i_Sch_tellAll 0 Φ 0 0 18 [(0, .ref 3), (1, .int (nI who)), (2, .int (b2i x.2)), (3, .int (nI k)), (4, .int (nI j + 1))] [] μ2 := fun hb => by
        rw [if_neg (by rw [hb]; decide), nI_succ] at ihj; exact ihj μ2 e2 h2
      refine v_Sch_tellAll_18 ⟨vp_in_nI (by omega) (by decide), fun h3 => absurd h3 (by rw [nx_nI (by omega), ci_wo c2 (by omega)]; exact nI_ge hj (by omega)), fun _ => ⟨vp_in_nI (by omega) (by decide), ?_⟩⟩
      rw [eM, tb0 (by omega)]
      refine ⟨fun h3 => no (by rw [h3]; rfl), fun h3 => c_isL c2 (by omega) (by omega) (oI ⟨fun h4 => no (by rw [b2i_0.mp h4]; simp), fun h4 => c_tell1 c2 h2 hw hk fun μ3 e3 h5 => oI ?_⟩)⟩
      rw [Bool.not_eq_false] at h3
      rw [if_pos (by rw [h3, b2i_n0.mp h4]; rfl), nI_succ] at ihj
      have := ihj μ3 (e3.trans e2) h5
      rw [← or_b] at this; exact this
/-- the flag goes through on its own -/
theorem tlQ_fl {who t : Nat} {M : MD} {b : Bool} (n : Nat) : (tlQ w who t (M, b) n).1 = (tlQ w who t (M, false) n).1 ∧ (tlQ w who t (M, b) n).2 = (b || (tlQ w who t (M, false) n).2) := by
  induction n with
  | zero => exact ⟨rfl, (Bool.or_false b).symm⟩
  | succ n ih =>
    obtain ⟨i1, i2⟩ := ih
    unfold tlQ
    rw [i1, i2]
    split
    · exact ⟨rfl, by simp [Bool.or_assoc]⟩
    · exact ⟨i1, i2⟩
theorem tlT_fl {who : Nat} {M : MD} {b : Bool} (n : Nat) : (tlT w who (M, b) n).1 = (tlT w who (M, false) n).1 ∧ (tlT w who (M, b) n).2 = (b || (tlT w who (M, false) n).2) := by
  induction n with
  | zero => exact ⟨rfl, (Bool.or_false b).symm⟩
  | succ n ih =>
    obtain ⟨i1, i2⟩ := ih
    have h1 : tlT w who (M, b) (n + 1) = tlQ w who n ((tlT w who (M, b) n).1, (tlT w who (M, b) n).2) (wo w n) := rfl
    have h2 : tlT w who (M, false) (n + 1) = tlQ w who n ((tlT w who (M, false) n).1, (tlT w who (M, false) n).2) (wo w n) := rfl
    rw [h1, h2, i1, i2]
    obtain ⟨a1, a2⟩ := tlQ_fl (w := w) (who := who) (t := n) (M := (tlT w who (M, false) n).1) (b := b || (tlT w who (M, false) n).2) (wo w n)
    obtain ⟨b1, b2⟩ := tlQ_fl (w := w) (who := who) (t := n) (M := (tlT w who (M, false) n).1) (b := (tlT w who (M, false) n).2) (wo w n)
    exact ⟨a1.trans b1.symm, by rw [a2, b2, Bool.or_assoc]⟩
theorem kn0 (h : WF w) : ∀ p i, 10 ≤ i → i < 32 → bt ((fun p => if p < 10 then pf w p 4 else 0) p) i = false := by
  intro p i h1 h2
  have t10 := (wf_th h.1).2
  show bt (if p < 10 then pf w p 4 else 0) i = false
  split
  · rename_i q; exact (h.1.2.2.2.2.2.2.2.1 p q).2.2.2.2.1 i (by omega) h2
  · exact b_0 i
/-- what people come to know at last -/
def KN (w : WD) : MD := fun p => if p < 10 then pf w p 4 else 0
def las (w : WD) : Nat := sm (fun t => if bt (orf (fun p => if her w p then itM w (KN w) 101 p else 0) (pe w)) t then lf w t else 0) (th w)
theorem c_las (c : CI μ w) (H : ∀ μ', Lz zL μ' = Lz zL μ → Φ (.inl (some (.int (nI (las w))))) μ') : Spec g i_Sch_countLast 0 [.ref 3] μ Φ := by
  have t10 := ci_t10 c
  have p10 := ci_p10 c
  have fin : ∀ μ', Lz zL μ' = Lz zL μ → HM w μ' (itM w (KN w) 101) → WW g i_Sch_countLast 0 Φ 0 0 90 [(0, .ref 3), (2, .int 0), (3, .int 0)] [] μ' := by
    intro μ' e h
    have c' := c.lv (zL_scr e)
    refine zup (P := fun k => WW g i_Sch_countLast 0 Φ 0 0 90 [(0, .ref 3), (2, .int (orf (fun p => if her w p then itM w (KN w) 101 p else 0) k)), (3, .int (nI k))] [] μ') (pe w) ?_ ?_
    · exact v_Sch_countLast_90 ⟨fun _ => c_cLO c' (oI (H μ' e)), fun h2 => absurd (by rw [ci_pe c']; exact nI_le (Nat.le_refl _) (by omega)) h2⟩
    · intro k hk ih
      refine v_Sch_countLast_90 ⟨fun h2 => absurd h2 (by rw [ci_pe c']; exact nI_ge hk (by omega)), fun _ => c_abs c' (by omega) (oI ⟨fun h2 => ⟨vp_in_nI (by omega) (by decide), ?_⟩, fun h2 => ?_⟩)⟩
      · rw [nx_nI (by omega), h k hk]
        rw [b2i_0, Bool.not_eq_false'] at h2
        rw [orf_t (c := her w) (f := fun p => itM w (KN w) 101 p) h2, nI_succ] at ih; exact ih
      · rw [b2i_n0] at h2
        have h3 : her w k = false := by simpa using h2
        rw [orf_f (c := her w) (f := fun p => itM w (KN w) 101 p) h3, nI_succ] at ih; exact ih
  refine spi o_Sch_countLast rfl (v_Sch_countLast_0 ⟨acp0 (n := 10) rfl, ?_⟩)
  have start : HM w (sRI μ 33 (va_cpy (mI μ 12) (mI μ 33) (nx 0) (nx 0) (nx 10))) (itM w (KN w) 0) := by
    intro p hp
    rw [rI_RI, if_pos rfl]
    have := cpI (f := mI μ 12) (g := mI μ 33) (n := 10) (j := p) (by decide) (by omega)
    rw [show (10 : Int32) = nI 10 from rfl, this, ci_kn c (by omega)]
    show _ = if p < 10 then pf w p 4 else 0
    rw [if_pos (by omega)]
  refine zup (P := fun r => ∀ μ', Lz zL μ' = Lz zL μ → HM w μ' (itM w (KN w) r) → (∀ j, j < r → (rdM w (itM w (KN w) j)).2 = true) → WW g i_Sch_countLast 0 Φ 0 0 22 [(0, .ref 3), (1, .int 1), (2, .int (nI r))] [] μ') 101 ?_ ?_ _ (Lz_RI fun _ => rfl) start fun j h => absurd h (Nat.not_lt_zero _)
  · intro μ' e h hm
    have := itM_ms t10 (M := KN w) 101 hm
    have := msM_le p10 (itM w (KN w) 101)
    omega
  · intro r hr ih μ' e h hm
    have c' := c.lv (zL_scr e)
    refine v_Sch_countLast_22 ⟨fun h2 => absurd h2 (nI_nlt (a := 100) (b := r) (by omega) (by decide)), fun _ => ⟨fun h2 => absurd h2 (by decide), fun _ => ?_⟩⟩
    have hrd : ∀ n, tlP w (itM w (KN w) r, false) (n + 1) = if her w n then tlT w n (tlP w (itM w (KN w) r, false) n) (th w) else tlP w (itM w (KN w) r, false) n := fun n => rfl
    refine zup (P := fun k => ∀ μ2, Lz zL μ2 = Lz zL μ → HM w μ2 (tlP w (itM w (KN w) r, false) k).1 → WW g i_Sch_countLast 0 Φ 0 0 36 [(0, .ref 3), (1, .int (b2i (tlP w (itM w (KN w) r, false) k).2)), (2, .int (nI r)), (3, .int (nI k))] [] μ2) (pe w) ?_ ?_ μ' e h
    · intro μ2 e2 h2
      refine v_Sch_countLast_36 ⟨fun _ => ?_, fun h3 => absurd (by rw [ci_pe (c.lv (zL_scr e2))]; exact nI_le (Nat.le_refl _) (by omega)) h3⟩
      have h2' : HM w μ2 (itM w (KN w) (r + 1)) := h2
      rw [← nI_succ]
      cases hm2 : (rdM w (itM w (KN w) r)).2 with
      | true =>
        have : (tlP w (itM w (KN w) r, false) (pe w)).2 = true := hm2
        rw [this]
        refine ih μ2 e2 h2' fun j hj => ?_
        by_cases q : j = r
        · rw [q]; exact hm2
        · exact hm j (by omega)
      | false =>
        have : (tlP w (itM w (KN w) r, false) (pe w)).2 = false := hm2
        rw [this]
        have hst : itM w (KN w) 101 = itM w (KN w) (r + 1) := by
          rw [itM_st t10 hm2 101 (by omega), itM_st t10 hm2 (r + 1) (by omega)]
        have f := fin μ2 e2 (by rw [hst]; exact h2')
        exact v_Sch_countLast_22 ⟨fun _ => f, fun _ => ⟨fun _ => f, fun h3 => absurd rfl h3⟩⟩
    · intro k hk ihk μ2 e2 h2
      have c2 := c.lv (zL_scr e2)
      rw [hrd] at ihk
      generalize tlP w (itM w (KN w) r, false) k = u at *
      refine v_Sch_countLast_36 ⟨fun h3 => absurd h3 (by rw [ci_pe c2]; exact nI_ge hk (by omega)), fun _ => c_abs c2 (by omega) (oI ⟨fun h3 => ?_, fun h3 => c_tellA c2 (s := u) h2 hk fun μ3 e3 h4 => oI ?_⟩)⟩
      · rw [b2i_n0] at h3
        have h5 : her w k = false := by simpa using h3
        rw [if_neg (by rw [h5]; decide), nI_succ] at ihk
        rw [or0]; exact ihk μ2 e2 h2
      · rw [b2i_0, Bool.not_eq_false'] at h3
        obtain ⟨f1, f2⟩ := tlT_fl (w := w) (who := k) (M := u.1) (b := u.2) (th w)
        rw [if_pos h3, nI_succ] at ihk
        have h6 : HM w μ3 (tlT w k u (th w)).1 := by
          have : (tlT w k u (th w)).1 = (tlT w k (u.1, false) (th w)).1 := f1
          rw [this]; exact h4
        have := ihk μ3 (e3.trans e2) h6
        have h7 : (tlT w k u (th w)).2 = (u.2 || (tlT w k (u.1, false) (th w)).2) := f2
        rw [h7, ← or_b] at this
        refine ⟨fun h8 => ?_, fun h8 => ?_⟩
        · rw [h8] at this; exact this
        · rw [b2i_n0.mp h8] at this; exact this
end CL2
