/-! undo, image, back, seed, feed, end -/
def und (v w : WD) : WD := (fun j => if j < 1015 then v.1 j else w.1 j, v.2)
def bck (v w : WD) : WD := (fun j => if j < 1864 then v.1 j else w.1 j, v.2)
theorem bck_E {v w : WD} : E18 v (bck v w) := ⟨fun j hj => if_pos hj, rfl⟩
theorem und_E {v w : WD} (h : suA v w) : E18 v (und v w) := ⟨fun j hj => by
  show (if j < 1015 then v.1 j else w.1 j) = v.1 j
  by_cases q : j < 1015
  · rw [if_pos q]
  · rw [if_neg q]; exact h j hj (by omega) (by omega) (by omega) (by omega) (by omega), rfl⟩
section UNDX
variable {v w : WD} {b : Nat} {μ : Mem}
theorem suA_ln (h : suA v w) {n k : Nat} (hn : n < 12) (hk : k < 4) : ln w n k = ln v n k := h _ (by omega) (by omega) (by omega) (by omega) (by omega) (by omega)
theorem suA_cod (h : suA v w) {i : Nat} (hi : i < 400) : cod w i = cod v i := by unfold cod; rw [h (1064 + 2 * i) (by omega) (by omega) (by omega) (by omega) (by omega) (by omega), h (1065 + 2 * i) (by omega) (by omega) (by omega) (by omega) (by omega) (by omega)]
theorem suA_li (h : suA v w) : li w = li v := by unfold li; rw [h 4 (by omega) (by omega) (by omega) (by omega) (by omega) (by omega), h 1015 (by omega) (by omega) (by omega) (by omega) (by omega) (by omega)]
theorem suA_cle (h : suA v w) (hw : WF v) : cle w = cle v := by
  have := li_12 hw.2
  unfold cle
  rw [suA_li h]
  split
  · rfl
  · exact congrArg nx (suA_ln h (by omega) (by omega))
theorem RSet_suA (h : suA v w) (k : RSet b μ w) : RSet b μ v := by
  obtain ⟨a1, a2, a3, a4, a5, a6, a7, a8⟩ := k
  have e : ∀ j, j < 1864 → j ≠ 5 → j ≠ 7 → j ≠ 8 → ¬ (115 ≤ j ∧ j < 1015) → ¬ (19 ≤ j ∧ j < 79 ∧ ((j - 19) % 6 = 0 ∨ (j - 19) % 6 = 1 ∨ (j - 19) % 6 = 4 ∨ (j - 19) % 6 = 5)) → v.1 j = w.1 j := fun j b1 b2 b3 b4 b5 b6 => (h j b1 b2 b3 b4 b5 b6).symm
  refine ⟨?_, ?_, ?_, ?_, ?_, fun t ht => ?_, fun p hp => ?_, fun k hk => ?_⟩
  · rw [e 0 (by omega) (by omega) (by omega) (by omega) (by omega) (by omega)]; exact a1
  · rw [e 1 (by omega) (by omega) (by omega) (by omega) (by omega) (by omega)]; exact a2
  · rw [e 2 (by omega) (by omega) (by omega) (by omega) (by omega) (by omega)]; exact a3
  · rw [e 6 (by omega) (by omega) (by omega) (by omega) (by omega) (by omega)]; exact a4
  · rw [e 3 (by omega) (by omega) (by omega) (by omega) (by omega) (by omega)]; exact a5
  · rw [e (9 + t) (by omega) (by omega) (by omega) (by omega) (by omega) (by omega)]; exact a6 t ht
  · have e2 : pf v p 2 = pf w p 2 := e _ (by omega) (by omega) (by omega) (by omega) (by omega) (by omega)
    have e3 : pf v p 3 = pf w p 3 := e _ (by omega) (by omega) (by omega) (by omega) (by omega) (by omega)
    rw [e2, e3]; exact a7 p hp
  · rw [e (79 + 3 * k) (by omega) (by omega) (by omega) (by omega) (by omega) (by omega), e (79 + 3 * k + 1) (by omega) (by omega) (by omega) (by omega) (by omega) (by omega), e (79 + 3 * k + 2) (by omega) (by omega) (by omega) (by omega) (by omega) (by omega)]; exact a8 k hk
theorem RLaw_suA (h : suA v w) (hv : WF v) (k : RLaw b μ w) : RLaw b μ v := by
  have l12 := li_12 hv.2
  have c400 := cle_400 hv
  obtain ⟨a1, a2, a3, a4⟩ := k
  refine ⟨?_, ?_, fun n hn => ?_, fun i hi => ?_⟩
  · rw [← h 4 (by omega) (by omega) (by omega) (by omega) (by omega) (by omega), ← h 1015 (by omega) (by omega) (by omega) (by omega) (by omega) (by omega)]; exact a1
  · rw [← suA_cle h hv]; exact a2
  · rw [← suA_ln h (by omega) (by omega), ← suA_ln h (by omega) (by omega), ← suA_ln h (by omega) (by omega)]
    exact a3 n (by rw [suA_li h]; exact hn)
  · rw [← suA_cod h (by omega)]; exact a4 i (by rw [suA_cle h hv]; exact hi)
theorem RLog_LS (h : LGS v w) (k : RLog b μ w) : RLog b μ v := by
  refine ⟨fun r hr => ?_, k.2⟩
  have hl := h.1
  obtain ⟨a1, a2, a3, a4, a5, a6⟩ := k.1 (lg w - lg v + r) (by omega)
  rw [show lg w - 1 - (lg w - lg v + r) = lg v - 1 - r by omega] at a1 a2 a3 a4 a5 a6
  rw [h.2 r hr 0 (by omega), h.2 r hr 1 (by omega), h.2 r hr 2 (by omega), h.2 r hr 3 (by omega), h.2 r hr 4 (by omega)]
  exact ⟨a1, a2, a3, a4, a5, fun p hp hb => by rw [h.2 r hr (5 + p) (by omega)]; exact a6 p hp hb⟩
theorem LS_tr {u : WD} (h : LGS v w) (k : LGS w u) : LGS v u := ⟨Nat.le_trans h.1 k.1, fun r hr c hc => by
  have h1 := h.1
  have k1 := k.1
  rw [h.2 r hr c hc, k.2 _ (by omega) c hc, show lg u - lg w + (lg w - lg v + r) = lg u - lg v + r by omega]⟩
theorem LS_E {u : WD} (h : LGS v w) (k : E18 w u) (hl : lg w ≤ 60) : LGS v u := by
  have h1 := h.1
  unfold LGS
  rw [E_lg k]
  exact ⟨h.1, fun r hr c hc => by rw [E_lw k (by omega) hc]; exact h.2 r hr c hc⟩
theorem suA_E {u : WD} (h : suA v w) (k : E18 w u) : suA v u := fun j a b c d e f => (k.1 j a).trans (h j a b c d e f)
theorem suA_tr {u : WD} (h : suA v w) (k : suA w u) : suA v u := fun j a b c d e f => (k j a b c d e f).trans (h j a b c d e f)
theorem suS_A (h : suS v w) : suA v w := fun j a b c d e f => h j b c d e f
/-- between two remembered -/
theorem LS_mid {u : WD} (h : LGS v w) (k : LGS u w) (hl : lg v ≤ lg u) : LGS v u := ⟨hl, fun r hr c hc => by
  have h1 := h.1
  have k1 := k.1
  rw [h.2 r hr c hc, k.2 _ (by omega) c hc]
  congr 1; omega⟩
theorem suA_mid {u : WD} (h : suA v w) (k : suA u w) : suA v u := fun j a b c d e f => (k j a b c d e f).symm.trans (h j a b c d e f)
theorem LS_rfl : LGS w w := ⟨Nat.le_refl _, fun r hr c hc => by rw [Nat.sub_self, Nat.zero_add]⟩
theorem suA_rfl : suA w w := fun _ _ _ _ _ _ _ => rfl
theorem PST_E {r : Nat} {V : Nat → WD} {u : WD} (h : PST r V w) (k : E18 w u) (hl : lg w ≤ 60) : PST r V u :=
  ⟨fun i hi => ⟨(h.1 i hi).1, (h.1 i hi).2.1, suA_E (h.1 i hi).2.2.1 k, LS_E (h.1 i hi).2.2.2 k hl⟩, h.2⟩
theorem PST_st {r : Nat} {V : Nat → WD} {u : WD} (h : PST r V w) (k : suA w u) (l : LGS w u) : PST r V u :=
  ⟨fun i hi => ⟨(h.1 i hi).1, (h.1 i hi).2.1, suA_tr (h.1 i hi).2.2.1 k, LS_tr (h.1 i hi).2.2.2 l⟩, h.2⟩
/-- an act more -/
theorem PST_nr {r : Nat} {V : Nat → WD} {u : WD} (hr : r ≤ 12) (h : PST r V w) (hw : WF w) (hd : DS w) (k : suA w u) (l : LGS w u) : PST (nr r) (nV r V w) u := by
  have key : PST (nr r) (nV r V w) w := by
    unfold nr nV
    by_cases e : r = 12
    · rw [if_pos e]
      refine ⟨fun i hi => ?_, fun i j hij hj => ?_⟩
      · dsimp only
        rw [if_pos e]
        by_cases q : i = 11
        · rw [if_pos q]; exact ⟨hw, hd, suA_rfl, LS_rfl⟩
        · rw [if_neg q]; exact h.1 _ (by omega)
      · dsimp only
        rw [if_pos e, if_pos e]
        by_cases q : j = 11
        · rw [if_pos q]
          by_cases q2 : i = 11
          · rw [if_pos q2]; exact Nat.le_refl _
          · rw [if_neg q2]; exact (h.1 (i + 1) (by omega)).2.2.2.1
        · rw [if_neg q, if_neg (by omega)]; exact h.2 _ _ (by omega) (by omega)
    · rw [if_neg e]
      refine ⟨fun i hi => ?_, fun i j hij hj => ?_⟩
      · dsimp only
        rw [if_neg e]
        by_cases q : i = r
        · rw [if_pos q]; exact ⟨hw, hd, suA_rfl, LS_rfl⟩
        · rw [if_neg q]; exact h.1 _ (by omega)
      · dsimp only
        rw [if_neg e, if_neg e]
        by_cases q : j = r
        · rw [if_pos q]
          by_cases q2 : i = r
          · rw [if_pos q2]; exact Nat.le_refl _
          · rw [if_neg q2]; exact (h.1 i (by omega)).2.2.2.1
        · rw [if_neg q, if_neg (by omega)]; exact h.2 _ _ (by omega) (by omega)
  exact PST_st key k l
/-- an act less -/
theorem PST_un {k : Nat} {V : Nat → WD} (h : PST (k + 1) V w) : WF (und (V k) w) ∧ DS (und (V k) w) ∧ PST k V (und (V k) w) := by
  obtain ⟨h1, h2, h3, h4⟩ := h.1 k (by omega)
  have e := und_E h3
  have hl := wf_l60 h1.1
  refine ⟨E_WF e h1, E_DS e (wf_pe h1.1).2 h2, fun i hi => ?_, fun i j hij hj => h.2 i j hij (by omega)⟩
  obtain ⟨k1, k2, k3, k4⟩ := h.1 i (by omega)
  exact ⟨k1, k2, suA_E (suA_mid k3 h3) e, LS_E (LS_mid k4 h4 (h.2 i k (by omega) (by omega))) e hl⟩
end UNDX
def zI (k j : Nat) : Bool := (Nat.ble 35 k && Nat.ble k 59) || (Nat.beq k 0 && Nat.beq j 9)
def zIm (k j : Nat) : Bool := Nat.beq k 142 || (Nat.beq k 140 && (Nat.beq j 7 || (Nat.beq j 11 || Nat.beq j 0)))
def zBk (k j : Nat) : Bool := Nat.beq k 141 || (Nat.beq k 140 && (Nat.beq j 6 || (Nat.beq j 12 || Nat.beq j 0)))
theorem zR_I {a n : Nat} {μ μ' : Mem} (h1 : 35 ≤ a) (h2 : a + n ≤ 59) (e : Lz (zR a n) μ' = Lz (zR a n) μ) : Lz zI μ' = Lz zI μ := Lz_up (fun k j h => by
  unfold zR at h; unfold zI
  simp only [Bool.or_eq_true, Bool.and_eq_true, Nat.ble_eq, Nat.beq_eq] at h ⊢
  omega) e
theorem zR_N {a n : Nat} {μ μ' : Mem} (h1 : 4 ≤ a) (h2 : a + n ≤ 28) (e : Lz (zR a n) μ' = Lz (zR a n) μ) : Lz zN μ' = Lz zN μ := Lz_up (fun k j h => by
  unfold zR at h; unfold zN
  simp only [Bool.or_eq_true, Bool.and_eq_true, Nat.ble_eq, Nat.beq_eq] at h ⊢
  omega) e
section UND
variable {g : Gl} {Φ : Out → Mem → Prop} {μ : Mem} {w : WD} {r : Nat} {V : Nat → WD}
theorem C_undo0 (ac : ACTC μ 0 V) (H : Φ (.inl (some (.int 0))) μ) : Spec g i_SO_undo 0 [.ref 0] μ Φ :=
  spi o_SO_undo rfl (v_SO_undo_0 ⟨fun h => absurd ac.2.1 h, fun _ => z01 H⟩)
theorem C_undo {k : Nat} (c : CI μ w) (ac : ACTC μ (k + 1) V) (ps : PST (k + 1) V w) (H : ∀ μ', FrC μ' μ → CI μ' (und (V k) w) → ACTC μ' k V → Φ (.inl (some (.int 1))) μ') : Spec g i_SO_undo 0 [.ref 0] μ Φ := by
  obtain ⟨h12, h8, hP, hR⟩ := ac
  obtain ⟨p1, p2, p3, p4⟩ := ps.1 k (by omega)
  refine spi o_SO_undo rfl (v_SO_undo_0 ?_)
  have e1 : nI (k + 1) - 1 = nI k := nI_pred k
  rw [h8, e1, nx_nI (by omega)]
  obtain ⟨i, i1, i2⟩ := hP.1 k (by omega)
  have e0 : mP (sI μ 0 8 (nI k)) k = 92 + 4 * i := i2
  rw [i2, e0]
  refine ⟨fun _ => ⟨vp_in_nI (by omega) (by decide), (sh_st i i1).1, ?_⟩, fun h => absurd (nI_inj (a := k + 1) (b := 0) (by omega) (by omega) h) (by omega)⟩
  have hk := hR k (by omega)
  rw [i2] at hk
  have z0 : Lz (fun k j => Nat.beq k 0 && Nat.beq j 8) (sI μ 0 8 (nI k)) = Lz (fun k j => Nat.beq k 0 && Nat.beq j 8) μ := Lz_I rfl
  refine c_cpB i1 (w := V k) (RSta_mem (μ := μ) (fun a a1 a2 => by rw [rI_I, if_neg (by omega)]) rfl hk) fun μ2 e2 h2 => oV (z11 (H μ2 ?_ ?_ ?_))
  · refine FrC_tr (Lz_C (fun k j h => ?_) z0) (zN_C (zR_N (by omega) (by omega) e2))
    unfold zc; rw [h]; simp
  · have i0 : ∀ a, a ≠ 0 → ¬ (11 ≤ a ∧ a ≤ 14) → mI μ2 a = mI μ a := fun a a0 a1 => by
      rw [rdI e2 (fun j => zR_no (by omega)), rI_I, if_neg a0]
    have l0 : ∀ a, ¬ (11 ≤ a ∧ a ≤ 14) → mL μ2 a = mL μ a := fun a a1 => by
      rw [rdL e2 (fun j => zR_no (by omega)), rL_I]
    refine E_CI (und_E p3) ⟨⟨?_, h2, ?_, ?_⟩, p1⟩
    · exact RSet_mem (fun a a1 a2 => i0 a (by omega) (by omega)) (RSet_suA p3 c.1.1)
    · exact RLaw_mem (congrFun (i0 15 (by omega) (by omega)) 0) (congrFun (i0 15 (by omega) (by omega)) 5) (fun a a1 a2 => i0 a (by omega) (by omega)) (RLaw_suA p3 p1 c.1.2.2.1)
    · exact RLog_mem (fun a a1 a2 => i0 a (by omega) (by omega)) (l0 _ (by omega)) (RLog_LS p4 c.1.2.2.2)
  · have ep : mP μ2 = mP μ := (rdP e2 : mP μ2 = mP (sI μ 0 8 (nI k)))
    unfold ACTC
    rw [ep]
    refine ⟨by omega, ?_, hP, fun a ha => ?_⟩
    · rw [rdI1 e2 (zR_no (by omega)), rI_I, if_pos rfl, upd_s]
    · obtain ⟨b, b1, b2⟩ := hP.1 a (by omega)
      have := hR a (by omega)
      rw [b2] at this ⊢
      refine RSta_mem (fun d d1 d2 => ?_) ?_ this
      · rw [rdI e2 (fun j => zR_no (by omega)), rI_I, if_neg (by omega)]
      · rw [rdL e2 (fun j => zR_no (by omega)), rL_I]
theorem M_undo0 (ac : ACTM μ 0 V) (H : Φ (.inl (some (.int 0))) (sI μ 140 0 0)) : Spec g i_Mo_undo 0 [.ref 140] μ Φ :=
  spi o_Mo_undo rfl (v_Mo_undo_0 ⟨fun h => absurd ac.1 h, fun _ => z01 H⟩)
theorem M_undo {k : Nat} (hk : k < 12) (m : MW μ w) (ac : ACTM μ (k + 1) V) (hw : WF (und (V k) w)) (H : ∀ μ', Lz zBk μ' = Lz zBk μ → MW μ' (und (V k) w) → ACTM μ' k V → Φ (.inl (some (.int 1))) μ') : Spec g i_Mo_undo 0 [.ref 140] μ Φ := by
  obtain ⟨h12, hR⟩ := ac
  refine spi o_Mo_undo rfl (v_Mo_undo_0 ?_)
  have e1 : nI (k + 1) - 1 = nI k := nI_pred k
  rw [h12, e1]
  refine ⟨fun _ => ?_, fun h => absurd (nI_inj (a := k + 1) (b := 0) (by omega) (by omega) h) (by omega)⟩
  have z0 : Lz zBk (sI (sI μ 140 0 0) 140 12 (nI k)) = Lz zBk μ := (Lz_I rfl).trans (Lz_I rfl)
  have h0 : mI (sI (sI μ 140 0 0) 140 12 (nI k)) 140 12 = nI k := by rw [rI_I, if_pos rfl, upd_s]
  have h141 : mI (sI (sI μ 140 0 0) 140 12 (nI k)) 141 = w.1 := mw_i m
  have h145 : mI (sI (sI μ 140 0 0) 140 12 (nI k)) 145 = mI μ 145 := rfl
  have h146 : mL (sI (sI μ 140 0 0) 140 12 (nI k)) 146 = mL μ 146 := rfl
  generalize (sI (sI μ 140 0 0) 140 12 (nI k)) = μ1 at *
  obtain ⟨r1, r2⟩ := hR k (by omega)
  refine zup (P := fun n => ∀ μ', Lz zBk μ' = Lz zBk μ1 → mI μ' 140 12 = nI k → (∀ j, mI μ' 141 j = if j < n then (V k).1 j else w.1 j) → WW g i_Mo_undo 0 Φ 0 0 26 [(0, .ref 140), (1, .int (nI n))] [] μ') 1015 ?_ ?_ μ1 rfl h0 (fun j => by rw [if_neg (Nat.not_lt_zero _), h141])
  · intro μ' e h hc
    refine v_Mo_undo_26 ⟨fun _ => ?_, fun h => absurd (nI_le (a := 1015) (b := 1015) (by decide) (by decide)) h⟩
    rw [h, nx_nI (by omega), (rdL e fun _ => rfl : mL μ' 146 = mL μ1 146), h146, r2]
    refine ⟨vp_in_nI (by omega) (by decide), z11 (H _ ((Lz_L rfl).trans (e.trans z0)) ⟨Prod.ext ?_ ?_, hw⟩ ⟨h, fun a ha => ?_⟩)⟩
    · funext j; exact hc j
    · show mL (sL μ' 140 6 _) 140 6 = _
      rw [rL_L, if_pos rfl, updL_s]; rfl
    · rw [rI_L, rL_L, if_neg (by decide), (rdL e fun _ => rfl : mL μ' 146 = mL μ1 146), h146, (rdI e fun _ => rfl : mI μ' 145 = mI μ1 145), h145]
      exact hR a (by omega)
  · intro n hn ih μ' e h hc
    refine v_Mo_undo_26 ⟨fun h => absurd h (nI_ge (b := 1015) hn (by decide)), fun _ => ?_⟩
    rw [h, n1015 (by omega), nx_nI (by omega), nx_nI (by omega), (rdI e fun _ => rfl : mI μ' 145 = mI μ1 145), h145, r1 n hn, ← nI_succ]
    refine ⟨vp_in_nI (by omega) (by decide), vp_in_nI (by omega) (by decide), ih _ ((Lz_I rfl).trans e) ?_ (fun j => ?_)⟩
    · rw [rI_I, if_neg (by decide)]; exact h
    · rw [rI_I, if_pos rfl]
      by_cases q1 : j = n
      · rw [q1, upd_s, if_pos (by omega)]
      · rw [upd_n q1, hc]
        by_cases q2 : j < n
        · rw [if_pos q2, if_pos (by omega)]
        · rw [if_neg q2, if_neg (by omega)]
theorem C_image (c : CI μ w) (H : ∀ μ', Lz zI μ' = Lz zI μ → mI μ' 0 9 = 1 → RSet 35 μ' w → RSta 42 μ' w → RLaw 46 μ' w → RLog 53 μ' w → Φ (.inl none) μ') : Spec g i_SO_image 0 [.ref 0] μ Φ := by
  refine spi o_SO_image rfl (v_SO_image_0 (spi o_Sch_copyFrom rfl (v_Sch_copyFrom_34_3_0 ?_)))
  have l12 := li_12 c.2.2
  have c400 := cle_400 c.2
  have l60 := wf_l60 c.2.1
  refine c_cpT_35_4 c.1.1 fun μ1 e1 h1 => oV ?_
  refine c_cpS_42_11 (w := w) (RSta_mem (fun a a1 a2 => rdI e1 fun j => zR_no (by omega)) (rdL e1 fun j => rfl) c.1.2.1) fun μ2 e2 h2 => oV ?_
  refine c_cpL_46_15 (w := w) (RLaw_mem ((rdI1 e2 rfl).trans (rdI1 e1 rfl)) ((rdI1 e2 rfl).trans (rdI1 e1 rfl)) (fun a a1 a2 => (rdI e2 fun j => zR_no (by omega)).trans (rdI e1 fun j => zR_no (by omega))) c.1.2.2.1) l12 c400 fun μ3 e3 h3 => oV ?_
  refine c_cpG_53_22 (w := w) (RLog_mem (fun a a1 a2 => (rdI e3 fun j => zR_no (by omega)).trans ((rdI e2 fun j => zR_no (by omega)).trans (rdI e1 fun j => zR_no (by omega)))) ((rdL e3 fun j => rfl).trans ((rdL e2 fun j => rfl).trans (rdL e1 fun j => rfl))) c.1.2.2.2) l60 fun μ4 e4 h4 _ => oV (oV ?_)
  refine z11 (H (sI μ4 0 9 1) ((Lz_I rfl).trans ((zR_I (by omega) (by omega) e4).trans ((zR_I (by omega) (by omega) e3).trans ((zR_I (by omega) (by omega) e2).trans (zR_I (by omega) (by omega) e1))))) ?_ ?_ ?_ ?_ ?_)
  · rw [rI_I, if_pos rfl, upd_s]
  · refine RSet_mem (fun a a1 a2 => ?_) h1
    rw [rI_I, if_neg (by omega)]
    exact (rdI e4 fun j => zR_no (by omega)).trans ((rdI e3 fun j => zR_no (by omega)).trans (rdI e2 fun j => zR_no (by omega)))
  · refine RSta_mem (fun a a1 a2 => ?_) ?_ h2
    · rw [rI_I, if_neg (by omega)]
      exact (rdI e4 fun j => zR_no (by omega)).trans (rdI e3 fun j => zR_no (by omega))
    · exact (rdL e4 fun j => rfl).trans (rdL e3 fun j => rfl)
  · refine RLaw_mem ?_ ?_ (fun a a1 a2 => ?_) h3
    · rw [rI_I, if_neg (by omega)]; exact rdI1 e4 rfl
    · rw [rI_I, if_neg (by omega)]; exact rdI1 e4 rfl
    · rw [rI_I, if_neg (by omega)]; exact rdI e4 fun j => zR_no (by omega)
  · exact RLog_mem (fun a a1 a2 => by rw [rI_I, if_neg (by omega)]) rfl h4
theorem M_image (m : MW μ w) (H : ∀ μ', Lz zIm μ' = Lz zIm μ → mI μ' 140 11 = 1 → (∀ k, k < 1864 → mI μ' 142 k = w.1 k) → mL μ' 140 7 = w.2 → Φ (.inl none) μ') : Spec g i_Mo_image 0 [.ref 140] μ Φ := by
  refine spi o_Mo_image rfl (v_Mo_image_0 ?_)
  refine zup (P := fun n => ∀ μ', Lz zIm μ' = Lz zIm μ → (∀ j, j < n → mI μ' 142 j = w.1 j) → WW g i_Mo_image 0 Φ 0 0 7 [(0, .ref 140), (1, .int (nI n))] [] μ') 1864 ?_ ?_ (sI μ 140 0 0) (Lz_I rfl) (fun j h => absurd h (Nat.not_lt_zero _))
  · intro μ' e hc
    refine v_Mo_image_7 ⟨fun _ => z11 (H (sI (sL μ' 140 7 (mL μ' 140 6)) 140 11 1) ((Lz_I rfl).trans ((Lz_L rfl).trans e)) ?_ hc ?_), fun h => absurd (nI_le (a := 1864) (b := 1864) (by decide) (by decide)) h⟩
    · rw [rI_I, if_pos rfl, upd_s]
    · rw [rL_I, rL_L, if_pos rfl, updL_s]; exact (rdL1 e rfl).trans (mw_l m)
  · intro n hn ih μ' e hc
    refine v_Mo_image_7 ⟨fun h => absurd h (nI_ge (b := 1864) hn (by decide)), fun _ => ?_⟩
    rw [nx_nI (by omega), ← nI_succ]
    refine ⟨vp_in_nI (by omega) (by decide), vp_in_nI (by omega) (by decide), ih _ ((Lz_I rfl).trans e) fun j hj => ?_⟩
    rw [rI_I, if_pos rfl]
    by_cases q1 : j = n
    · rw [q1, upd_s, (rdI e fun _ => rfl : mI μ' 141 = mI μ 141), mw_i m]
    · rw [upd_n q1]; exact hc j (by omega)
theorem C_back0 (h : mI μ 0 9 = 0) (H : Φ (.inl (some (.int 0))) μ) : Spec g i_SO_back 0 [.ref 0] μ Φ :=
  spi o_SO_back rfl (v_SO_back_0 ⟨fun h2 => absurd h h2, fun _ => z01 H⟩)
theorem C_back {v : WD} (h9 : mI μ 0 9 = 1) (hv : WF v) (h1 : RSet 35 μ v) (h2 : RSta 42 μ v) (h3 : RLaw 46 μ v) (h4 : RLog 53 μ v) (hp : PRM (mP μ)) (H : ∀ μ', FrC μ' μ → CI μ' (bck v w) → ACTC μ' 0 V → Φ (.inl (some (.int 1))) μ') : Spec g i_SO_back 0 [.ref 0] μ Φ := by
  refine spi o_SO_back rfl (v_SO_back_0 ⟨fun _ => spi o_Sch_copyFrom rfl (v_Sch_copyFrom_3_34_0 ?_), fun h => absurd (h9.symm.trans h) (by decide)⟩)
  have l12 := li_12 hv.2
  have c400 := cle_400 hv
  have l60 := wf_l60 hv.1
  refine c_cpT_4_35 h1 fun μ1 e1 k1 => oV ?_
  refine c_cpS_11_42 (w := v) (RSta_mem (fun a a1 a2 => rdI e1 fun j => zR_no (by omega)) (rdL e1 fun j => rfl) h2) fun μ2 e2 k2 => oV ?_
  refine c_cpL_15_46 (w := v) (RLaw_mem ((rdI1 e2 rfl).trans (rdI1 e1 rfl)) ((rdI1 e2 rfl).trans (rdI1 e1 rfl)) (fun a a1 a2 => (rdI e2 fun j => zR_no (by omega)).trans (rdI e1 fun j => zR_no (by omega))) h3) l12 c400 fun μ3 e3 k3 => oV ?_
  refine c_cpG_22_53 (w := v) (RLog_mem (fun a a1 a2 => (rdI e3 fun j => zR_no (by omega)).trans ((rdI e2 fun j => zR_no (by omega)).trans (rdI e1 fun j => zR_no (by omega)))) ((rdL e3 fun j => rfl).trans ((rdL e2 fun j => rfl).trans (rdL e1 fun j => rfl))) h4) l60 fun μ4 e4 k4 _ => oV (oV ?_)
  have eN : Lz zN μ4 = Lz zN μ := (zR_N (by omega) (by omega) e4).trans ((zR_N (by omega) (by omega) e3).trans ((zR_N (by omega) (by omega) e2).trans (zR_N (by omega) (by omega) e1)))
  have z0 : Lz (fun k j => Nat.beq k 0 && Nat.beq j 8) (sI μ4 0 8 0) = Lz (fun k j => Nat.beq k 0 && Nat.beq j 8) μ4 := Lz_I rfl
  refine z11 (H _ (FrC_tr (zN_C eN) (Lz_C (fun k j h => ?_) z0)) (E_CI bck_E ⟨⟨?_, ?_, ?_, ?_⟩, hv⟩) ⟨by omega, ?_, ?_, fun k hk => absurd hk (Nat.not_lt_zero _)⟩)
  · unfold zc; rw [h]; simp
  · refine RSet_mem (fun a a1 a2 => ?_) k1
    rw [rI_I, if_neg (by omega)]
    exact (rdI e4 fun j => zR_no (by omega)).trans ((rdI e3 fun j => zR_no (by omega)).trans (rdI e2 fun j => zR_no (by omega)))
  · refine RSta_mem (fun a a1 a2 => ?_) ?_ k2
    · rw [rI_I, if_neg (by omega)]
      exact (rdI e4 fun j => zR_no (by omega)).trans (rdI e3 fun j => zR_no (by omega))
    · exact (rdL e4 fun j => rfl).trans (rdL e3 fun j => rfl)
  · refine RLaw_mem ?_ ?_ (fun a a1 a2 => ?_) k3
    · rw [rI_I, if_neg (by omega)]; exact rdI1 e4 rfl
    · rw [rI_I, if_neg (by omega)]; exact rdI1 e4 rfl
    · rw [rI_I, if_neg (by omega)]; exact rdI e4 fun j => zR_no (by omega)
  · exact RLog_mem (fun a a1 a2 => by rw [rI_I, if_neg (by omega)]) rfl k4
  · rw [rI_I, if_pos rfl, upd_s]; rfl
  · show PRM (mP μ4)
    rw [rdP eN]; exact hp
theorem M_back0 (h : mI μ 140 11 = 0) (H : Φ (.inl (some (.int 0))) (sI μ 140 0 0)) : Spec g i_Mo_back 0 [.ref 140] μ Φ :=
  spi o_Mo_back rfl (v_Mo_back_0 ⟨fun h2 => absurd h h2, fun _ => z01 H⟩)
theorem M_back {v : WD} (h11 : mI μ 140 11 = 1) (m : MW μ w) (hv : WF v) (h1 : ∀ k, k < 1864 → mI μ 142 k = v.1 k) (h2 : mL μ 140 7 = v.2) (H : ∀ μ', Lz zBk μ' = Lz zBk μ → MW μ' (bck v w) → mI μ' 140 12 = 0 → Φ (.inl (some (.int 1))) μ') : Spec g i_Mo_back 0 [.ref 140] μ Φ := by
  refine spi o_Mo_back rfl (v_Mo_back_0 ⟨fun _ => ?_, fun h => absurd (h11.symm.trans h) (by decide)⟩)
  refine zup (P := fun n => ∀ μ', Lz zBk μ' = Lz zBk μ → (∀ j, mI μ' 141 j = if j < n then v.1 j else w.1 j) → WW g i_Mo_back 0 Φ 0 0 16 [(0, .ref 140), (1, .int (nI n))] [] μ') 1864 ?_ ?_ (sI μ 140 0 0) (Lz_I rfl) (fun j => by rw [if_neg (Nat.not_lt_zero _)]; exact congrFun (mw_i m) j)
  · intro μ' e hc
    refine v_Mo_back_16 ⟨fun _ => z11 (H _ ((Lz_I rfl).trans ((Lz_L rfl).trans e)) ⟨Prod.ext ?_ ?_, E_WF bck_E hv⟩ ?_), fun h => absurd (nI_le (a := 1864) (b := 1864) (by decide) (by decide)) h⟩
    · funext j; exact hc j
    · show mL (sI (sL μ' 140 6 _) 140 12 0) 140 6 = _
      rw [rL_I, rL_L, if_pos rfl, updL_s]; exact (rdL1 e rfl).trans h2
    · rw [rI_I, if_pos rfl, upd_s]
  · intro n hn ih μ' e hc
    refine v_Mo_back_16 ⟨fun h => absurd h (nI_ge (b := 1864) hn (by decide)), fun _ => ?_⟩
    rw [nx_nI (by omega), ← nI_succ]
    refine ⟨vp_in_nI (by omega) (by decide), vp_in_nI (by omega) (by decide), ih _ ((Lz_I rfl).trans e) fun j => ?_⟩
    rw [rI_I, if_pos rfl]
    by_cases q1 : j = n
    · rw [q1, upd_s, if_pos (by omega), (rdI e fun _ => rfl : mI μ' 142 = mI μ 142), h1 n hn]
    · rw [upd_n q1, hc]
      by_cases q2 : j < n
      · rw [if_pos q2, if_pos (by omega)]
      · rw [if_neg q2, if_neg (by omega)]
theorem C_seed (c : CI μ w) {a : Int32} (H : CI (sI μ 11 6 a) (sdW w a) → Φ (.inl (some (.int (w.1 8)))) (sI μ 11 6 a)) : Spec g i_SO_seed 0 [.ref 0, .int a] μ Φ := by
  refine spi o_SO_seed rfl (v_SO_seed_0 ?_)
  rw [ci_see c]; exact H (CI_sd c)
theorem M_seed (m : MW μ w) {a : Int32} (H : MW (sI (sI μ 140 0 0) 141 8 a) (sdW w a) → Φ (.inl (some (.int (w.1 8)))) (sI (sI μ 140 0 0) 141 8 a)) : Spec g i_Mo_seed 0 [.ref 140, .int a] μ Φ := by
  refine spi o_Mo_seed rfl (v_Mo_seed_0 ⟨vin 8 rfl, vin 8 rfl, ?_⟩)
  rw [mw_i m]
  refine H ?_
  have : sI (sI μ 140 0 0) 141 8 a = sRI (sI μ 140 0 0) 141 (sdW w a).1 := by
    rw [sI_RI]
    congr 1
    show upd (mI μ 141) 8 a = upd w.1 8 a
    rw [mw_i m]
  rw [this]
  exact MW_141 (μ := sI μ 140 0 0) (v := sdW w a) (mw_l (w := w) m) (sdW_WF m.2)
end UND
