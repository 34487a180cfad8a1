/-! the state changed: seats, what people know, absences, day, seed -/
def agS (w w' : WD) : Prop := ∀ j, j ≠ 5 → j ≠ 8 → ¬ (19 ≤ j ∧ j < 79 ∧ ((j - 19) % 6 = 0 ∨ (j - 19) % 6 = 1 ∨ (j - 19) % 6 = 4 ∨ (j - 19) % 6 = 5)) → w'.1 j = w.1 j
theorem agS_rfl {w : WD} : agS w w := fun _ _ _ _ => rfl
theorem agS_tr {w v u : WD} (h : agS w v) (k : agS v u) : agS w u := fun j a b c => (k j a b c).trans (h j a b c)
/-- the scratch and the state's rows -/
def zSt (k j : Nat) : Bool := (Nat.ble 11 k && Nat.ble k 14) || scr k j
theorem scr_St {μ μ' : Mem} (e : Lv μ' = Lv μ) : Lz zSt μ' = Lz zSt μ := Lz_up (fun k j h => by unfold zSt; rw [h]; simp) e
section AGS
variable {w w' : WD}
theorem agS_th (h : agS w w') : th w' = th w := congrArg nx (h 0 (by omega) (by omega) (by omega))
theorem agS_pe (h : agS w w') : pe w' = pe w := congrArg nx (h 1 (by omega) (by omega) (by omega))
theorem agS_ru (h : agS w w') : ru w' = ru w := congrArg nx (h 2 (by omega) (by omega) (by omega))
theorem agS_wo (h : agS w w') {t : Nat} (ht : t < 10) : wo w' t = wo w t := congrArg nx (h (9 + t) (by omega) (by omega) (by omega))
theorem agS_lg (h : agS w w') : lg w' = lg w := congrArg nx (h 7 (by omega) (by omega) (by omega))
theorem agS_lw (h : agS w w') (r c : Nat) : lw w' r c = lw w r c := h _ (by omega) (by omega) (by omega)
theorem agS_ln (h : agS w w') (n k : Nat) : ln w' n k = ln w n k := h _ (by omega) (by omega) (by omega)
theorem agS_li (h : agS w w') : li w' = li w := by unfold li; rw [h 4 (by omega) (by omega) (by omega), h 1015 (by omega) (by omega) (by omega)]
theorem agS_cod (h : agS w w') : cod w' = cod w := by funext i; unfold cod; rw [h _ (by omega) (by omega) (by omega), h (1065 + 2 * i) (by omega) (by omega) (by omega)]
theorem agS_cle (h : agS w w') : cle w' = cle w := by unfold cle len; rw [agS_li h, agS_ln h]
theorem WFl_ag (h : agS w w') (k : WFl w) : WFl w' := by
  unfold WFl TYl at *
  rw [agS_cod h, agS_li h, h 4 (by omega) (by omega) (by omega), h 1015 (by omega) (by omega) (by omega)]
  refine ⟨k.1, k.2.1, fun n hn => ?_⟩
  have := k.2.2 n hn
  unfold lst len at *
  rw [agS_ln h, agS_ln h, agS_ln h, agS_ln h, agS_ln h]
  obtain ⟨a, b, c, d, e, f⟩ := this
  exact ⟨a, b, c, d, e, fun i hi => by rw [h _ (by omega) (by omega) (by omega), h (1065 + 2 * i) (by omega) (by omega) (by omega)]; exact f i hi⟩
theorem WFs_ag (h : agS w w') (h2 : w'.2 = w.2) (hp : ∀ p, p < 10 → WFp w' p) (k : WFs w) : WFs w' := by
  obtain ⟨k1, k2, k3, k4, k5, k6, k7, k8, k9, k10, k11, k12⟩ := k
  refine ⟨?_, ?_, ?_, ?_, ?_, ?_, ?_, hp, ?_, ?_, ?_, ?_⟩
  · rw [h 0 (by omega) (by omega) (by omega)]; exact k1
  · rw [h 1 (by omega) (by omega) (by omega)]; exact k2
  · rw [h 2 (by omega) (by omega) (by omega)]; exact k3
  · rw [h 3 (by omega) (by omega) (by omega)]; exact k4
  · rw [h 6 (by omega) (by omega) (by omega)]; exact k5
  · rw [h 7 (by omega) (by omega) (by omega)]; exact k6
  · intro t ht
    rw [h (9 + t) (by omega) (by omega) (by omega), agS_th h]; exact k7 t ht
  · intro r hr j hj
    rw [agS_ru h] at hr
    have : w'.1 (79 + 3 * r + j) = w.1 (79 + 3 * r + j) := h _ (by omega) (by omega) (by omega)
    rw [this, agS_th h]; exact k9 r hr j hj
  · intro t ht q hq
    unfold sai; rw [h2, agS_wo h ht]; exact k10 t ht q hq
  · rw [h2, agS_lg h]; exact k11
  · intro r hr
    rw [agS_lg h] at hr
    have := k12 r hr
    unfold WFr at *
    simp only [agS_lw h, agS_th h, agS_pe h]; exact this
theorem WF_ag (h : agS w w') (h2 : w'.2 = w.2) (hp : ∀ p, p < 10 → WFp w' p) (k : WF w) : WF w' := ⟨WFs_ag h h2 hp k.1, WFl_ag h k.2⟩
theorem CR_ag {μ μ' : Mem} (h : agS w w') (e : Lz zSt μ' = Lz zSt μ) (hs : RSta 11 μ' w') (c : CR μ w) : CR μ' w' := by
  obtain ⟨⟨a1, a2, a3, a4, a5, a6, a7, a8⟩, -, ⟨b1, b2, b3, b4⟩, ⟨d1, d2⟩⟩ := c
  have r : ∀ k, (∀ j, zSt k j = false) → mI μ' k = mI μ k := fun k hk => rdI e hk
  have r4 := r 4 fun _ => rfl
  have r5 := r 5 fun _ => rfl
  have r6 := r 6 fun _ => rfl
  have r7 := r 7 fun _ => rfl
  have r8 := r 8 fun _ => rfl
  have r9 := r 9 fun _ => rfl
  have r10 := r 10 fun _ => rfl
  have r16 := r 16 fun _ => rfl
  have r17 := r 17 fun _ => rfl
  have r18 := r 18 fun _ => rfl
  have r19 := r 19 fun _ => rfl
  have r23 := r 23 fun _ => rfl
  have r24 := r 24 fun _ => rfl
  have r25 := r 25 fun _ => rfl
  have r26 := r 26 fun _ => rfl
  have r28 := r 28 fun _ => rfl
  have r27 : mL μ' 27 = mL μ 27 := rdL e fun _ => rfl
  have r150 : mI μ' 15 0 = mI μ 15 0 := rdI1 e rfl
  have r155 : mI μ' 15 5 = mI μ 15 5 := rdI1 e rfl
  refine ⟨⟨?_, ?_, ?_, ?_, ?_, ?_, ?_, ?_⟩, hs, ⟨?_, ?_, ?_, ?_⟩, ?_, ?_⟩
  · rw [r4, h 0 (by omega) (by omega) (by omega)]; exact a1
  · rw [r4, h 1 (by omega) (by omega) (by omega)]; exact a2
  · rw [r4, h 2 (by omega) (by omega) (by omega)]; exact a3
  · rw [r4, h 6 (by omega) (by omega) (by omega)]; exact a4
  · rw [r4, h 3 (by omega) (by omega) (by omega)]; exact a5
  · intro t ht; rw [h (9 + t) (by omega) (by omega) (by omega)]; show mI μ' 5 t = _; rw [r5]; exact a6 t ht
  · intro p hp
    have e2 : pf w' p 2 = pf w p 2 := h _ (by omega) (by omega) (by omega)
    have e3 : pf w' p 3 = pf w p 3 := h _ (by omega) (by omega) (by omega)
    rw [e2, e3]; show mI μ' 6 p = _ ∧ mI μ' 7 p = _; rw [r6, r7]; exact a7 p hp
  · intro k hk
    rw [h (79 + 3 * k) (by omega) (by omega) (by omega), h (79 + 3 * k + 1) (by omega) (by omega) (by omega), h (79 + 3 * k + 2) (by omega) (by omega) (by omega)]
    show mI μ' 8 k = _ ∧ mI μ' 9 k = _ ∧ mI μ' 10 k = _
    rw [r8, r9, r10]; exact a8 k hk
  · rw [r150, h 4 (by omega) (by omega) (by omega), h 1015 (by omega) (by omega) (by omega)]; exact b1
  · rw [r155, agS_cle h]; exact b2
  · intro n hn
    rw [agS_li h] at hn
    rw [agS_ln h, agS_ln h, agS_ln h]
    show mI μ' 16 n = _ ∧ mI μ' 17 n = _ ∧ mI μ' 18 n = _
    rw [r16, r17, r18]; exact b3 n hn
  · intro i hi
    rw [agS_cle h] at hi
    rw [agS_cod h]; show mI μ' 19 i = _; rw [r19]; exact b4 i hi
  · intro q hq
    rw [agS_lg h] at hq
    simp only [agS_lw h, agS_lg h]
    show mI μ' 23 _ = _ ∧ mI μ' 24 _ = _ ∧ mI μ' 25 _ = _ ∧ mI μ' 26 _ = _ ∧ mI μ' 28 _ = _ ∧ ∀ p, p < 10 → _ → nib (mL μ' 27 _) p = _
    rw [r23, r24, r25, r26, r28, r27]; exact d1 q hq
  · intro k hk; show mI μ' 28 k = 0 ∨ mI μ' 28 k = 1; rw [r28]; exact d2 k hk
end AGS
/-- one seated elsewhere -/
def mov (w : WD) (p : Nat) (x y : Int32) : WD := (upd (upd w.1 (19 + 6 * p) x) (20 + 6 * p) y, w.2)
def trd (w : WD) (p q : Nat) : WD := mov (mov w p (pf w q 0) (pf w q 1)) q (pf w p 0) (pf w p 1)
theorem mov_pf {w : WD} {p r k : Nat} {x y : Int32} (hk : k < 6) : pf (mov w p x y) r k = if r = p ∧ k = 0 then x else if r = p ∧ k = 1 then y else pf w r k := by
  show upd (upd w.1 (19 + 6 * p) x) (20 + 6 * p) y (19 + 6 * r + k) = _
  by_cases h1 : r = p ∧ k = 1
  · rw [if_neg (by omega), if_pos h1, h1.1, h1.2, show 19 + 6 * p + 1 = 20 + 6 * p by omega, upd_s]
  · rw [upd_n (by omega)]
    by_cases h0 : r = p ∧ k = 0
    · rw [if_pos h0, h0.1, h0.2, show 19 + 6 * p + 0 = 19 + 6 * p by omega, upd_s]
    · rw [if_neg h0, if_neg h1, upd_n (by omega)]; rfl
theorem mov_ag {w : WD} {p : Nat} {x y : Int32} (hp : p < 10) : agS w (mov w p x y) := fun j h5 h8 h => by
  show upd (upd w.1 (19 + 6 * p) x) (20 + 6 * p) y j = _
  rw [upd_n (by omega), upd_n (by omega)]
theorem mov_ag' {w : WD} {p j : Nat} {x y : Int32} (_ : p < 10) (h0 : j ≠ 19 + 6 * p) (h1 : j ≠ 20 + 6 * p) : (mov w p x y).1 j = w.1 j := by
  show upd (upd w.1 (19 + 6 * p) x) (20 + 6 * p) y j = _
  rw [upd_n h1, upd_n h0]
theorem mov_WF {w : WD} {p a b : Nat} (h : WF w) (hp : p < 10) (ha : a ≤ 9) (hb : b ≤ 9) : WF (mov w p (nI a) (nI b)) := by
  refine WF_ag (mov_ag hp) rfl (fun r hr => ?_) h
  obtain ⟨k1, k2, k3, k4, k5, k6, k7⟩ := h.1.2.2.2.2.2.2.2.1 r hr
  unfold WFp
  rw [agS_th (mov_ag hp), agS_pe (mov_ag hp)]
  simp only [mov_pf (show 0 < 6 by omega), mov_pf (show 1 < 6 by omega), mov_pf (show 2 < 6 by omega), mov_pf (show 3 < 6 by omega), mov_pf (show 4 < 6 by omega), mov_pf (show 5 < 6 by omega)]
  refine ⟨?_, ?_, by simpa using k3, by simpa using k4, by simpa using k5, by simpa using k6, by simpa using k7⟩
  · by_cases q : r = p
    · exact ⟨a, ha, by simp [q]⟩
    · simpa [q] using k1
  · by_cases q : r = p
    · exact ⟨b, hb, by simp [q]⟩
    · simpa [q] using k2
section CE
variable {g : Gl} {Φ : Out → Mem → Prop} {μ : Mem} {w : WD}
theorem CI_mov (c : CI μ w) {p a b : Nat} (hp : p < 10) (ha : a ≤ 9) (hb : b ≤ 9) : CI (sI (sI μ 13 p (nI a)) 14 p (nI b)) (mov w p (nI a) (nI b)) := by
  refine ⟨CR_ag (mov_ag hp) ?_ ?_ c.1, mov_WF c.2 hp ha hb⟩
  · exact (Lz_I rfl).trans (Lz_I rfl)
  · obtain ⟨s1, s2, s3, s4, s5, s6⟩ := c.1.2.1
    refine ⟨s1, s2.trans (mov_ag' hp (by omega) (by omega)).symm, s3.trans (mov_ag' hp (by omega) (by omega)).symm, s4.trans (mov_ag' hp (by omega) (by omega)).symm, fun r hr => ?_, ?_⟩
    · obtain ⟨t1, t2, t3⟩ := s5 r hr
      rw [mov_pf (by omega), mov_pf (by omega), mov_pf (by omega)]
      refine ⟨(show mI μ 12 r = _ by simpa using t1), ?_, ?_⟩
      · show mI (sI (sI μ 13 p (nI a)) 14 p (nI b)) 13 r = _
        rw [rI_I, if_neg (by decide), rI_I, if_pos rfl]
        by_cases q : r = p
        · subst q; rw [upd_s]; simp
        · rw [upd_n q]; simpa [q] using t2
      · show mI (sI (sI μ 13 p (nI a)) 14 p (nI b)) 14 r = _
        rw [rI_I, if_pos rfl]
        by_cases q : r = p
        · subst q; rw [upd_s]; simp
        · rw [upd_n q]; show mI μ 14 r = _; simpa [q] using t3
    · show mI μ 11 4 = _
      rw [s6]; apply msk_cong; intro i _
      unfold her; rw [mov_pf (by omega)]; simp
theorem c_seat {p : Nat} {x y : Int32} (hp : p < 10) (H : Φ (.inl none) (sI (sI μ 13 p x) 14 p y)) : Spec g i_Sta_seat 0 [.ref 11, .int (nI p), .int x, .int y] μ Φ := by
  refine spi o_Sta_seat rfl (v_Sta_seat_11_0 ⟨vp_in_nI hp (by decide), vp_in_nI hp (by decide), ?_⟩)
  rw [nx_nI (by omega)]; exact H
theorem wf_x (h : WFs w) {p : Nat} (hp : p < 10) : ∃ a, a ≤ 9 ∧ pf w p 0 = nI a := (h.2.2.2.2.2.2.2.1 p hp).1
theorem wf_y (h : WFs w) {p : Nat} (hp : p < 10) : ∃ a, a ≤ 9 ∧ pf w p 1 = nI a := (h.2.2.2.2.2.2.2.1 p hp).2.1
theorem CI_trd (c : CI μ w) {p q : Nat} (hp : p < 10) (hq : q < 10) : CI (sI (sI (sI (sI μ 13 p (pf w q 0)) 14 p (pf w q 1)) 13 q (pf w p 0)) 14 q (pf w p 1)) (trd w p q) := by
  obtain ⟨a, a1, a2⟩ := wf_x c.2.1 hq
  obtain ⟨b, b1, b2⟩ := wf_y c.2.1 hq
  obtain ⟨d, d1, d2⟩ := wf_x c.2.1 hp
  obtain ⟨e, e1, e2⟩ := wf_y c.2.1 hp
  unfold trd
  rw [a2, b2, d2, e2]
  exact CI_mov (CI_mov c hp a1 b1) hq d1 e1
theorem c_swap (c : CI μ w) {p q : Nat} (hp : p < 10) (hq : q < 10) (H : Φ (.inl none) (sI (sI (sI (sI μ 13 p (pf w q 0)) 14 p (pf w q 1)) 13 q (pf w p 0)) 14 q (pf w p 1))) : Spec g i_Sta_swapSeats 0 [.ref 11, .int (nI p), .int (nI q)] μ Φ := by
  refine spi o_Sta_swapSeats rfl (v_Sta_swapSeats_0 ⟨vp_in_nI hp (by decide), vp_in_nI hp (by decide), vp_in_nI hq (by decide), vp_in_nI hq (by decide), ?_⟩)
  rw [nx_nI (by omega), nx_nI (by omega), ci_x c hp, ci_y c hp, ci_x c hq, ci_y c hq]
  exact c_seat hp (oV (c_seat hq (oV H)))
theorem c_satd (c : CI μ w) {x y : Int32} (H : Φ (.inl (some (.int (ov (if lo (fun p => decide (pf w p 0 = x ∧ pf w p 1 = y)) (pe w) < pe w then some (lo (fun p => decide (pf w p 0 = x ∧ pf w p 1 = y)) (pe w)) else none))))) μ) : Spec g i_Sta_seatedAt 0 [.ref 11, .int x, .int y, .int (nI (pe w))] μ Φ := by
  have p10 := ci_p10 c
  refine spi o_Sta_seatedAt rfl (v_Sta_seatedAt_11_0 ?_)
  have key := zup (P := fun k => (∀ i, i < k → decide (pf w i 0 = x ∧ pf w i 1 = y) = false) → WW g i_Sta_seatedAt 0 Φ 0 0 3 [(0, .ref 11), (1, .int x), (2, .int y), (3, .int (nI (pe w))), (4, .int (nI k))] [] μ) (pe w) ?_ ?_
  · exact key fun i h => absurd h (Nat.not_lt_zero _)
  · intro hn
    rw [lo_none hn, if_neg (Nat.lt_irrefl _)] at H
    exact v_Sta_seatedAt_11_3 ⟨fun _ => H, fun h => absurd (nI_le (Nat.le_refl _) (by omega)) h⟩
  · intro k hk ih hn
    have v := vp_in_nI (N := 10) (show k < 10 by omega) (by decide)
    refine v_Sta_seatedAt_11_3 ⟨fun h => absurd h (nI_ge hk (by omega)), fun _ => ⟨v, fun h => ?_, fun h => ⟨v, fun h2 => ?_, fun h2 => ?_⟩⟩⟩
    · rw [nx_nI (by omega), ci_x c (by omega)] at h
      rw [← nI_succ]; refine ih fun i hi => ?_
      by_cases q : i = k
      · rw [q]; simp [h]
      · exact hn i (by omega)
    · rw [nx_nI (by omega), ci_y c (by omega)] at h2
      rw [← nI_succ]; refine ih fun i hi => ?_
      by_cases q : i = k
      · rw [q]; simp [h2]
      · exact hn i (by omega)
    · rw [nx_nI (by omega), ci_x c (by omega)] at h
      rw [nx_nI (by omega), ci_y c (by omega)] at h2
      rw [lo_eq hk (by simp [h, h2]) hn, if_pos hk] at H
      exact H
end CE
