/-! a law's text: the class's reader, what waits -/
def CO (o : CLs) (μ : Mem) : Prop := mI μ 83 5 = nI o.length ∧ ∀ i, i < o.length → mI μ 87 i = o.getD i 0
def CW (W : CLs) (μ : Mem) : Prop := mI μ 82 3 = nI W.length ∧ (∀ i, i < W.length → mI μ 90 i = W.reverse.getD i 0) ∧ mI μ 82 4 = nI (dpt W) ∧ mI μ 82 5 = nI (brk W)
def GW : CLs → Prop
  | [] => True
  | x :: W => GW W ∧ (x = -13 → HD (-13) W) ∧ (x = -14 → HD (-14) W)
def tpW : CLs → Nat
  | [] => 0
  | x :: _ => if x = -13 then 2 else if x = -14 then 1 else 0
def zAC (k j : Nat) : Bool := Nat.beq k 87 || (Nat.beq k 83 && Nat.beq j 5)
def zST (k j : Nat) : Bool := zAC k j || (Nat.beq k 82 && (Nat.beq j 3 || Nat.beq j 4))
def zLC (k j : Nat) : Bool := (Nat.beq k 1 && Nat.ble 3 j) || (Nat.beq k 82 || (Nat.beq k 87 || (Nat.beq k 90 || (Nat.beq k 83 && Nat.beq j 5))))
theorem zAC_ST {μ μ' : Mem} (e : Lz zAC μ' = Lz zAC μ) : Lz zST μ' = Lz zST μ := Lz_up (fun k j h => by unfold zST; rw [h]; rfl) e
theorem zST_LC {μ μ' : Mem} (e : Lz zST μ' = Lz zST μ) : Lz zLC μ' = Lz zLC μ := Lz_up (fun k j h => by
  unfold zST zAC at h; unfold zLC
  simp only [Bool.or_eq_true, Bool.and_eq_true, Nat.ble_eq, Nat.beq_eq] at h ⊢
  omega) e
theorem zTk_LC {μ μ' : Mem} (e : Lz zTk μ' = Lz zTk μ) : Lz zLC μ' = Lz zLC μ := Lz_up (fun k j h => by
  unfold zTk at h; unfold zLC
  simp only [Bool.or_eq_true, Bool.and_eq_true, Nat.ble_eq, Nat.beq_eq] at h ⊢
  omega) e
section GWS
variable {j x : Int32} {W : CLs}
theorem GW_len (h : WSo W) (k : GW W) : W.length ≤ 3 * dpt W + tpW W := by
  induction W with
  | nil => exact Nat.le_refl _
  | cons x W ih =>
    have := ih (WSo_t h) k.1
    have t0 : tpW W ≤ 2 := by
      cases W with
      | nil => exact Nat.zero_le _
      | cons y V => show (if y = -13 then 2 else if y = -14 then 1 else 0) ≤ 2; split <;> (try split) <;> omega
    rcases h x List.mem_cons_self with e | e | e | e
    · rw [e]; show W.length + 1 ≤ 3 * (dpt W + 1) + 0; omega
    · have hd := k.2.1 e
      have t1 : tpW W ≤ 1 := by
        cases W with
        | nil => exact Nat.zero_le _
        | cons y V =>
          show (if y = -13 then 2 else if y = -14 then 1 else 0) ≤ 1
          rw [if_neg (fun q => by rw [q] at hd; exact absurd (show (-13 : Int32) < -13 from hd) (by decide))]
          split <;> omega
      rw [e]; show W.length + 1 ≤ 3 * dpt W + 2; omega
    · have hd := k.2.2 e
      have t1 : tpW W = 0 := by
        cases W with
        | nil => rfl
        | cons y V =>
          show (if y = -13 then 2 else if y = -14 then 1 else 0) = 0
          rw [if_neg (fun q => by rw [q] at hd; exact absurd (show (-13 : Int32) < -14 from hd) (by decide)), if_neg (fun q => by rw [q] at hd; exact absurd (show (-14 : Int32) < -14 from hd) (by decide))]
      rw [e]; show W.length + 1 ≤ 3 * dpt W + 1; omega
    · rw [e]; show W.length + 1 ≤ 3 * (dpt W + 1) + 0; omega
theorem GW_20 (h : WSo W) (k : GW W) (h6 : dpt W ≤ 6) : W.length ≤ 20 := by
  have := GW_len h k
  have t0 : tpW W ≤ 2 := by
    cases W with
    | nil => exact Nat.zero_le _
    | cons y V => show (if y = -13 then 2 else if y = -14 then 1 else 0) ≤ 2; split <;> (try split) <;> omega
  omega
theorem GW_R (k : GW W) : GW (stR j W) := by
  induction W with
  | nil => exact trivial
  | cons x W ih =>
    unfold stR
    split
    · exact k
    · exact ih k.1
theorem GW_tl (k : GW W) : GW W.tail := by
  cases W with
  | nil => exact trivial
  | cons x W => exact k.1
theorem GW_dp (k : GW W) (hx : x = -12 ∨ x = -15) : GW (x :: W) := ⟨k, fun e => by rcases hx with h | h <;> rw [h] at e <;> exact absurd e (by decide), fun e => by rcases hx with h | h <;> rw [h] at e <;> exact absurd e (by decide)⟩
theorem GW_jn (k : GW W) (hj : j = -13 ∨ j = -14) : GW (j :: stR j W) := by
  refine ⟨GW_R k, fun e => ?_, fun e => ?_⟩
  · rw [e]; exact hd_stR
  · rw [e]; exact hd_stR
end GWS
section CLW
variable {g : Gl} {Φ : Out → Mem → Prop} {μ : Mem} {f : Nat → Int32} {n a : Nat} {o W : CLs}
theorem CO_em {z : Nat → Nat → Bool} {μ' : Mem} (e : Lz z μ' = Lz z μ) (h1 : z 83 5 = false) (h2 : ∀ j, z 87 j = false) (h : CO o μ) : CO o μ' := ⟨(rdI1 e h1).trans h.1, fun i hi => by rw [rdI e h2]; exact h.2 i hi⟩
theorem CW_em {z : Nat → Nat → Bool} {μ' : Mem} (e : Lz z μ' = Lz z μ) (h1 : ∀ j, z 82 j = false) (h2 : ∀ j, z 90 j = false) (h : CW W μ) : CW W μ' := ⟨(rdI1 e (h1 _)).trans h.1, fun i hi => by rw [rdI e h2]; exact h.2.1 i hi, (rdI1 e (h1 _)).trans h.2.2.1, (rdI1 e (h1 _)).trans h.2.2.2⟩
theorem TK_em {z : Nat → Nat → Bool} {μ' : Mem} (e : Lz z μ' = Lz z μ) (h1 : ∀ j, z 1 j = false) (h2 : ∀ j, z 2 j = false) (h : TK f n a μ) : TK f n a μ' := by
  obtain ⟨a1, a2, a3, a4, a5, a6, a7, a8, a9⟩ := h
  have e1 : mI μ' 1 = mI μ 1 := rdI e h1
  exact ⟨a1, a2, a3, (rdI e h2).trans a4, by rw [e1]; exact a5, by rw [e1]; exact a6, by rw [e1]; exact a7, by rw [e1]; exact a8, by rw [e1]; exact a9⟩
theorem c_aC {c : Int32} (h : CO o μ) (h4 : o.length < 400) (H : ∀ μ', Lz zAC μ' = Lz zAC μ → CO (o ++ [c]) μ' → Φ (.inl none) μ') : Spec g i_Law_addCode 0 [.ref 83, .int c] μ Φ := by
  refine spi o_Law_addCode rfl (v_Law_addCode_0 ?_)
  rw [h.1, nx_nI (by omega), ← nI_succ]
  refine ⟨fun q => absurd q (nI_ge (b := 400) h4 (by decide)), fun _ => ⟨vp_in_nI h4 (by decide), H _ ((Lz_I rfl).trans (Lz_I rfl)) ⟨?_, fun i hi => ?_⟩⟩⟩
  · rw [rI_I, if_pos rfl, upd_s, List.length_append]; rfl
  · rw [List.length_append, List.length_singleton] at hi
    rw [rI_I, if_neg (by decide), rI_I, if_pos rfl, List.getD_eq_getElem?_getD]
    by_cases e : i = o.length
    · rw [e, upd_s, List.getElem?_append_right (Nat.le_refl _), Nat.sub_self]; rfl
    · rw [upd_n e, List.getElem?_append_left (by omega), h.2 i (by omega), List.getD_eq_getElem?_getD]
theorem c_set {j : Int32} (hj : (-14 : Int32) ≤ j) : ∀ (W o : CLs) (μ : Mem), CO o μ → CW W μ → o.length + W.length ≤ 400 → W.length ≤ 32 → (∀ μ', Lz zST μ' = Lz zST μ → CO (o ++ stE j W) μ' → CW (stR j W) μ' → Φ (.inl none) μ') → WW g i_LawR_settle 0 Φ 0 0 7 [(0, .ref 82), (1, .int j), (2, .int (nI W.length - 1))] [] μ := by
  intro W
  induction W with
  | nil =>
    intro o μ ho hw h4 h32 H
    refine v_LawR_settle_7 ⟨fun _ => ?_, fun q => absurd (by decide) q⟩
    have := H μ rfl (by show CO (o ++ []) μ; rw [List.append_nil]; exact ho) hw
    exact this
  | cons x W ih =>
    intro o μ ho hw h4 h32 H
    rw [List.length_cons] at h4 h32
    have ex : nI (x :: W).length - 1 = nI W.length := k_pred
    have e90 : mI μ 90 W.length = x := by
      rw [hw.2.1 W.length (by rw [List.length_cons]; omega), List.getD_eq_getElem?_getD, List.reverse_cons, List.getElem?_append_right (by rw [List.length_reverse]; exact Nat.le_refl _), List.length_reverse, Nat.sub_self]; rfl
    rw [ex]
    refine v_LawR_settle_7 ⟨fun q => absurd q (Int32.not_lt.mpr (n0le (by omega))), fun _ => ?_⟩
    rw [nx_nI (by omega), e90]
    have vi : vp_in (nI W.length) 32 := vp_in_nI (by omega) (by decide)
    refine ⟨vi, fun q => ?_, fun q => ⟨vi, c_aC ho (by omega) fun μ1 e1 o1 => oV ⟨vi, ?_⟩⟩⟩
    · have := H μ rfl
      rw [stE_y q, stR_y q, List.append_nil] at this
      exact this ho hw
    · rw [(rdI e1 fun _ => rfl : mI μ1 90 = mI μ 90), e90]
      have hx15 : x ≠ -15 := fun e => q (by rw [e]; exact Int32.lt_of_lt_of_le (by decide) hj)
      have h82 : mI μ1 82 = mI μ 82 := rdI e1 fun _ => rfl
      have hd : mI μ1 82 4 = nI (dpt (x :: W)) := by rw [h82]; exact hw.2.2.1
      have hb : brk (x :: W) = brk W := if_neg hx15
      have next : ∀ y : Int32, mI μ1 82 4 - y = nI (dpt W) → WW g i_LawR_settle 0 Φ 0 0 7 [(0, .ref 82), (1, .int j), (2, .int (nI W.length + -1))] [] (sI (sI μ1 82 4 (mI μ1 82 4 - y)) 82 3 (nI W.length)) := by
        intro y hy
        rw [← Int32.sub_eq_add_neg, hy]
        refine ih (o ++ [x]) _ ⟨o1.1, o1.2⟩ ⟨?_, fun i hi => ?_, ?_, ?_⟩ ?_ (by omega) fun μ' e' oE wE => ?_
        · rw [rI_I, if_pos rfl, upd_s]
        · rw [rI_I, if_neg (by decide), rI_I, if_neg (by decide), (rdI e1 fun _ => rfl : mI μ1 90 = mI μ 90), hw.2.1 i (by rw [List.length_cons]; omega), List.getD_eq_getElem?_getD, List.getD_eq_getElem?_getD, List.reverse_cons, List.getElem?_append_left (by rw [List.length_reverse]; exact hi)]
        · rw [rI_I, if_pos rfl, upd_n (by decide), rI_I, if_pos rfl, upd_s]
        · rw [rI_I, if_pos rfl, upd_n (by decide), rI_I, if_pos rfl, upd_n (by decide), h82, hw.2.2.2, hb]
        · rw [List.length_append, List.length_singleton]; omega
        · refine H μ' (e'.trans ((Lz_I rfl).trans ((Lz_I rfl).trans (zAC_ST e1)))) ?_ ?_
          · rw [stE_n q]
            rw [List.append_assoc] at oE; exact oE
          · rw [stR_n q]; exact wE
      refine ⟨fun hn => next 0 ?_, fun hn => next 1 ?_⟩
      · have : dpt (x :: W) = dpt W := if_neg (fun q => q.elim hn hx15)
        rw [hd, this, Int32.sub_zero]
      · have : dpt (x :: W) = dpt W + 1 := if_pos (Or.inl hn)
        rw [hd, this, k_pred]
theorem c_st {j : Int32} (hj : (-14 : Int32) ≤ j) (ho : CO o μ) (hw : CW W μ) (h4 : o.length + W.length ≤ 400) (h32 : W.length ≤ 32) (H : ∀ μ', Lz zST μ' = Lz zST μ → CO (o ++ stE j W) μ' → CW (stR j W) μ' → Φ (.inl none) μ') : Spec g i_LawR_settle 0 [.ref 82, .int j] μ Φ := by
  refine spi o_LawR_settle rfl (v_LawR_settle_0 ?_)
  rw [hw.1]
  exact c_set hj W o μ ho hw h4 h32 H
/-- awaited -/
theorem c_aw {j : Int32} (hl : mI μ 82 3 = nI W.length) (hw : ∀ i, i < W.length → mI μ 90 i = W.reverse.getD i 0) (hd : mI μ 82 4 = nI (dpt (j :: W))) (hb : mI μ 82 5 = nI (brk (j :: W))) (h32 : W.length < 32) (H : ∀ μ', Lz (fun k j => Nat.beq k 90 || (Nat.beq k 82 && Nat.beq j 3)) μ' = Lz (fun k j => Nat.beq k 90 || (Nat.beq k 82 && Nat.beq j 3)) μ → CW (j :: W) μ' → Φ (.inl none) μ') : Spec g i_LawR_await 0 [.ref 82, .int j] μ Φ := by
  refine spi o_LawR_await rfl (v_LawR_await_0 ?_)
  rw [hl, nx_nI (by omega), ← nI_succ]
  refine ⟨fun q => absurd q (nI_ge (b := 32) h32 (by decide)), fun _ => ⟨vp_in_nI h32 (by decide), H _ ((Lz_I rfl).trans (Lz_I rfl)) ⟨?_, fun i hi => ?_, ?_, ?_⟩⟩⟩
  · rw [rI_I, if_pos rfl, upd_s]; rfl
  · rw [List.length_cons] at hi
    rw [rI_I, if_neg (by decide), rI_I, if_pos rfl, List.getD_eq_getElem?_getD, List.reverse_cons]
    by_cases e : i = W.length
    · rw [e, upd_s, List.getElem?_append_right (by rw [List.length_reverse]; exact Nat.le_refl _), List.length_reverse, Nat.sub_self]; rfl
    · rw [upd_n e, List.getElem?_append_left (by rw [List.length_reverse]; omega), hw i (by omega), List.getD_eq_getElem?_getD]
  · rw [rI_I, if_pos rfl, upd_n (by decide), rI_I, if_neg (by decide)]; exact hd
  · rw [rI_I, if_pos rfl, upd_n (by decide), rI_I, if_neg (by decide)]; exact hb
end CLW
