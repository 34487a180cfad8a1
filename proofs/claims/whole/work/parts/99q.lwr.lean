/-! a law's text: the class's openings and closings -/
def CSt (f : Nat → Int32) (n a : Nat) (o W : CLs) (μ : Mem) : Prop := TK f n a μ ∧ CO o μ ∧ CW W μ ∧ WSo W ∧ GW W ∧ dpt W ≤ 6
/-- how openings end -/
def EOp (Φ : Out → Mem → Prop) (μ : Mem) (f : Nat → Int32) (n : Nat) (o : CLs) (r : PRt CLs) : Prop := ∀ μ', Lz zLC μ' = Lz zLC μ → (match r with
  | .inl x => CSt f n x.2 o x.1 μ' → Φ (.inl (some (.int 1))) μ'
  | .inr b => mI μ' 1 4 = nI b → Φ (.inl (some (.int 0))) μ')
/-- how a fact, or a condition, ends -/
def EFc (Φ : Out → Mem → Prop) (μ : Mem) (f : Nat → Int32) (n : Nat) (o W : CLs) (r : PRt CLs) : Prop := ∀ μ', Lz zLC μ' = Lz zLC μ → (match r with
  | .inl x => CSt f n x.2 (o ++ x.1) W μ' → Φ (.inl (some (.int 1))) μ'
  | .inr b => mI μ' 1 4 = nI b → Φ (.inl (some (.int 0))) μ')
section CLR
variable {g : Gl} {Φ : Out → Mem → Prop} {μ : Mem} {f : Nat → Int32} {n a : Nat} {o W : CLs}
theorem CSt_tk {μ' : Mem} {b : Nat} (S : CSt f n a o W μ) (e : Lz zTk μ' = Lz zTk μ) (t : TK f n b μ') : CSt f n b o W μ' :=
  ⟨t, CO_em e rfl (fun _ => rfl) S.2.1, CW_em e (fun _ => rfl) (fun _ => rfl) S.2.2.1, S.2.2.2⟩
theorem CSt_c {c : Int32} {μ' : Mem} (S : CSt f n a o W μ) (e : Lz zAC μ' = Lz zAC μ) (h : CO (o ++ [c]) μ') : CSt f n a (o ++ [c]) W μ' :=
  ⟨TK_em e (fun _ => rfl) (fun _ => rfl) S.1, h, CW_em e (fun _ => rfl) (fun _ => rfl) S.2.2.1, S.2.2.2⟩
theorem CSt_S {j : Int32} {μ' : Mem} (S : CSt f n a o W μ) (e : Lz zST μ' = Lz zST μ) (h : CO (o ++ stE j W) μ') (hw : CW (stR j W) μ') : CSt f n a (o ++ stE j W) (stR j W) μ' :=
  ⟨TK_em e (fun _ => rfl) (fun _ => rfl) S.1, h, hw, WSo_R S.2.2.2.1, GW_R S.2.2.2.2.1, Nat.le_trans dpt_R S.2.2.2.2.2⟩
theorem zAw_LC {μ μ' : Mem} (e : Lz (fun k j => Nat.beq k 90 || (Nat.beq k 82 && Nat.beq j 3)) μ' = Lz (fun k j => Nat.beq k 90 || (Nat.beq k 82 && Nat.beq j 3)) μ) : Lz zLC μ' = Lz zLC μ := Lz_up (fun k j h => by
  unfold zLC
  simp only [Bool.or_eq_true, Bool.and_eq_true, Nat.ble_eq, Nat.beq_eq] at h ⊢
  omega) e
/-- an opening kept -/
theorem c_awO {j y : Int32} (hj : j = -12 ∧ y = 0 ∨ j = -15 ∧ y = 1) (S : CSt f n a o W μ) (h6 : dpt W ≠ 6) (K : ∀ μ', Lz zLC μ' = Lz zLC μ → CSt f n a o (j :: W) μ' → Φ (.inl none) μ') :
    Spec g i_LawR_await 0 [.ref 82, .int j] (sI (sI μ 82 4 ((mI μ 82 4) + 1)) 82 5 ((mI μ 82 5) + y)) Φ := by
  obtain ⟨hT, hO, hW, hS, hG, h6'⟩ := S
  have l20 := GW_20 hS hG h6'
  have hx : j = -12 ∨ j = -15 := by
    rcases hj with h | h
    · exact Or.inl h.1
    · exact Or.inr h.1
  have ed : dpt (j :: W) = dpt W + 1 := if_pos hx
  have t3' : TK f n a (sI (sI μ 82 4 ((mI μ 82 4) + 1)) 82 5 ((mI μ 82 5) + y)) := hT
  have o3' : CO o (sI (sI μ 82 4 ((mI μ 82 4) + 1)) 82 5 ((mI μ 82 5) + y)) := hO
  refine c_aw (W := W) hW.1 hW.2.1 ?_ ?_ (by omega) fun μ4 e4 w4 => ?_
  · rw [rI_I, if_pos rfl, upd_n (by decide), rI_I, if_pos rfl, upd_s, hW.2.2.1, ed, nI_succ]
  · rw [rI_I, if_pos rfl, upd_s, hW.2.2.2]
    rcases hj with ⟨h, h2⟩ | ⟨h, h2⟩
    · rw [h, h2, Int32.add_zero]; rfl
    · rw [h, h2]; exact (nI_succ _).symm
  · exact K μ4 ((zAw_LC e4).trans ((Lz_I rfl).trans (Lz_I rfl))) ⟨TK_em e4 (fun _ => rfl) (fun _ => rfl) t3', CO_em e4 rfl (fun _ => rfl) o3', w4, WSo_c hS (by rcases hx with h | h <;> rw [h] <;> decide), GW_dp hG hx, by omega⟩
theorem c_ope : ∀ d x1 a W μ, 6 - dpt W < d → x1 + d ≤ 400 → CSt f n a o W μ → EOp Φ μ f n o (opU f n a W) → WW g i_LawR_readOpenings 0 Φ 0 0 2 [(0, .ref 82), (1, .int (nI x1))] [] μ := by
  intro d
  induction d with
  | zero => intro x1 a W μ h; omega
  | succ d ih =>
    intro x1 a W μ hd hx S H
    have e15 : dpt (-15 :: W) = dpt W + 1 := rfl
    have e12 : dpt (-12 :: W) = dpt W + 1 := rfl
    have h6 := S.2.2.2.2.2
    rw [opU_eq h6] at H
    have e82 : mI μ 82 4 = nI (dpt W) := S.2.2.1.2.2.1
    refine v_LawR_readOpenings_2 ⟨fun q => absurd q (nI_ge (b := 400) (by omega) (by decide)), fun _ => c_aS S.1 (oI ⟨fun h => ?_, fun h => ?_⟩)⟩
    · rw [if_pos (b2i_n0.mp h)] at H
      rw [e82]
      refine ⟨fun hne => ?_, fun heq => z01 ?_⟩
      · have hk6 : dpt W ≠ 6 := fun e => hne (by rw [e]; rfl)
        rw [if_neg hk6] at H
        refine c_nx S.1 fun μ3 e3 t3 => oV ⟨fun q => absurd q h, fun _ => ⟨fun q => absurd q h, fun _ => ?_⟩⟩
        refine c_awO (Or.inr ⟨rfl, rfl⟩) (CSt_tk S e3 t3) hk6 fun μ7 e7 S7 => oV ?_
        rw [← nI_succ]
        exact ih (x1 + 1) _ _ μ7 (by omega) (by omega) S7 fun μ' e' => H μ' (e'.trans (e7.trans (zTk_LC e3)))
      · have hk6 : dpt W = 6 := nI_inj (b := 6) (by omega) (by omega) heq
        rw [if_pos hk6] at H
        exact H μ rfl (TK_st S.1)
    · rw [if_neg (by rw [b2i_0.mp h]; decide)] at H
      refine c_aW S.1 (bs := bNo) wk_1004 rfl (by decide) (oI ⟨fun h2 => ?_, fun h2 => z11 ?_⟩)
      · rw [if_pos (b2i_n0.mp h2)] at H
        rw [e82]
        refine ⟨fun hne => ?_, fun heq => z01 ?_⟩
        · have hk6 : dpt W ≠ 6 := fun e => hne (by rw [e]; rfl)
          rw [if_neg hk6] at H
          refine c_nx S.1 fun μ3 e3 t3 => oV ⟨fun _ => ⟨fun _ => ?_, fun q => absurd h q⟩, fun q => absurd h q⟩
          refine c_awO (Or.inl ⟨rfl, rfl⟩) (CSt_tk S e3 t3) hk6 fun μ7 e7 S7 => oV ?_
          rw [← nI_succ]
          exact ih (x1 + 1) _ _ μ7 (by omega) (by omega) S7 fun μ' e' => H μ' (e'.trans (e7.trans (zTk_LC e3)))
        · have hk6 : dpt W = 6 := nI_inj (b := 6) (by omega) (by omega) heq
          rw [if_pos hk6] at H
          exact H μ rfl (TK_st S.1)
      · rw [if_neg (by rw [b2i_0.mp h2]; decide)] at H
        exact H μ rfl S
theorem brk_hd (h : WSo W) (hd : HD (-14) W) (h0 : ¬ brk W = 0) : W = -15 :: W.tail := by
  cases W with
  | nil => exact absurd rfl h0
  | cons x W =>
    rcases h x List.mem_cons_self with e | e | e | e
    · rw [e] at hd; exact absurd (show (-12 : Int32) < -14 from hd) (by decide)
    · rw [e] at hd; exact absurd (show (-13 : Int32) < -14 from hd) (by decide)
    · rw [e] at hd; exact absurd (show (-14 : Int32) < -14 from hd) (by decide)
    · rw [e]; rfl
/-- a bracket taken off -/
theorem CW_pop {V : CLs} (h : CW (-15 :: V) μ) : CW V (sI (sI (sI μ 82 3 ((mI μ 82 3) - 1)) 82 5 ((mI μ 82 5) - 1)) 82 4 ((mI μ 82 4) - 1)) := by
  obtain ⟨h1, h2, h3, h4⟩ := h
  refine ⟨?_, fun i hi => ?_, ?_, ?_⟩
  · rw [rI_I, if_pos rfl, upd_n (by decide), rI_I, if_pos rfl, upd_n (by decide), rI_I, if_pos rfl, upd_s, h1]; exact k_pred
  · rw [rI_I, if_neg (by decide), rI_I, if_neg (by decide), rI_I, if_neg (by decide), h2 i (by rw [List.length_cons]; omega), List.getD_eq_getElem?_getD, List.getD_eq_getElem?_getD, List.reverse_cons, List.getElem?_append_left (by rw [List.length_reverse]; exact hi)]
  · rw [rI_I, if_pos rfl, upd_s]
    show mI μ 82 4 - 1 = _
    rw [h3]; exact k_pred
  · rw [rI_I, if_pos rfl, upd_n (by decide), rI_I, if_pos rfl, upd_s]
    show mI μ 82 5 - 1 = _
    rw [h4]; exact k_pred
theorem c_clo8 : ∀ d x1 b o W μ, brk W ≤ d → d + x1 = 6 → CSt f n b o W μ → o.length + W.length ≤ 400 → (∀ μ', Lz zLC μ' = Lz zLC μ → CSt f n (clU f n b W).2.1 (o ++ (clU f n b W).1) (clU f n b W).2.2 μ' → Φ (.inl none) μ') → WW g i_LawR_readClosings 0 Φ 0 0 8 [(0, .ref 82), (1, .int (nI x1))] [] μ := by
  intro d
  have none : ∀ b o W μ, clU f n b W = ([], b, W) → CSt f n b o W μ → (∀ μ', Lz zLC μ' = Lz zLC μ → CSt f n (clU f n b W).2.1 (o ++ (clU f n b W).1) (clU f n b W).2.2 μ' → Φ (.inl none) μ') → Φ (.inl none) μ := by
    intro b o W μ e S H
    rw [e] at H
    exact H μ rfl (by dsimp only; rw [List.append_nil]; exact S)
  induction d with
  | zero =>
    intro x1 b o W μ hd hx S h4 H
    have h0 : brk W = 0 := Nat.le_zero.mp hd
    refine v_LawR_readClosings_8 ⟨fun _ => none b o W μ ?_ S H, fun q => absurd (by rw [show x1 = 6 by omega]; decide) q⟩
    rw [clU_eq S.2.2.2.1 (by omega), if_pos h0]
  | succ d ih =>
    intro x1 b o W μ hd hx S h4 H
    have hle := brk_dpt (W := W)
    have h6 := S.2.2.2.2.2
    have l20 := GW_20 S.2.2.2.1 S.2.2.2.2.1 h6
    have e5 : mI μ 82 5 = nI (brk W) := S.2.2.1.2.2.2
    refine v_LawR_readClosings_8 ⟨fun q => absurd q (nI_ge (b := 6) (by omega) (by decide)), fun _ => ⟨fun q => ?_, fun q => ?_⟩⟩
    · rw [e5, show (0 : Int32) = nI 0 from rfl, nI_leI (by omega) (by omega)] at q
      refine none b o W μ ?_ S H
      rw [clU_eq S.2.2.2.1 (by omega), if_pos (by omega)]
    · rw [e5, show (0 : Int32) = nI 0 from rfl, nI_leI (by omega) (by omega)] at q
      have h0 : ¬ brk W = 0 := by omega
      refine c_tS S.1 (fun h => oI ⟨fun _ => ?_, fun q => absurd rfl q⟩) (fun h μ1 e1 t1 => oI ⟨fun q => absurd q (by decide), fun _ => ?_⟩)
      · exact none b o W μ (clU_w S.2.2.2.1 h6 h) S H
      · have S1 := CSt_tk S e1 t1
        rw [clU_eq S.2.2.2.1 (by omega), if_neg h0, if_pos h] at H
        have hc := brk_c S.2.2.2.1 h0
        have l1 := stE_len (j := -14) (W := W)
        refine c_st (by decide) S1.2.1 S1.2.2.1 h4 (by omega) fun μ3 e3 o3 w3 => oV ?_
        have S3 := CSt_S S1 e3 o3 w3
        have hV := brk_hd S3.2.2.2.1 hd_stR (by rw [brk_R (by decide)]; exact h0)
        rw [hV] at w3
        have wV := CW_pop w3
        have hl : (stR (-14) W).length = (stR (-14) W).tail.length + 1 := by
          have := congrArg List.length hV
          rw [List.length_cons] at this; exact this
        have l2 := stE_len (j := -12) (W := (stR (-14) W).tail)
        have o3' : CO (o ++ stE (-14) W) (sI (sI (sI μ3 82 3 ((mI μ3 82 3) - 1)) 82 5 ((mI μ3 82 5) - 1)) 82 4 ((mI μ3 82 4) - 1)) := o3
        have t3' : TK f n (nxt f n b) (sI (sI (sI μ3 82 3 ((mI μ3 82 3) - 1)) 82 5 ((mI μ3 82 5) - 1)) 82 4 ((mI μ3 82 4) - 1)) := S3.1
        have SV : CSt f n (nxt f n b) (o ++ stE (-14) W) (stR (-14) W).tail (sI (sI (sI μ3 82 3 ((mI μ3 82 3) - 1)) 82 5 ((mI μ3 82 5) - 1)) 82 4 ((mI μ3 82 4) - 1)) := ⟨t3', o3', wV, WSo_tl S3.2.2.2.1, GW_tl S3.2.2.2.2.1, Nat.le_trans dpt_tl S3.2.2.2.2.2⟩
        have z3 : Lz zLC (sI (sI (sI μ3 82 3 ((mI μ3 82 3) - 1)) 82 5 ((mI μ3 82 5) - 1)) 82 4 ((mI μ3 82 4) - 1)) = Lz zLC μ := (Lz_I rfl).trans ((Lz_I rfl).trans ((Lz_I rfl).trans ((zST_LC e3).trans (zTk_LC e1))))
        generalize (sI (sI (sI μ3 82 3 ((mI μ3 82 3) - 1)) 82 5 ((mI μ3 82 5) - 1)) 82 4 ((mI μ3 82 4) - 1)) = μ4 at *
        refine c_st (by decide) SV.2.1 SV.2.2.1 (by rw [List.length_append]; omega) (by omega) fun μ5 e5 o5 w5 => oV ?_
        have S5 := CSt_S SV e5 o5 w5
        rw [← nI_succ]
        refine ih (x1 + 1) _ _ _ μ5 (by omega) (by omega) S5 (by simp only [List.length_append]; omega) fun μ' e' S' => H μ' (e'.trans ((zST_LC e5).trans z3)) ?_
        dsimp only
        rw [List.append_assoc, List.append_assoc] at S'; exact S'
theorem c_clo (S : CSt f n a o W μ) (h4 : o.length + W.length ≤ 400) (H : ∀ μ', Lz zLC μ' = Lz zLC μ → CSt f n (clU f n a (stR (-12) W)).2.1 (o ++ (stE (-12) W ++ (clU f n a (stR (-12) W)).1)) (clU f n a (stR (-12) W)).2.2 μ' → Φ (.inl none) μ') : Spec g i_LawR_readClosings 0 [.ref 82] μ Φ := by
  have l20 := GW_20 S.2.2.2.1 S.2.2.2.2.1 S.2.2.2.2.2
  have l1 := stE_len (j := -12) (W := W)
  refine spi o_LawR_readClosings rfl (v_LawR_readClosings_0 (c_st (by decide) S.2.1 S.2.2.1 h4 (by omega) fun μ1 e1 o1 w1 => oV ?_))
  have S1 := CSt_S S e1 o1 w1
  refine c_clo8 6 0 a _ _ μ1 (Nat.le_trans brk_dpt S1.2.2.2.2.2) rfl S1 (by rw [List.length_append]; omega) fun μ' e' S' => H μ' (e'.trans (zST_LC e1)) ?_
  rw [List.append_assoc] at S'; exact S'
end CLR
