/-! a law's text: the class's lines -/
def zLL (k j : Nat) : Bool := (Nat.beq k 1 && Nat.ble 3 j) || (Nat.ble 82 k && Nat.ble k 90)
theorem zLC_L {μ μ' : Mem} (e : Lz zLC μ' = Lz zLC μ) : Lz zLL μ' = Lz zLL μ := Lz_up (fun k j h => by
  unfold zLC at h; unfold zLL
  simp only [Bool.or_eq_true, Bool.and_eq_true, Nat.ble_eq, Nat.beq_eq] at h ⊢
  omega) e
def LIa (s : LST) (μ : Mem) : Prop := mI μ 83 0 = nI s.1.length ∧ ∀ i, i < s.1.length → mI μ 84 i = kdc (lgn s i).1 ∧ mI μ 85 i = (lgn s i).2.1 ∧ mI μ 86 i = nI (lgn s i).2.2
def ELn (Φ : Out → Mem → Prop) (μ : Mem) (f : Nat → Int32) (n : Nat) (r : PRt LST) : Prop := ∀ μ', Lz zLL μ' = Lz zLL μ → (match r with
  | .inl x => TK f n x.2 μ' → CO x.1.2 μ' → LIa x.1 μ' → Φ (.inl (some (.int 1))) μ'
  | .inr b => mI μ' 1 4 = nI b → Φ (.inl (some (.int 0))) μ')
section CLN
variable {g : Gl} {Φ : Out → Mem → Prop} {μ : Mem} {f : Nat → Int32} {n a : Nat} {s : LST}
theorem LIa_em {z : Nat → Nat → Bool} {μ' : Mem} (e : Lz z μ' = Lz z μ) (h0 : z 83 0 = false) (h1 : ∀ k j, 84 ≤ k → k ≤ 86 → z k j = false) (h : LIa s μ) : LIa s μ' :=
  ⟨(rdI1 e h0).trans h.1, fun i hi => by rw [rdI e (fun j => h1 84 j (by omega) (by omega)), rdI e (fun j => h1 85 j (by omega) (by omega)), rdI e (fun j => h1 86 j (by omega) (by omega))]; exact h.2 i hi⟩
theorem LIa_C {μ' : Mem} (e : Lz zLC μ' = Lz zLC μ) (h : LIa s μ) : LIa s μ' := LIa_em e rfl (fun k j h1 h2 => b_no fun q => by
  unfold zLC at q
  simp only [Bool.or_eq_true, Bool.and_eq_true, Nat.ble_eq, Nat.beq_eq] at q
  omega) h
theorem LIa_tk {μ' : Mem} (e : Lz zTk μ' = Lz zTk μ) (h : LIa s μ) : LIa s μ' := LIa_C (zTk_LC e) h
theorem c_adL {kv x : Int32} {c : CLs} (t : TK f n a μ) (h : LIa s μ) (ho : CO (s.2 ++ c) μ) (h12 : s.1.length < 12) (H : ∀ μ', Lz zLL μ' = Lz zLL μ → TK f n a μ' → CO (adn s kv x c).2 μ' → LIa (adn s kv x c) μ' → Φ (.inl none) μ') : Spec g i_Law_addLine 0 [.ref 83, .int (kdc kv), .int x] μ Φ := by
  refine spi o_Law_addLine rfl (v_Law_addLine_0 ?_)
  have hl : (s.2 ++ c).length = s.2.length + c.length := List.length_append
  rw [h.1, ho.1, nx_nI (by omega), ← nI_succ]
  have v : vp_in (nI s.1.length) 12 := vp_in_nI h12 (by decide)
  refine ⟨fun q => absurd q (Int32.not_lt.mpr (n0le (by omega))), fun _ => ⟨fun q => absurd q (nI_ge (b := 12) h12 (by decide)), fun _ => ⟨v, v, v, ?_⟩⟩⟩
  have z : Lz zLL (sI (sI (sI (sI μ 84 s.1.length (kdc kv)) 85 s.1.length x) 86 s.1.length (nI (s.2 ++ c).length)) 83 0 (nI (s.1.length + 1))) = Lz zLL μ := by
    have m : ∀ k j, 82 ≤ k → k ≤ 90 → zLL k j = true := fun k j h1 h2 => by
      unfold zLL
      simp only [Bool.or_eq_true, Bool.and_eq_true, Nat.ble_eq, Nat.beq_eq]
      omega
    exact (Lz_I (m _ _ (by omega) (by omega))).trans ((Lz_I (m _ _ (by omega) (by omega))).trans ((Lz_I (m _ _ (by omega) (by omega))).trans (Lz_I (m _ _ (by omega) (by omega)))))
  refine H _ z ⟨t.1, t.2.1, t.2.2.1, t.2.2.2.1, t.2.2.2.2.1, t.2.2.2.2.2.1, t.2.2.2.2.2.2.1, t.2.2.2.2.2.2.2.1, t.2.2.2.2.2.2.2.2⟩ ⟨?_, ho.2⟩ ⟨?_, fun i hi => ?_⟩
  · rw [rI_I, if_pos rfl, upd_n (by decide)]; exact ho.1
  · rw [rI_I, if_pos rfl, upd_s, adn_n]
  · rw [adn_n] at hi
    rw [rI_I, if_neg (by decide), rI_I, if_neg (by decide), rI_I, if_neg (by decide), rI_I, if_pos rfl, rI_I, if_neg (by decide), rI_I, if_neg (by decide), rI_I, if_pos rfl, rI_I, if_neg (by decide), rI_I, if_neg (by decide), rI_I, if_pos rfl, rI_I, if_neg (by decide), rI_I, if_neg (by decide)]
    by_cases e : i = s.1.length
    · rw [e, upd_s, upd_s, upd_s, adn_hi, hl]; exact ⟨rfl, rfl, rfl⟩
    · rw [upd_n e, upd_n e, upd_n e, adn_lo (by omega)]; exact h.2 i (by omega)
theorem ELn_tr {r : PRt LST} {μ1 : Mem} (H : ELn Φ μ f n r) (e : Lz zLL μ1 = Lz zLL μ) : ELn Φ μ1 f n r := fun μ' e' => H μ' (e'.trans e)
theorem c_lwT {kv : Int32} (hk : ¬ kdc kv = -1) (t : TK f n a μ) (hi : LIa s μ) (ho : CO s.2 μ) (h12 : s.1.length < 12) (hl : s.2.length ≤ a) (h0 : ¬ kd f n a = 0) (H : ELn Φ μ f n (lnLk f n kv s a)) {X7 X8 X10 X12 X13 X15 : Nat → Mem → Prop} :
    (¬ kdc kv = -1 → Spec g i_Tape_next 0 [.ref 1] μ (onV (fun μ7 => Spec g i_Tape_takeNumber 0 [.ref 1, .int 0, .int 99] μ7 (onI (fun r9 μ8 => (r9 = -1 → ((0 : Int32) = 0 ∨ (0 : Int32) = 1) ∧ Φ (.inl (some (.int 0))) μ8) ∧ (¬ r9 = -1 → Spec g i_Tape_takeWord 0 [.ref 1, .ref 1003] μ8 (onI (fun r11 μ10 => (r11 = 0 → Spec g i_Law_addLine 0 [.ref 83, .int (kdc kv), .int r9] μ10 (onV (fun μ12 => ((1 : Int32) = 0 ∨ (1 : Int32) = 1) ∧ Φ (.inl (some (.int 1))) μ12) X12)) ∧ (¬ r11 = 0 → Spec g i_LawR_readCondition 0 [.ref 82] μ10 (onI (fun r14 μ13 => (¬ r14 = 0 → Spec g i_Law_addLine 0 [.ref 83, .int (kdc kv), .int r9] μ13 (onV (fun μ15 => ((1 : Int32) = 0 ∨ (1 : Int32) = 1) ∧ Φ (.inl (some (.int 1))) μ15) X15)) ∧ (r14 = 0 → ((0 : Int32) = 0 ∨ (0 : Int32) = 1) ∧ Φ (.inl (some (.int 0))) μ13)) X13))) X10))) X8)) X7)) ∧ (kdc kv = -1 → ((0 : Int32) = 0 ∨ (0 : Int32) = 1) ∧ Φ (.inl (some (.int 0))) μ) := by
  refine ⟨fun _ => c_nx t fun μ1 e1 t1 => oV ?_, fun q => absurd q hk⟩
  have hg := nxt_gt h0
  have z1 : Lz zLL μ1 = Lz zLL μ := zLC_L (zTk_LC e1)
  unfold lnLk tnP at H
  refine c_tN t1 (fun hno => oI ⟨fun _ => z01 ?_, fun q => absurd rfl q⟩) (fun hno μ2 e2 t2 => oI ⟨fun q => absurd q (nbn (nok_b (lo := 0) (m := 99) (by omega) (by omega) hno).choose_spec.2.2 (nok_b (lo := 0) (m := 99) (by omega) (by omega) hno).choose_spec.2.1 (by omega)), fun _ => ?_⟩)
  · rw [if_neg (by rw [hno]; decide)] at H
    exact H μ1 z1 (TK_st t1)
  · rw [if_pos hno] at H
    simp only [bdP] at H
    have hg2 : nxt f n a < nxt f n (nxt f n a) := nxt_gt (by rw [kd_nok hno]; decide)
    have z2 : Lz zLL μ2 = Lz zLL μ := (zLC_L (zTk_LC e2)).trans z1
    have i2 := LIa_tk e2 (LIa_tk e1 hi)
    have o2 : CO s.2 μ2 := CO_em e2 rfl (fun _ => rfl) (CO_em e1 rfl (fun _ => rfl) ho)
    refine c_tW t2 (bs := bIf) wk_1003 rfl (by decide) (fun h => oI ⟨fun _ => ?_, fun q => absurd rfl q⟩) (fun h μ3 e3 t3 => oI ⟨fun q => absurd q (by decide), fun _ => ?_⟩)
    · rw [if_neg (by rw [h]; decide)] at H
      refine c_adL (c := []) t2 i2 (by rw [List.append_nil]; exact o2) h12 fun μ4 e4 t4 o4 i4 => oV (z11 ?_)
      exact H μ4 (e4.trans z2) t4 o4 i4
    · rw [if_pos h] at H
      have hg3 := nxt_gt (wdm_n0 h)
      have z3 : Lz zLL μ3 = Lz zLL μ := (zLC_L (zTk_LC e3)).trans z2
      refine c_con t3 (CO_em e3 rfl (fun _ => rfl) o2) (by omega) fun μ4 e4 => ?_
      have i4 := LIa_C e4 (LIa_tk e3 i2)
      have z4 : Lz zLL μ4 = Lz zLL μ := (zLC_L e4).trans z3
      cases hr : LPu f n 3 (nxt f n (nxt f n (nxt f n a))) 0 with
      | inr b =>
        intro hb
        rw [hr] at H
        exact oI ⟨fun q => absurd rfl q, fun _ => z01 (H μ4 z4 hb)⟩
      | inl y =>
        intro t4 o4
        rw [hr] at H
        refine oI ⟨fun _ => c_adL (c := y.1) t4 i4 o4 h12 fun μ5 e5 t5 o5 i5 => oV (z11 ?_), fun q => absurd q (by decide)⟩
        exact H μ5 (e5.trans z4) t5 o5 i5
theorem c_lLn (t : TK f n a μ) (hi : LIa s μ) (ho : CO s.2 μ) (h12 : s.1.length < 12) (hl : s.2.length ≤ a) (H : ELn Φ μ f n (lnL f n s a)) : Spec g i_LawR_readLine 0 [.ref 82] μ Φ := by
  unfold lnL at H
  refine spi o_LawR_readLine rfl (v_LawR_readLine_0 (c_aW t (bs := bFa) wk_1000 rfl (by decide) (oI ⟨fun h1 => ?_, fun h1 => ?_⟩)))
  · rw [if_neg (by rw [b2i_0.mp h1]; decide)] at H
    refine c_aW t (bs := bNe) wk_1001 rfl (by decide) (oI ⟨fun h2 => ?_, fun h2 => ?_⟩)
    · rw [if_neg (by rw [b2i_0.mp h2]; decide)] at H
      refine c_aW t (bs := bAs) wk_1002 rfl (by decide) (oI ⟨fun h3 => ?_, fun h3 => ?_⟩)
      · rw [if_neg (by rw [b2i_0.mp h3]; decide)] at H
        exact ⟨fun q => absurd rfl q, fun _ => z01 (H μ rfl (TK_st t))⟩
      · rw [if_pos (b2i_n0.mp h3)] at H
        exact c_lwT (kv := 0) (by decide) t hi ho h12 hl (wdm_n0 (b2i_n0.mp h3)) H
    · rw [if_pos (b2i_n0.mp h2)] at H
      exact c_lwT (kv := -1) (by decide) t hi ho h12 hl (wdm_n0 (b2i_n0.mp h2)) H
  · rw [if_pos (b2i_n0.mp h1)] at H
    exact c_lwT (kv := 1) (by decide) t hi ho h12 hl (wdm_n0 (b2i_n0.mp h1)) H
end CLN
