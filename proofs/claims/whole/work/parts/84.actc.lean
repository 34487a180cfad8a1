/-! acts: the class -/
def zc (k j : Nat) : Bool := (Nat.ble 3 k && Nat.ble k 33) || ((Nat.ble 65 k && Nat.ble k 69) || ((Nat.ble 92 k && Nat.ble k 139) || (Nat.beq k 0 && Nat.beq j 8)))
def FrC (μ' μ : Mem) : Prop := (∀ k j, zc k j = false → mI μ' k j = mI μ k j) ∧ ∀ k j, zc k j = false → mL μ' k j = mL μ k j
theorem FrC_rfl {μ : Mem} : FrC μ μ := ⟨fun _ _ _ => rfl, fun _ _ _ => rfl⟩
theorem FrC_tr {μ1 μ2 μ3 : Mem} (h : FrC μ2 μ1) (k : FrC μ3 μ2) : FrC μ3 μ1 := ⟨fun a b e => (k.1 a b e).trans (h.1 a b e), fun a b e => (k.2 a b e).trans (h.2 a b e)⟩
theorem FrA_C {μ1 μ2 : Mem} (h : FrA μ2 μ1) : FrC μ2 μ1 := by
  refine ⟨fun k j e => h.1 k j ?_ ?_, fun k j e => h.2 k j ?_⟩ <;>
  · intro q
    have : zc k j = true := by
      unfold zc
      simp only [Bool.or_eq_true, Bool.and_eq_true, Nat.ble_eq, Nat.beq_eq]
      omega
    rw [this] at e; cases e
theorem Lz_C {z : Nat → Nat → Bool} {μ1 μ2 : Mem} (hz : ∀ k j, z k j = true → zc k j = true) (e : Lz z μ2 = Lz z μ1) : FrC μ2 μ1 :=
  ⟨fun k j h => rdI1 e (by cases q : z k j with | false => rfl | true => rw [hz k j q] at h; cases h), fun k j h => rdL1 e (by cases q : z k j with | false => rfl | true => rw [hz k j q] at h; cases h)⟩
theorem zQ_C {μ1 μ2 : Mem} (e : Lz zQ μ2 = Lz zQ μ1) : FrC μ2 μ1 := Lz_C (fun k j h => by
  unfold zQ at h; unfold zc
  simp only [Bool.or_eq_true, Bool.and_eq_true, Nat.ble_eq, Nat.beq_eq] at h ⊢
  omega) e
theorem zN_C {μ1 μ2 : Mem} (e : Lz zN μ2 = Lz zN μ1) : FrC μ2 μ1 := Lz_C (fun k j h => by
  unfold zN at h; unfold zc
  simp only [Bool.or_eq_true, Bool.and_eq_true, Nat.ble_eq, Nat.beq_eq] at h ⊢
  omega) e
def EC (Φ : Out → Mem → Prop) (μ : Mem) (w : WD) (r : Nat) (V : Nat → WD) (e1 e2 : Nat) (x : AR) : Prop := ∀ μ', FrC μ' μ → (match x.2 with
  | none => CI μ' w ∧ ACTC μ' r V
  | some w' => CI μ' w' ∧ ACTC μ' (nr r) (nV r V w)) → Φ (outR e1 e2 x.1) μ'
section ACTC
variable {g : Gl} {Φ : Out → Mem → Prop} {μ : Mem} {w : WD} {r : Nat} {V : Nat → WD} {e1 e2 : Nat}
theorem EC_1 {v : Int32} (H : EC Φ μ w r V e1 e2 ((1, v), none)) (c : CI μ w) (a : ACTC μ r V) : Φ (.inr e1) μ := H μ FrC_rfl ⟨c, a⟩
theorem EC_2 {v : Int32} (H : EC Φ μ w r V e1 e2 ((2, v), none)) (c : CI μ w) (a : ACTC μ r V) : Φ (.inr e2) μ := H μ FrC_rfl ⟨c, a⟩
theorem ACTC_z {z : Nat → Nat → Bool} {μ' : Mem} (e : Lz z μ' = Lz z μ) (h0 : z 0 8 = false) (h : ∀ k j, 92 ≤ k → k ≤ 139 → z k j = false) (a : ACTC μ r V) : ACTC μ' r V := by
  obtain ⟨h1, h2, h3, h4⟩ := a
  unfold ACTC
  rw [rdI1 e h0, rdP e]
  refine ⟨h1, h2, h3, fun k hk => ?_⟩
  obtain ⟨i, i1, i2⟩ := h3.1 k (by omega)
  exact RSta_mem (fun a a1 a2 => rdI e fun j => h a j (by omega) (by omega)) (rdL e fun j => h _ j (by omega) (by omega)) (h4 k hk)
theorem ACTC_N {μ' : Mem} (e : Lz zN μ' = Lz zN μ) (a : ACTC μ r V) : ACTC μ' r V := ACTC_z e rfl (fun k j h1 h2 => b_no fun q => by unfold zN at q; simp only [Bool.and_eq_true, Nat.ble_eq] at q; omega) a
theorem ACTC_Q {μ' : Mem} (e : Lz zQ μ' = Lz zQ μ) (a : ACTC μ r V) : ACTC μ' r V := ACTC_z e rfl (fun k j h1 h2 => b_no fun q => by unfold zQ at q; simp only [Bool.or_eq_true, Bool.and_eq_true, Nat.ble_eq] at q; omega) a
theorem EC_ok {v : Int32} {w' : WD} (H : EC Φ μ w r V e1 e2 ((0, v), some w')) {μ1 μ' : Mem} (f1 : FrA μ1 μ) (a1 : ACTC μ1 (nr r) (nV r V w)) (e : Lz zN μ' = Lz zN μ1) (c' : CI μ' w') : Φ (.inl (some (.int v))) μ' :=
  H μ' (FrC_tr (FrA_C f1) (zN_C e)) ⟨c', ACTC_N e a1⟩
theorem C_say (c : CI μ w) (ac : ACTC μ r V) {a b x : Int32} (H : EC Φ μ w r V 2 4 (a_say w a b x)) : Spec g i_SO_say 0 [.ref 0, .int a, .int b, .int x] μ Φ := by
  have p10 := ci_p10 c
  have t10 := ci_t10 c
  unfold a_say at H
  refine spi o_SO_say rfl (v_SO_say_0 ?_)
  rcases ix_cs (n := pe w) (by omega) a with ⟨ep, hp⟩ | ⟨p, hp, rfl, ep⟩
  · rw [gda_n ep] at H
    exact c_nP1 c hp (oVx (EC_1 H c ac))
  rw [gda_s ep] at H
  refine c_nP0 c hp (oV ?_)
  rcases ix_cs (n := th w) (by omega) b with ⟨et, ht⟩ | ⟨t, ht, rfl, et⟩
  · rw [gda_n et] at H
    exact c_nS2 c ht (oVx (EC_1 H c ac))
  rw [gda_s et] at H
  have w6 := (wf_wo c.2.1 (show t < 10 by omega)).2.1
  rcases ix_cs (n := wo w t) (by omega) x with ⟨eq, hq⟩ | ⟨q, hq, rfl, eq⟩
  · rw [gda_n eq] at H
    exact c_nS1 c ht hq (oVx (EC_1 H c ac))
  rw [gda_s eq] at H
  have hle : lef w t q = !sai w t q := by unfold lef; simp [hq]
  refine c_nS0 c ht hq (oV (c_can c (by omega) (by omega) (oI ⟨fun h => ?_, fun h => c_isL c (by omega) (by omega) (oI ⟨fun h2 => ?_, fun h2 => ?_⟩)⟩)))
  · have : ¬ (her w p && (kno w p t && !sai w t q)) = true := fun q => by
      have h := b2i_0.mp h
      rw [← Bool.and_assoc, h] at q; cases q
    rw [if_neg this] at H
    exact EC_2 H c ac
  · have h := b2i_n0.mp h
    have h2 := b2i_n0.mp h2
    rw [hle] at h2
    rw [if_pos (by rw [← Bool.and_assoc, h, h2]; rfl)] at H
    have hn : sai w t q = false := by simpa using h2
    refine c_rem ac c.1.2.1 fun μ2 f2 a2 => oV ?_
    exact c_speak (FrA_CI f2 c) hp ht hq hn fun μ3 e3 c3 _ => oI (EC_ok H f2 a2 e3 c3)
  · have h2 := b2i_0.mp h2
    rw [hle] at h2
    have : ¬ (her w p && (kno w p t && !sai w t q)) = true := fun q => by
      rw [h2] at q; simp at q
    rw [if_neg this] at H
    exact EC_2 H c ac
theorem C_think (c : CI μ w) (ac : ACTC μ r V) {a : Int32} (H : EC Φ μ w r V 2 0 (a_think w a)) : Spec g i_SO_think 0 [.ref 0, .int a] μ Φ := by
  have p10 := ci_p10 c
  unfold a_think at H
  refine spi o_SO_think rfl (v_SO_think_0 ?_)
  rcases ix_cs (n := pe w) (by omega) a with ⟨ep, hp⟩ | ⟨p, hp, rfl, ep⟩
  · rw [gda_n ep] at H
    exact c_nP1 c hp (oVx (EC_1 H c ac))
  rw [gda_s ep] at H
  refine c_nP0 c hp (oV (c_rem ac c.1.2.1 fun μ2 f2 a2 => oV ?_))
  have c2 := FrA_CI f2 c
  have v : vp_in (nI p) 10 := vp_in_nI (by omega) (by decide)
  rw [nx_nI (by omega), ci_kn c2 (by omega)]
  refine ⟨v, c_fol c2 (oI ⟨v, v, ?_⟩)⟩
  rw [rI_I, if_pos rfl, upd_s]
  have hb : ∀ i, th w ≤ i → i < 32 → bt (pf w p 4) i = false := (c.2.1.2.2.2.2.2.2.2.1 p (by omega)).2.2.2.2.1
  exact EC_ok H f2 a2 (Lz_I rfl) (CI_knS c2 (by omega) (clo_hi c.2.1 (Nat.le_refl _) hb 10))
theorem CI_ab (c : CI μ w) {p : Nat} {d : Bool} (hp : p < pe w) {x : Int32} (hx : x = msk 10 (fun o => !her (abW w p d) o)) : CI (sI μ 11 4 x) (abW w p d) := by
  have p10 := ci_p10 c
  refine ⟨CR_ag (abW_ag (by omega)) (Lz_I rfl) ?_ c.1, abW_WF c.2 hp⟩
  obtain ⟨s1, s2, s3, s4, s5, s6⟩ := c.1.2.1
  have lo : ∀ j, j ≠ 24 + 6 * p → (abW w p d).1 j = w.1 j := fun j hj => upd_n hj
  refine ⟨s1, s2.trans (lo 5 (by omega)).symm, s3.trans (lo 8 (by omega)).symm, s4.trans (lo 7 (by omega)).symm, fun o ho => ?_, ?_⟩
  · rw [abW_pf (by omega), abW_pf (by omega), abW_pf (by omega), if_neg (by omega), if_neg (by omega), if_neg (by omega), rI_I, if_neg (by omega), rI_I, if_neg (by omega), rI_I, if_neg (by omega)]
    exact s5 o ho
  · rw [rI_I, if_pos rfl, upd_s]; exact hx
theorem C_away (c : CI μ w) (ac : ACTC μ r V) {a : Int32} {d : Bool} (H : EC Φ μ w r V 2 0 (a_away w a d)) : Spec g i_SO_away 0 [.ref 0, .int a, .int (b2i d)] μ Φ := by
  have p10 := ci_p10 c
  unfold a_away at H
  refine spi o_SO_away rfl (v_SO_away_0 ?_)
  rcases ix_cs (n := pe w) (by omega) a with ⟨ep, hp⟩ | ⟨p, hp, rfl, ep⟩
  · rw [gda_n ep] at H
    exact c_nP1 c hp (oVx (EC_1 H c ac))
  rw [gda_s ep] at H
  refine c_nP0 c hp (oV (c_rem ac c.1.2.1 fun μ2 f2 a2 => oV ?_))
  have c2 := FrA_CI f2 c
  have heq : ∀ o, o < 10 → (!her (abW w p d) o) = if o = p then d else !her w o := fun o ho => by
    unfold her
    rw [abW_pf (by omega)]
    by_cases q : o = p
    · rw [if_pos ⟨q, rfl⟩, if_pos q]; cases d <;> rfl
    · rw [if_neg (fun h => q h.1), if_neg q]
  refine c_abs c2 (by omega) (oI ?_)
  rw [ci_abs c2]
  have k0 : d = false → msk 10 (fun o => !her w o) &&& (((1 : Int32) <<< (nI p &&& 31)) ^^^ (-1)) = msk 10 (fun o => !her (abW w p d) o) := fun hd => by
    apply msk_ext (by omega)
    intro i hi
    rw [b_and, b_msk (by omega) hi, b_not hi, b_1s (by omega) hi]
    by_cases q : i < 10
    · rw [heq i q, hd]
      by_cases q2 : i = p
      · simp [q2]
      · simp [q2]
    · simp [q]
  have k1 : d = true → msk 10 (fun o => !her w o) ||| ((1 : Int32) <<< (nI p &&& 31)) = msk 10 (fun o => !her (abW w p d) o) := fun hd => by
    apply msk_ext (by omega)
    intro i hi
    rw [b_or, b_msk (by omega) hi, b_1s (by omega) hi]
    by_cases q : i < 10
    · rw [heq i q, hd]
      by_cases q2 : i = p
      · simp [q2]; omega
      · simp [q2, q]
    · simp [q]; omega
  refine ⟨fun h => ?_, fun h => ?_⟩
  · have hd : d = false := b2i_0.mp h
    rw [k0 hd]
    have fin := EC_ok H f2 a2 (Lz_I rfl) (CI_ab c2 hp rfl)
    refine ⟨fun h2 => ?_, fun h2 => ?_⟩
    · rw [if_pos (by rw [h] at h2; rw [b2i_0.mp h2, hd])] at fin; exact z01 fin
    · rw [if_neg (fun q => h2 (by rw [q]))] at fin; exact z11 fin
  · have hd : d = true := b2i_n0.mp h
    rw [k1 hd]
    have fin := EC_ok H f2 a2 (Lz_I rfl) (CI_ab c2 hp rfl)
    refine ⟨fun h2 => ?_, fun h2 => ?_⟩
    · rw [if_pos (by rw [hd, show b2i true = 1 from rfl] at h2; rw [b2i_1.mp h2, hd])] at fin; exact z01 fin
    · rw [if_neg (fun q => h2 (by rw [q]))] at fin; exact z11 fin
theorem C_change (c : CI μ w) (ac : ACTC μ r V) {a b : Int32} (H : EC Φ μ w r V 2 0 (a_change w a b)) : Spec g i_SO_change 0 [.ref 0, .int a, .int b] μ Φ := by
  have p10 := ci_p10 c
  unfold a_change at H
  refine spi o_SO_change rfl (v_SO_change_0 ?_)
  rcases ix_cs (n := pe w) (by omega) a with ⟨ep, hp⟩ | ⟨p, hp, rfl, ep⟩
  · rw [gda_n ep] at H
    exact c_n2a c hp (oVx (EC_1 H c ac))
  rw [gda_s ep] at H
  rcases ix_cs (n := pe w) (by omega) b with ⟨eq, hq⟩ | ⟨q, hq, rfl, eq⟩
  · rw [gda_n eq] at H
    exact c_n2b c hp hq (oVx (EC_1 H c ac))
  rw [gda_s eq] at H
  by_cases hne : p = q
  · rw [if_pos hne] at H
    subst hne
    exact c_n2e c hp (oVx (EC_2 H c ac))
  rw [if_neg hne] at H
  refine c_n20 c hp hq hne (oV (c_rem ac c.1.2.1 fun μ2 f2 a2 => oV ?_))
  have c2 := FrA_CI f2 c
  refine c_swap c2 (by omega) (by omega) (oV ?_)
  have c3 := CI_trd c2 (show p < 10 by omega) (show q < 10 by omega)
  refine c_dist c3 (by omega) (by omega) (oI (EC_ok H f2 a2 ?_ c3))
  exact (Lz_I rfl).trans ((Lz_I rfl).trans ((Lz_I rfl).trans (Lz_I rfl)))
theorem C_day (c : CI μ w) (ac : ACTC μ r V) (H : EC Φ μ w r V 0 0 (a_day w)) : Spec g i_SO_day 0 [.ref 0] μ Φ := by
  have p10 := ci_p10 c
  refine spi o_SO_day rfl (v_SO_day_0 (c_rem ac c.1.2.1 fun μ2 f2 a2 => oV ?_))
  have c2 := FrA_CI f2 c
  refine c_bc (oI ?_)
  rw [ci_abs c2, bc_msk (by omega)]
  refine EC_ok H f2 a2 ((Lz_I rfl).trans (Lz_I rfl)) ⟨CR_ag dyW_ag ((Lz_I rfl).trans (Lz_I rfl)) ?_ c2.1, dyW_WF c.2⟩
  obtain ⟨s1, s2, s3, s4, s5, s6⟩ := c2.1.2.1
  have lo : ∀ j, j ≠ 5 → ¬ (19 ≤ j ∧ j < 79) → (dyW w).1 j = w.1 j := fun j hj h => (upd_n hj).trans (if_neg (by omega))
  refine ⟨s1, ?_, ?_, ?_, fun o ho => ?_, ?_⟩
  · rw [rI_I, if_pos rfl, upd_s, s2]
    exact (upd_s (f := (dyK w 10).1) (k := 5) (x := w.1 5 + 1)).symm
  · rw [rI_I, if_pos rfl, upd_n (by decide), rI_I, if_pos rfl, upd_n (by decide), lo 8 (by decide) (by omega)]; exact s3
  · rw [rI_I, if_pos rfl, upd_n (by decide), rI_I, if_pos rfl, upd_n (by decide), lo 7 (by decide) (by omega)]; exact s4
  · rw [dyW_pf (by omega), dyW_pf (by omega), dyW_pf (by omega), dyK_pf (by omega), dyK_pf (by omega), dyK_pf (by omega), if_neg (by omega), if_neg (by omega), if_neg (by omega), rI_I, if_neg (by omega), rI_I, if_neg (by omega), rI_I, if_neg (by omega), rI_I, if_neg (by omega), rI_I, if_neg (by omega), rI_I, if_neg (by omega)]
    exact s5 o ho
  · rw [rI_I, if_pos rfl, upd_n (by decide), rI_I, if_pos rfl, upd_s]
    symm
    rw [msk_0 (by omega)]
    intro o ho
    unfold her
    rw [dyW_pf (by omega), dyK_pf (by omega), if_pos ⟨ho, rfl⟩]; rfl
theorem C_term (c : CI μ w) (ac : ACTC μ r V) {a : Int32} (H : EC Φ μ w r V 0 0 (a_term w a)) : Spec g i_SO_term 0 [.ref 0, .int a] μ Φ := by
  unfold a_term at H
  refine spi o_SO_term rfl (v_SO_term_0 ?_)
  rcases ix_cs (n := 41) (by omega) a with ⟨ep, hp⟩ | ⟨n, hn, rfl, ep⟩
  · rw [gda_n ep] at H
    exact c_nM1 hp (oVx (EC_1 H c ac))
  rw [gda_s ep] at H
  refine c_nM0 (by omega) (oV (c_rem ac c.1.2.1 fun μ2 f2 a2 => oV ?_))
  exact c_run (FrA_CI f2 c) (by omega) fun μ3 e3 c3 _ => oI (EC_ok H f2 a2 e3 c3)
end ACTC
