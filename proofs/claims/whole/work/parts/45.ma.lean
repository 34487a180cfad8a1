/-! contracts of the reference: what is there, what a saying comes to -/
section MA
variable {g : Gl} {Φ : Out → Mem → Prop} {μ : Mem} {w : WD}
theorem mw_i (m : MW μ w) : mI μ 141 = w.1 := congrArg Prod.fst m.1
theorem mw_l (m : MW μ w) : mL μ 140 6 = w.2 := congrArg Prod.snd m.1
theorem m_th (m : MW μ w) (H : Φ (.inl (some (.int (nI (th w))))) μ) : Spec g i_Mo_things 0 [.ref 140] μ Φ := by
  refine spi o_Mo_things rfl (v_Mo_things_0 ⟨vin 0 rfl, ?_⟩)
  rw [mw_i m, show w.1 (nx 0) = nI (th w) from (wf_th m.2.1).1]; exact H
theorem m_pe (m : MW μ w) (H : Φ (.inl (some (.int (nI (pe w))))) μ) : Spec g i_Mo_people 0 [.ref 140] μ Φ := by
  refine spi o_Mo_people rfl (v_Mo_people_0 ⟨vin 1 rfl, ?_⟩)
  rw [mw_i m, show w.1 (nx 1) = nI (pe w) from (wf_pe m.2.1).1]; exact H
theorem m_ru (m : MW μ w) (H : Φ (.inl (some (.int (nI (ru w))))) μ) : Spec g i_Mo_rules 0 [.ref 140] μ Φ := by
  refine spi o_Mo_rules rfl (v_Mo_rules_0 ⟨vin 2 rfl, ?_⟩)
  rw [mw_i m, show w.1 (nx 2) = nI (ru w) from (wf_ru m.2.1).1]; exact H
theorem m_wo (m : MW μ w) {t : Nat} (ht : t < 10) (H : Φ (.inl (some (.int (nI (wo w t))))) μ) : Spec g i_Mo_wordings 0 [.ref 140, .int (nI t)] μ Φ := by
  refine spi o_Mo_wordings rfl (v_Mo_wordings_0 ?_)
  rw [show (9 : Int32) = nI 9 from rfl, nI_add]
  refine ⟨vp_in_nI (by omega) (by decide), ?_⟩
  rw [mw_i m, nx_nI (by omega), (wf_wo m.2.1 ht).1]; exact H
theorem m_at {p k : Nat} (H : Φ (.inl (some (.int (nI (19 + 6 * p + k))))) μ) : Spec g i_Mo_at 0 [.int (nI p), .int (nI k)] μ Φ := by
  refine spi o_Mo_at rfl (v_Mo_at_0 ?_)
  rw [show (19 : Int32) = nI 19 from rfl, show (6 : Int32) = nI 6 from rfl, pk_mul, nI_add, nI_add]; exact H
theorem m_of (m : MW μ w) {p k : Nat} (hp : p < 10) (hk : k < 6) (H : Φ (.inl (some (.int (pf w p k)))) μ) : Spec g i_Mo_of 0 [.ref 140, .int (nI p), .int (nI k)] μ Φ := by
  refine spi o_Mo_of rfl (v_Mo_of_0 (m_at (oI ⟨vp_in_nI (by omega) (by decide), ?_⟩)))
  rw [mw_i m, nx_nI (by omega)]; exact H
theorem m_has {x : Int32} {i : Nat} (hi : i < 32) (H : Φ (.inl (some (.int (b2i (bt x i))))) μ) : Spec g i_Mo_has 0 [.int x, .int (nI i)] μ Φ := by
  refine spi o_Mo_has rfl (v_Mo_has_0 ⟨fun h => ?_, fun h => ?_⟩)
  · rw [tb1 hi, Bool.not_eq_true] at h
    rw [b2i_f h] at H; exact z01 H
  · rw [tb1 hi] at h
    rw [b2i_t h] at H; exact z11 H
theorem m_kn (m : MW μ w) {p t : Nat} (hp : p < 10) (ht : t < 32) (H : Φ (.inl (some (.int (b2i (kno w p t))))) μ) : Spec g i_Mo_knows 0 [.ref 140, .int (nI p), .int (nI t)] μ Φ :=
  spi o_Mo_knows rfl (v_Mo_knows_0 (m_of (k := 4) m hp (by decide) (oI (m_has ht (oI ⟨b2i_or _, H⟩)))))
theorem m_her (m : MW μ w) {p : Nat} (hp : p < 10) (H : Φ (.inl (some (.int (b2i (her w p))))) μ) : Spec g i_Mo_isHere 0 [.ref 140, .int (nI p)] μ Φ := by
  refine spi o_Mo_isHere rfl (v_Mo_isHere_0 (m_of (k := 5) m hp (by decide) (oI ⟨fun h => ?_, fun h => ?_⟩)))
  · rw [b2i_f (by unfold her; simp [h])] at H; exact z01 H
  · rw [b2i_t (by unfold her; simp [h])] at H; exact z11 H
theorem m_rul (m : MW μ w) {k j : Nat} (hk : k < 12) (hj : j < 3) (H : Φ (.inl (some (.int (w.1 (79 + 3 * k + j))))) μ) : Spec g i_Mo_ofRule 0 [.ref 140, .int (nI k), .int (nI j)] μ Φ := by
  refine spi o_Mo_ofRule rfl (v_Mo_ofRule_0 ?_)
  rw [show (79 : Int32) = nI 79 from rfl, show (3 : Int32) = nI 3 from rfl, pk_mul, nI_add, nI_add]
  refine ⟨vp_in_nI (by omega) (by decide), ?_⟩
  rw [mw_i m, nx_nI (by omega)]; exact H
theorem m_in {a b c : Int32} (H : Φ (.inl (some (.int (b2i (decide (b ≤ a ∧ a ≤ c)))))) μ) : Spec g i_Mo_in 0 [.int a, .int b, .int c] μ Φ := by
  refine spi o_Mo_in rfl (v_Mo_in_0 ⟨fun h => ?_, fun h => ⟨fun h2 => ?_, fun h2 => ?_⟩⟩)
  · rw [b2i_f (by simp; intro q; exact absurd h (Int32.not_lt.mpr q))] at H; exact z01 H
  · rw [b2i_f (by simp; intro _; exact h2)] at H; exact z01 H
  · rw [b2i_t (by simp; exact ⟨Int32.not_lt.mp h, Int32.not_lt.mp h2⟩)] at H; exact z11 H
theorem in_yes {k n : Nat} (hk : k < n) (hn : n < 2 ^ 31) : decide ((0 : Int32) ≤ nI k ∧ nI k ≤ nI n - 1) = true := by
  obtain ⟨j, rfl⟩ : ∃ j, n = j + 1 := ⟨n - 1, by omega⟩
  rw [nI_pred]
  simp only [decide_eq_true_eq]
  exact ⟨nI_pos' (by omega), nI_le (by omega) (by omega)⟩
theorem in_no {a : Int32} {n : Nat} (h : a < 0 ∨ nI n ≤ a) (hn : n < 2 ^ 31) : decide ((0 : Int32) ≤ a ∧ a ≤ nI n - 1) = false := by
  simp only [decide_eq_false_iff_not]
  rintro ⟨h1, h2⟩
  rcases h with h | h
  · exact absurd h (Int32.not_lt.mpr h1)
  · have a1 := Int32.le_iff_toInt_le.mp h
    have a2 := Int32.le_iff_toInt_le.mp h2
    rw [nI_toInt hn] at a1
    cases n with
    | zero =>
      rw [show nI 0 - 1 = -1 by decide, show (-1 : Int32).toInt = -1 by decide] at a2
      have a0 := Int32.le_iff_toInt_le.mp h1
      rw [show (0 : Int32).toInt = 0 by decide] at a0
      omega
    | succ j => rw [nI_pred, nI_toInt (by omega)] at a2; omega
theorem m_nT0 (m : MW μ w) {t : Nat} (ht : t < th w) (H : Φ (.inl (some (.int 0))) μ) : Spec g i_Mo_noThing 0 [.ref 140, .int (nI t)] μ Φ := by
  have := (wf_th m.2.1).2
  refine spi o_Mo_noThing rfl (v_Mo_noThing_0 (m_th m (oI (m_in (oI ⟨fun _ => z01 H, fun h => ?_⟩)))))
  rw [in_yes ht (by omega)] at h; cases h
theorem m_nT1 (m : MW μ w) {a : Int32} (ha : a < 0 ∨ nI (th w) ≤ a) (H : Φ (.inl (some (.int 1))) μ) : Spec g i_Mo_noThing 0 [.ref 140, .int a] μ Φ := by
  have := (wf_th m.2.1).2
  refine spi o_Mo_noThing rfl (v_Mo_noThing_0 (m_th m (oI (m_in (oI ⟨fun h => ?_, fun _ => z11 H⟩)))))
  rw [in_no ha (by omega)] at h; exact absurd rfl h
theorem m_nP0 (m : MW μ w) {p : Nat} (hp : p < pe w) (H : Φ (.inl (some (.int 0))) μ) : Spec g i_Mo_noPerson 0 [.ref 140, .int (nI p)] μ Φ := by
  have := (wf_pe m.2.1).2
  refine spi o_Mo_noPerson rfl (v_Mo_noPerson_0 (m_pe m (oI (m_in (oI ⟨fun _ => z01 H, fun h => ?_⟩)))))
  rw [in_yes hp (by omega)] at h; cases h
theorem m_nP1 (m : MW μ w) {a : Int32} (ha : a < 0 ∨ nI (pe w) ≤ a) (H : Φ (.inl (some (.int 1))) μ) : Spec g i_Mo_noPerson 0 [.ref 140, .int a] μ Φ := by
  have := (wf_pe m.2.1).2
  refine spi o_Mo_noPerson rfl (v_Mo_noPerson_0 (m_pe m (oI (m_in (oI ⟨fun h => ?_, fun _ => z11 H⟩)))))
  rw [in_no ha (by omega)] at h; exact absurd rfl h
theorem m_nW0 (m : MW μ w) {t q : Nat} (ht : t < th w) (hq : q < wo w t) (H : Φ (.inl (some (.int 0))) μ) : Spec g i_Mo_noWording 0 [.ref 140, .int (nI t), .int (nI q)] μ Φ := by
  have := (wf_th m.2.1).2
  have := (wf_wo m.2.1 (show t < 10 by omega)).2.1
  refine spi o_Mo_noWording rfl (v_Mo_noWording_0 (m_nT0 m ht (oI ⟨fun h => absurd rfl h, fun _ => m_wo m (by omega) (oI (m_in (oI ⟨fun _ => z01 H, fun h => ?_⟩)))⟩)))
  rw [in_yes hq (by omega)] at h; cases h
theorem m_nW1 (m : MW μ w) {t : Nat} {b : Int32} (ht : t < th w) (hb : b < 0 ∨ nI (wo w t) ≤ b) (H : Φ (.inl (some (.int 1))) μ) : Spec g i_Mo_noWording 0 [.ref 140, .int (nI t), .int b] μ Φ := by
  have := (wf_th m.2.1).2
  have := (wf_wo m.2.1 (show t < 10 by omega)).2.1
  refine spi o_Mo_noWording rfl (v_Mo_noWording_0 (m_nT0 m ht (oI ⟨fun h => absurd rfl h, fun _ => m_wo m (by omega) (oI (m_in (oI ⟨fun h => ?_, fun _ => z11 H⟩)))⟩)))
  rw [in_no hb (by omega)] at h; exact absurd rfl h
theorem m_nW2 (m : MW μ w) {a b : Int32} (ha : a < 0 ∨ nI (th w) ≤ a) (H : Φ (.inl (some (.int 1))) μ) : Spec g i_Mo_noWording 0 [.ref 140, .int a, .int b] μ Φ :=
  spi o_Mo_noWording rfl (v_Mo_noWording_0 (m_nT1 m ha (oI ⟨fun _ => z11 H, fun h => absurd h (by decide)⟩)))
theorem m_sd (m : MW μ w) {t q : Nat} (ht : 6 * t + q < 64) (H : Φ (.inl (some (.int (b2i (sai w t q))))) μ) : Spec g i_Mo_isSaid 0 [.ref 140, .int (nI t), .int (nI q)] μ Φ := by
  refine spi o_Mo_isSaid rfl (v_Mo_isSaid_0 ?_)
  rw [show (6 : Int32) = nI 6 from rfl, pk_mul, nI_add, mw_l m, bl_cmp ht]
  refine ⟨fun h => ?_, fun h => ?_⟩
  · rw [b2i_f (show sai w t q = false by rw [Bool.not_eq_true] at h; exact h)] at H; exact z01 H
  · rw [b2i_t (show sai w t q = true from h)] at H; exact z11 H
theorem m_so {t q : Nat} (H : Φ (.inl (some (.int (nI (6 * t + q))))) μ) : Spec g i_Mo_sayingOf 0 [.int (nI t), .int (nI q)] μ Φ := by
  refine spi o_Mo_sayingOf rfl (v_Mo_sayingOf_0 ?_)
  rw [show (6 : Int32) = nI 6 from rfl, pk_mul, nI_add]; exact H
theorem m_apa (m : MW μ w) {p q : Nat} (hp : p < 10) (hq : q < 10) (H : Φ (.inl (some (.int (apa w p q)))) μ) : Spec g i_Mo_apartOf 0 [.ref 140, .int (nI p), .int (nI q)] μ Φ :=
  spi o_Mo_apartOf rfl (v_Mo_apartOf_0 (m_of (k := 0) m hp (by decide) (oI (m_of (k := 0) m hq (by decide) (oI (m_of (k := 1) m hp (by decide) (oI (m_of (k := 1) m hq (by decide) (oI H)))))))))
theorem m_knr (m : MW μ w) {t : Nat} (ht : t < 32) (H : Φ (.inl (some (.int (msk (pe w) (fun p => kno w p t))))) μ) : Spec g i_Mo_knowers 0 [.ref 140, .int (nI t)] μ Φ := by
  have p10 := (wf_pe m.2.1).2
  refine spi o_Mo_knowers rfl (v_Mo_knowers_0 (zup (P := fun k => WW g i_Mo_knowers 0 Φ 0 0 4 [(0, .ref 140), (1, .int (nI t)), (2, .int (msk k (fun p => kno w p t))), (3, .int (nI k))] [] μ) (pe w) ?_ ?_))
  · exact v_Mo_knowers_4 (m_pe m (oI ⟨fun _ => H, fun h => absurd (nI_le (Nat.le_refl _) (by omega)) h⟩))
  · intro k hk ih
    refine v_Mo_knowers_4 (m_pe m (oI ⟨fun h => absurd h (nI_ge hk (by omega)), fun _ => m_kn m (by omega) ht (oI ⟨fun h => ?_, fun h => ?_⟩)⟩))
    · rw [msk_f (f := fun p => kno w p t) (b2i_0.mp h), nI_succ] at ih; exact ih
    · rw [msk_t (f := fun p => kno w p t) (b2i_n0.mp h), nI_succ] at ih; exact ih
theorem m_here (m : MW μ w) (H : Φ (.inl (some (.int (msk (pe w) (her w))))) μ) : Spec g i_Mo_here 0 [.ref 140] μ Φ := by
  have p10 := (wf_pe m.2.1).2
  refine spi o_Mo_here rfl (v_Mo_here_0 (zup (P := fun k => WW g i_Mo_here 0 Φ 0 0 4 [(0, .ref 140), (1, .int (msk k (her w))), (2, .int (nI k))] [] μ) (pe w) ?_ ?_))
  · exact v_Mo_here_4 (m_pe m (oI ⟨fun _ => H, fun h => absurd (nI_le (Nat.le_refl _) (by omega)) h⟩))
  · intro k hk ih
    refine v_Mo_here_4 (m_pe m (oI ⟨fun h => absurd h (nI_ge hk (by omega)), fun _ => m_her m (by omega) (oI ⟨fun h => ?_, fun h => ?_⟩)⟩))
    · rw [msk_f (b2i_0.mp h), nI_succ] at ih; exact ih
    · rw [msk_t (b2i_n0.mp h), nI_succ] at ih; exact ih
theorem lf_wo (h : WFs w) {t : Nat} (ht : t < 10) : lf w t = ct (fun q => !sai w t q) (wo w t) := by
  have := (wf_wo h ht).2.1
  unfold lf
  rw [ct_out (m := wo w t) this (fun i h1 _ => by unfold lef; simp; omega)]
  exact ct_cong fun i hi => by unfold lef; simp [hi]
theorem m_lf (m : MW μ w) {t : Nat} (ht : t < 10) (H : Φ (.inl (some (.int (nI (lf w t))))) μ) : Spec g i_Mo_leftOf 0 [.ref 140, .int (nI t)] μ Φ := by
  have w6 := (wf_wo m.2.1 ht).2.1
  rw [lf_wo m.2.1 ht] at H
  refine spi o_Mo_leftOf rfl (v_Mo_leftOf_0 (zup (P := fun k => WW g i_Mo_leftOf 0 Φ 0 0 4 [(0, .ref 140), (1, .int (nI t)), (2, .int (nI (ct (fun q => !sai w t q) k))), (3, .int (nI k))] [] μ) (wo w t) ?_ ?_))
  · exact v_Mo_leftOf_4 (m_wo m ht (oI ⟨fun _ => H, fun h => absurd (nI_le (Nat.le_refl _) (by omega)) h⟩))
  · intro k hk ih
    refine v_Mo_leftOf_4 (m_wo m ht (oI ⟨fun h => absurd h (nI_ge hk (by omega)), fun _ => m_sd m (by omega) (oI ⟨fun h => ?_, fun h => ?_⟩)⟩))
    · rw [ct_t (f := fun q => !sai w t q) (by rw [b2i_0.mp h]; rfl), nI_succ, nI_succ] at ih; exact ih
    · rw [ct_f (f := fun q => !sai w t q) (by rw [b2i_n0.mp h]; rfl), nI_succ] at ih
      rw [i_a0]; exact ih
theorem enc_v (n : Int32) : enc (nI 0) n = -1 ∧ enc (nI 1) n = -2 ∧ enc (nI 2) n = -3 ∧ enc (nI 3) n = -4 ∧ enc (nI 4) n = -5 ∧ enc (nI 5) n = -6 ∧ enc (nI 6) n = -7 ∧ enc (nI 7) n = -8 := by
  unfold enc
  refine ⟨?_, ?_, ?_, ?_, ?_, ?_, ?_, ?_⟩ <;> (rw [if_neg (by decide), if_pos (by decide)]; decide)
theorem m_fac (m : MW μ w) {s n : Int32} {t q who whom : Nat} (hs : cok s n) (hs8 : s ≤ 8) (ht : t < 10) (hq : q < 6) (hw : who < 10) (hp : whom < 10) (H : Φ (.inl (some (.int (fac w who t q whom (kno w whom t) (enc s n))))) μ) :
    Spec g i_Mo_factOf 0 [.ref 140, .int s, .int n, .int (nI (6 * t + q)), .int (nI who), .int (nI whom)] μ Φ := by
  have d1 : nI (6 * t + q) / 6 = nI t := by rw [show (6 : Int32) = nI 6 from rfl, pk_div (by omega) (by decide) (by decide)]; congr 1; omega
  have d2 : nI (6 * t + q) - nI (6 * t + q) / 6 * 6 = nI q := by rw [show (6 : Int32) = nI 6 from rfl, pk_rem (by omega) (by decide) (by decide)]; congr 1; omega
  refine spi o_Mo_factOf rfl (v_Mo_factOf_0 ?_)
  rw [d2, d1]
  obtain ⟨f1, f2, f3, f4, f5, f6, f7, f8⟩ := fac_v (w := w) (who := who) (t := t) (q := q) (whom := whom) (k := kno w whom t)
  obtain ⟨v1, v2, v3, v4, v5, v6, v7, v8⟩ := enc_v n
  rcases hs with ⟨k, hk, rfl, rfl⟩ | ⟨j, hj, hj8, rfl⟩
  · refine ⟨fun h => absurd h (by decide), fun _ => ⟨fun h => absurd h (by decide), fun _ => ⟨fun h => absurd h (by decide), fun _ => ⟨fun h => absurd h (by decide), fun _ => ⟨fun h => absurd h (by decide), fun _ => ⟨fun h => absurd h (by decide), fun _ => ⟨fun h => absurd h (by decide), fun _ => ⟨fun h => absurd h (by decide), fun _ => ?_⟩⟩⟩⟩⟩⟩⟩⟩
    have : fac w who t q whom (kno w whom t) (enc 8 (nI k)) = nI k := by
      unfold fac; rw [show enc 8 (nI k) = nI k from if_pos rfl, if_pos (nI_pos' (by omega))]
    rw [this] at H; exact H
  · have hj7 : j < 8 := by
      have := (nI_leI (show j < 2 ^ 31 by omega) (show 8 < 2 ^ 31 by decide)).mp hs8; omega
    match j, hj7 with
    | 0, _ =>
      rw [v1, f1] at H
      exact ⟨fun _ => ⟨by decide, H⟩, fun h => absurd rfl h⟩
    | 1, _ =>
      rw [v2, f2] at H
      exact ⟨fun h => absurd h (by decide), fun _ => ⟨fun _ => ⟨by decide, H⟩, fun h => absurd rfl h⟩⟩
    | 2, _ =>
      rw [v3, f3] at H
      exact ⟨fun h => absurd h (by decide), fun _ => ⟨fun h => absurd h (by decide), fun _ => ⟨fun _ => H, fun h => absurd rfl h⟩⟩⟩
    | 3, _ =>
      rw [v4, f4] at H
      exact ⟨fun h => absurd h (by decide), fun _ => ⟨fun h => absurd h (by decide), fun _ => ⟨fun h => absurd h (by decide), fun _ => ⟨fun _ => H, fun h => absurd rfl h⟩⟩⟩⟩
    | 4, _ =>
      rw [v5, f5] at H
      exact ⟨fun h => absurd h (by decide), fun _ => ⟨fun h => absurd h (by decide), fun _ => ⟨fun h => absurd h (by decide), fun _ => ⟨fun h => absurd h (by decide), fun _ => ⟨fun _ => m_apa m hw hp (oI H), fun h => absurd rfl h⟩⟩⟩⟩⟩
    | 5, _ =>
      rw [v6, f6] at H
      exact ⟨fun h => absurd h (by decide), fun _ => ⟨fun h => absurd h (by decide), fun _ => ⟨fun h => absurd h (by decide), fun _ => ⟨fun h => absurd h (by decide), fun _ => ⟨fun h => absurd h (by decide), fun _ => ⟨fun _ => m_of (k := 2) m hp (by decide) (oI H), fun h => absurd rfl h⟩⟩⟩⟩⟩⟩
    | 6, _ =>
      rw [v7, f7] at H
      refine ⟨fun h => absurd h (by decide), fun _ => ⟨fun h => absurd h (by decide), fun _ => ⟨fun h => absurd h (by decide), fun _ => ⟨fun h => absurd h (by decide), fun _ => ⟨fun h => absurd h (by decide), fun _ => ⟨fun h => absurd h (by decide), fun _ => ⟨fun _ => ⟨vin 5 rfl, ?_⟩, fun h => absurd rfl h⟩⟩⟩⟩⟩⟩⟩
      rw [mw_i m]; exact H
    | 7, _ =>
      rw [v8, f8] at H
      refine ⟨fun h => absurd h (by decide), fun _ => ⟨fun h => absurd h (by decide), fun _ => ⟨fun h => absurd h (by decide), fun _ => ⟨fun h => absurd h (by decide), fun _ => ⟨fun h => absurd h (by decide), fun _ => ⟨fun h => absurd h (by decide), fun _ => ⟨fun h => absurd h (by decide), fun _ => ⟨fun _ => ⟨by decide, m_kn m hp (by omega) (oI ⟨fun h => ?_, fun h => ?_⟩)⟩, fun h => absurd rfl h⟩⟩⟩⟩⟩⟩⟩⟩
      · rw [b2i_0] at h; rw [h] at H; exact H
      · rw [b2i_n0] at h; rw [h] at H; exact H
/-- values as their types want them -/
def VT : List Bool → List Int32 → Prop
  | [], [] => True
  | b :: ts, x :: st => (b = true → x = 0 ∨ x = 1) ∧ VT ts st
  | _, _ => False
theorem VT_step {F : Int32 → Int32} (hF : F (-8) = 0 ∨ F (-8) = 1) {c : Int32} {ts us : List Bool} {st : List Int32} (h : tyS c ts = some us) (hv : VT ts st) : VT us (stp F c st) := by
  have i01 : ∀ p : Prop, [Decidable p] → ((if p then (1 : Int32) else 0) = 0 ∨ (if p then (1 : Int32) else 0) = 1) := fun p _ => by split <;> simp
  unfold tyS at h
  unfold stp
  split at h
  · rename_i q; rw [if_pos q, ← Option.some.inj h]
    refine ⟨fun hb => ?_, hv⟩
    simp only [decide_eq_true_eq] at hb; rw [hb]; exact hF
  · rename_i q0; rw [if_neg q0]
    split at h
    · rename_i q1; rw [if_pos q1]
      split at h
      · rw [← Option.some.inj h]
        match st, hv with
        | x :: s, hv =>
          refine ⟨fun hb => ?_, hv.2⟩
          rcases hv.1 rfl with e | e <;> rw [e]
          · exact Or.inr rfl
          · exact Or.inl rfl
      · cases h
    · rename_i q1; rw [if_neg q1]
      split at h
      · split at h
        · rw [← Option.some.inj h]
          match st, hv with
          | x :: y :: s, hv => exact ⟨fun hb => (Bool.noConfusion hb : _), hv.2.2⟩
        · cases h
      · rename_i q2
        split at h
        · rename_i q3
          split at h
          · rw [← Option.some.inj h]
            match st, hv with
            | x :: y :: s, hv =>
              refine ⟨fun _ => ?_, hv.2.2⟩
              unfold opr; rw [if_neg q2]
              rcases q3 with q3 | q3
              · rw [if_pos q3]; exact i01 _
              · rw [if_neg (by rw [q3]; decide), if_pos q3]; exact i01 _
          · cases h
        · rename_i q3
          split at h
          · rename_i q4
            split at h
            · rw [← Option.some.inj h]
              match st, hv with
              | x :: y :: s, hv =>
                refine ⟨fun _ => ?_, hv.2.2⟩
                unfold opr
                rw [if_neg q2, if_neg (fun e => q3 (Or.inl e)), if_neg (fun e => q3 (Or.inr e))]
                rcases hv.1 rfl with e1 | e1 <;> rcases hv.2.1 rfl with e2 | e2 <;> rw [e1, e2] <;> split <;> decide
            · cases h
          · cases h
theorem VT_run {cd : Nat → Int32} {F : Int32 → Int32} (hF : F (-8) = 0 ∨ F (-8) = 1) {s : Nat} : ∀ {n : Nat} {ts : List Bool}, tyR cd s n = some ts → VT ts (rns cd F s n) := by
  intro n
  induction n with
  | zero => intro ts h; rw [← Option.some.inj h]; trivial
  | succ n ih =>
    intro ts h
    have h' : (tyR cd s n).bind (tyS (cd (s + n))) = some ts := h
    cases hn : tyR cd s n with
    | none => rw [hn] at h'; cases h'
    | some us => rw [hn] at h'; exact VT_step hF h' (ih hn)
theorem MW_149 (m : MW μ w) (f : Nat → Int32) : MW (sRI μ 149 f) w := m
end MA
