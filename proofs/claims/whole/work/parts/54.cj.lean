/-! trials; who can still learn -/
section TRANS
variable {w v : WD} {μ μ' : Mem} {b : Nat}
theorem RSet_su (h : suS w v) (k : RSet b μ w) : RSet b μ v := by
  obtain ⟨a1, a2, a3, a4, a5, a6, a7, a8⟩ := k
  refine ⟨a1.trans (h 0 (by omega) (by omega) (by omega) (by omega) (by omega)).symm, a2.trans (h 1 (by omega) (by omega) (by omega) (by omega) (by omega)).symm, a3.trans (h 2 (by omega) (by omega) (by omega) (by omega) (by omega)).symm, a4.trans (h 6 (by omega) (by omega) (by omega) (by omega) (by omega)).symm, a5.trans (h 3 (by omega) (by omega) (by omega) (by omega) (by omega)).symm, fun t ht => (a6 t ht).trans (h (9 + t) (by omega) (by omega) (by omega) (by omega) (by omega)).symm, fun p hp => ?_, fun j hj => ?_⟩
  · have e2 : pf v p 2 = pf w p 2 := h _ (by omega) (by omega) (by omega) (by omega) (by omega)
    have e3 : pf v p 3 = pf w p 3 := h _ (by omega) (by omega) (by omega) (by omega) (by omega)
    rw [e2, e3]; exact a7 p hp
  · rw [h (79 + 3 * j) (by omega) (by omega) (by omega) (by omega) (by omega), h (79 + 3 * j + 1) (by omega) (by omega) (by omega) (by omega) (by omega), h (79 + 3 * j + 2) (by omega) (by omega) (by omega) (by omega) (by omega)]; exact a8 j hj
theorem su_ln (h : suS w v) (n k : Nat) : ln v n k = ln w n k := h _ (by omega) (by omega) (by omega) (by omega) (by omega)
theorem su_cod (h : suS w v) : cod v = cod w := by funext i; unfold cod; rw [h (1064 + 2 * i) (by omega) (by omega) (by omega) (by omega) (by omega), h (1065 + 2 * i) (by omega) (by omega) (by omega) (by omega) (by omega)]
theorem su_li (h : suS w v) : li v = li w := by unfold li; rw [h 4 (by omega) (by omega) (by omega) (by omega) (by omega), h 1015 (by omega) (by omega) (by omega) (by omega) (by omega)]
theorem RLaw_su (h : suS w v) (k : RLaw b μ w) : RLaw b μ v := by
  obtain ⟨b1, b2, b3, b4⟩ := k
  have ecl : cle v = cle w := by unfold cle len; rw [su_li h, su_ln h]
  unfold RLaw
  rw [h 4 (by omega) (by omega) (by omega) (by omega) (by omega), h 1015 (by omega) (by omega) (by omega) (by omega) (by omega), ecl, su_cod h, su_li h]
  refine ⟨b1, b2, fun n hn => ?_, b4⟩
  rw [su_ln h, su_ln h, su_ln h]; exact b3 n hn
theorem suS_symm (h : suS w v) : suS v w := fun j a b c d e => (h j a b c d e).symm
theorem RSet_mem (e : ∀ k, b ≤ k → k ≤ b + 6 → mI μ' k = mI μ k) (k : RSet b μ w) : RSet b μ' w := by
  unfold RSet at *
  rw [e b (by omega) (by omega), e (b + 1) (by omega) (by omega), e (b + 2) (by omega) (by omega), e (b + 3) (by omega) (by omega), e (b + 4) (by omega) (by omega), e (b + 5) (by omega) (by omega), e (b + 6) (by omega) (by omega)]; exact k
theorem RSta_mem (e : ∀ k, b ≤ k → k ≤ b + 3 → mI μ' k = mI μ k) (el : mL μ' b = mL μ b) (k : RSta b μ w) : RSta b μ' w := by
  unfold RSta at *
  rw [e b (by omega) (by omega), e (b + 1) (by omega) (by omega), e (b + 2) (by omega) (by omega), e (b + 3) (by omega) (by omega), el]; exact k
theorem RLaw_mem (e0 : mI μ' b 0 = mI μ b 0) (e5 : mI μ' b 5 = mI μ b 5) (e : ∀ k, b + 1 ≤ k → k ≤ b + 4 → mI μ' k = mI μ k) (k : RLaw b μ w) : RLaw b μ' w := by
  unfold RLaw at *
  rw [e0, e5, e (b + 1) (by omega) (by omega), e (b + 2) (by omega) (by omega), e (b + 3) (by omega) (by omega), e (b + 4) (by omega) (by omega)]; exact k
theorem RLog_mem (e : ∀ k, b + 1 ≤ k → k ≤ b + 6 → mI μ' k = mI μ k) (el : mL μ' (b + 5) = mL μ (b + 5)) (k : RLog b μ w) : RLog b μ' w := by
  unfold RLog at *
  rw [e (b + 1) (by omega) (by omega), e (b + 2) (by omega) (by omega), e (b + 3) (by omega) (by omega), e (b + 4) (by omega) (by omega), e (b + 6) (by omega) (by omega), el]; exact k
/-- the log's old rows are the same -/
theorem RLog_LK {n : Nat} (hn : lg w ≤ n) (k : LK n μ' μ) (hz : ∀ j, j < 60 → mI μ' 28 j = 0 ∨ mI μ' 28 j = 1) (h : RLog 22 μ w) : RLog 22 μ' w := by
  refine ⟨fun r hr => ?_, hz⟩
  obtain ⟨d1, d2, d3, d4, d5, d6⟩ := h.1 r hr
  obtain ⟨k1, k2, k3, k4, k5, k6⟩ := k (lg w - 1 - r) (by omega)
  exact ⟨k1.trans d1, k2.trans d2, k3.trans d3, k4.trans d4, k6.trans d5, fun p hp hb => by
    show nib (mL μ' 27 _) p = _
    rw [k5]; exact d6 p hp hb⟩
end TRANS
def sdW (w : WD) (s : Int32) : WD := (upd w.1 8 s, w.2)
theorem sdW_ag {w : WD} {s : Int32} : agS w (sdW w s) := fun j _ h8 _ => upd_n h8
theorem sdW_pf {w : WD} {s : Int32} {p k : Nat} : pf (sdW w s) p k = pf w p k := upd_n (by omega)
theorem sdW_WF {w : WD} {s : Int32} (h : WF w) : WF (sdW w s) := WF_ag sdW_ag rfl (fun p hp => WFp_c sdW_ag (fun _ _ => sdW_pf) (h.1.2.2.2.2.2.2.2.1 p hp)) h
theorem CI_sd {μ : Mem} {w : WD} (c : CI μ w) {s : Int32} : CI (sI μ 11 6 s) (sdW w s) := by
  refine ⟨CR_ag sdW_ag (Lz_I rfl) ?_ c.1, sdW_WF c.2⟩
  obtain ⟨s1, s2, s3, s4, s5, s6⟩ := c.1.2.1
  refine ⟨s1, ?_, ?_, ?_, fun r hr => ?_, ?_⟩
  · show _ = upd w.1 8 s 5; rw [upd_n (by decide)]; exact s2
  · show upd (mI μ 11) 6 s 6 = upd w.1 8 s 8; rw [upd_s, upd_s]
  · show _ = upd w.1 8 s 7; rw [upd_n (by decide)]; exact s4
  · rw [sdW_pf, sdW_pf, sdW_pf]; exact s5 r hr
  · show mI μ 11 4 = _
    rw [s6]; apply msk_cong; intro i _
    unfold her; rw [sdW_pf]
/-- a trial's answer -/
def tyA (w : WD) (s : Int32) (n : Nat) (o : Option Nat) : Nat := match o with
  | none => (tmW (sdW w s) n).2
  | some t => ct (fun p => kno (tmW (sdW w s) n).1 p t) (pe w)
def zNH (k _j : Nat) : Bool := Nat.ble 4 k && Nat.ble k 32
theorem zN_NH {μ μ' : Mem} (e : Lz zN μ' = Lz zN μ) : Lz zNH μ' = Lz zNH μ := Lz_up (fun k j h => by
  unfold zN at h; unfold zNH
  simp only [Bool.and_eq_true] at h ⊢
  exact ⟨h.1, Nat.ble_eq_true_of_le (Nat.le_trans (Nat.le_of_ble_eq_true h.2) (by decide))⟩) e
theorem ble_le {a b : Nat} : Nat.ble a b = true ↔ a ≤ b := ⟨Nat.le_of_ble_eq_true, Nat.ble_eq_true_of_le⟩
section CK
variable {g : Gl} {Φ : Out → Mem → Prop} {μ : Mem} {w : WD}
theorem c_try (c : CI μ w) {n : Nat} (hn : n < 2 ^ 31) {s : Int32} {o : Option Nat} (ho : ∀ t, o = some t → t < th w) (H : ∀ μ', Lz zNH μ' = Lz zNH μ → CI μ' w → LK (lg w) μ' μ → Φ (.inl (some (.int (nI (tyA w s n o))))) μ') :
    Spec g i_Sch_tryTerm 0 [.ref 3, .int (nI n), .int s, .int (ov o)] μ Φ := by
  have p10 := ci_p10 c
  have t10 := ci_t10 c
  refine spi o_Sch_tryTerm rfl (v_Sch_tryTerm_0 (c_cpS_29_11 c.1.2.1 fun μ1 e1 h29 => oV ?_))
  have e1v : Lv μ1 = Lv μ := Lz_up (fun k j h => by
    unfold zR at h; unfold scr
    simp only [Bool.and_eq_true, ble_le] at h
    have a : Nat.ble 29 k = true := ble_le.mpr h.1
    have b : Nat.ble k 33 = true := ble_le.mpr (by omega)
    rw [a, b]; rfl) e1
  have e1h : Lz zNH μ1 = Lz zNH μ := Lz_up (fun k j h => by
    unfold zR at h; unfold zNH
    simp only [Bool.and_eq_true, ble_le] at h ⊢
    omega) e1
  have c1 := c.lv e1v
  have cd := CI_sd c1 (s := s)
  refine c_run cd hn fun μ2 e2 c2 k2 => oI ?_
  obtain ⟨t1, t2, t3, t4⟩ := tmW_ok cd.2 n
  have su : suS w (tmW (sdW w s) n).1 := suS_tr (agS_su sdW_ag) t2
  have elg : lg (sdW w s) = lg w := agS_lg sdW_ag
  have h29b : RSta 29 μ2 w := by
    have r : ∀ k, 29 ≤ k → k ≤ 32 → mI μ2 k = mI (sI μ1 11 6 s) k := fun k h1 h2 => rdI e2 fun j => by
      unfold zN
      have : Nat.ble k 28 = false := by
        cases hb : Nat.ble k 28 with
        | false => rfl
        | true => have := ble_le.mp hb; omega
      rw [this]; simp
    refine RSta_mem (μ := μ1) (fun k h1 h2 => ?_) ?_ h29
    · rw [r k h1 h2, rI_I, if_neg (by omega)]
    · exact (rdL (z := zN) e2 fun _ => rfl).trans rfl
  have e2h : Lz zNH μ2 = Lz zNH μ := (zN_NH e2).trans ((Lz_I rfl).trans e1h)
  have k2' : LK (lg w) μ2 μ := LK_tr (Nat.le_refl _) (LK_tr (Nat.le_refl _) (LK_lv e1v) (LK_same rfl rfl rfl rfl rfl rfl)) (by rw [elg] at k2; exact k2)
  have back : ∀ (μ3 : Mem) (Ψ : Out → Mem → Prop), μ3 = μ2 → (∀ μ4, Lz zNH μ4 = Lz zNH μ → CI μ4 w → LK (lg w) μ4 μ → Ψ (.inl none) μ4) → Spec g i_Sta_copyFrom 0 [.ref 11, .ref 29] μ3 Ψ := by
    intro μ3 Ψ h3 hΨ
    subst h3
    refine c_cpS_11_29 h29b fun μ4 e4 h11 => ?_
    have e4h : Lz zNH μ4 = Lz zNH μ3 := Lz_up (fun k j h => by
      unfold zR at h; unfold zNH
      simp only [Bool.and_eq_true, ble_le] at h ⊢
      omega) e4
    have r : ∀ k, (k < 11 ∨ 14 < k) → mI μ4 k = mI μ3 k := fun k hk => rdI e4 fun j => by
      unfold zR
      cases h1 : Nat.ble 11 k with
      | false => rfl
      | true => cases h2 : Nat.ble k (11 + 3) with
        | false => rfl
        | true => have := ble_le.mp h1; have := ble_le.mp h2; omega
    have rl : mL μ4 27 = mL μ3 27 := rdL e4 fun _ => rfl
    refine hΨ μ4 (e4h.trans e2h) ⟨⟨?_, h11, ?_, ?_⟩, c.2⟩ ?_
    · exact RSet_su (suS_symm su) (RSet_mem (fun k h1 h2 => r k (by omega)) c2.1.1)
    · exact RLaw_su (suS_symm su) (RLaw_mem (congrFun (r 15 (by omega)) 0) (congrFun (r 15 (by omega)) 5) (fun k h1 h2 => r k (by omega)) c2.1.2.2.1)
    · refine RLog_LK (Nat.le_refl _) (LK_tr (Nat.le_refl _) k2' (LK_same (r 23 (by omega)) (r 24 (by omega)) (r 25 (by omega)) (r 26 (by omega)) rl (r 28 (by omega)))) (fun j hj => ?_) c.1.2.2.2
      rw [r 28 (by omega)]; exact c2.1.2.2.2.2 j hj
    · exact LK_tr (Nat.le_refl _) k2' (LK_same (r 23 (by omega)) (r 24 (by omega)) (r 25 (by omega)) (r 26 (by omega)) rl (r 28 (by omega)))
  cases o with
  | none =>
    refine ⟨fun h => absurd rfl h, fun _ => back μ2 _ rfl fun μ4 a b d => oV (H μ4 a b d)⟩
  | some t =>
    have ht := ho t rfl
    refine ⟨fun _ => ?_, fun h => absurd h (fun e => nI_pos (n := t) (by omega) (by rw [show nI t = -1 from e]; decide))⟩
    refine c_knr c2 (t := t) (by omega) (oI (c_bc (oI (back μ2 _ rfl fun μ4 a b d => oV ?_))))
    rw [bc_msk (by rw [suS_pe su]; exact p10), suS_pe su]
    exact H μ4 a b d
end CK
