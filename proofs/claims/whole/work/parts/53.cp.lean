/-! contracts of copies, by program (wip/whole/gen_cp.py) -/
def zR (a n k _j : Nat) : Bool := Nat.ble a k && Nat.ble k (a + n)
theorem acp0 {n k0 k1 : Nat} (h0 : (Nat.ble n (sh k0).2 && (Nat.ble n (sh k1).2 && Nat.ble n 1000)) = true) : acpOK 0 0 (nI n) k0 k1 := by
  simp only [Bool.and_eq_true] at h0
  have a := Nat.le_of_ble_eq_true h0.1
  have b := Nat.le_of_ble_eq_true h0.2.1
  have c := Nat.le_of_ble_eq_true h0.2.2
  refine ⟨by decide, by decide, nI_pos (by omega), ?_, ?_⟩
  · show 0 + nx (nI n) ≤ _; rw [nx_nI (by omega)]; omega
  · show 0 + nx (nI n) ≤ _; rw [nx_nI (by omega)]; omega
theorem cpI {f g : Nat → Int32} {n j : Nat} (hn : n ≤ 1000) (h : j < n) : va_cpy f g (nx 0) (nx 0) (nx (nI n)) j = f j := by
  rw [nx_nI (by omega)]; exact sb_cpy0 h
theorem cpL {f g : Nat → Int64} {n j : Nat} (hn : n ≤ 1000) (h : j < n) : va_cpy f g (nx 0) (nx 0) (nx (nI n)) j = f j := by
  rw [nx_nI (by omega)]
  have := pk_cpy_in (f := f) (g := g) (sp := 0) (dp := 0) (n := n) (j := j) (Nat.zero_le _) (by omega)
  rw [Nat.sub_zero, Nat.zero_add] at this; exact this
theorem cle_400 {w : WD} (h : WF w) : cle w ≤ 400 := by
  unfold cle; split
  · omega
  · exact (wf_ln h (show li w - 1 < li w by omega)).2.2.2.2.2.2.2.1
section CP
variable {g : Gl} {Φ : Out → Mem → Prop} {μ : Mem} {w : WD}
theorem c_cpS_29_11 (h : RSta 11 μ w) (H : ∀ μ', Lz (zR 29 3) μ' = Lz (zR 29 3) μ → RSta 29 μ' w → Φ (.inl none) μ') : Spec g i_Sta_copyFrom 0 [.ref 29, .ref 11] μ Φ := by
  obtain ⟨s1, s2, s3, s4, s5, s6⟩ := h
  refine spi o_Sta_copyFrom rfl (v_Sta_copyFrom_29_11_0 ⟨acp0 (n := 10) rfl, acp0 (n := 10) rfl, acp0 (n := 10) rfl, H _ ?_ ⟨s1, s2, s3, s4, fun p hp => ?_, s6⟩⟩)
  · exact (Lz_RI fun _ => rfl).trans ((Lz_RI fun _ => rfl).trans ((Lz_RI fun _ => rfl).trans ((Lz_I rfl).trans ((Lz_I rfl).trans ((Lz_I rfl).trans ((Lz_I rfl).trans (Lz_L rfl)))))))
  · obtain ⟨t1, t2, t3⟩ := s5 p hp
    exact ⟨(cpI (n := 10) (by decide) hp).trans t1, (cpI (n := 10) (by decide) hp).trans t2, (cpI (n := 10) (by decide) hp).trans t3⟩
theorem c_cpS_11_29 (h : RSta 29 μ w) (H : ∀ μ', Lz (zR 11 3) μ' = Lz (zR 11 3) μ → RSta 11 μ' w → Φ (.inl none) μ') : Spec g i_Sta_copyFrom 0 [.ref 11, .ref 29] μ Φ := by
  obtain ⟨s1, s2, s3, s4, s5, s6⟩ := h
  refine spi o_Sta_copyFrom rfl (v_Sta_copyFrom_11_29_0 ⟨acp0 (n := 10) rfl, acp0 (n := 10) rfl, acp0 (n := 10) rfl, H _ ?_ ⟨s1, s2, s3, s4, fun p hp => ?_, s6⟩⟩)
  · exact (Lz_RI fun _ => rfl).trans ((Lz_RI fun _ => rfl).trans ((Lz_RI fun _ => rfl).trans ((Lz_I rfl).trans ((Lz_I rfl).trans ((Lz_I rfl).trans ((Lz_I rfl).trans (Lz_L rfl)))))))
  · obtain ⟨t1, t2, t3⟩ := s5 p hp
    exact ⟨(cpI (n := 10) (by decide) hp).trans t1, (cpI (n := 10) (by decide) hp).trans t2, (cpI (n := 10) (by decide) hp).trans t3⟩
theorem c_cpS_42_11 (h : RSta 11 μ w) (H : ∀ μ', Lz (zR 42 3) μ' = Lz (zR 42 3) μ → RSta 42 μ' w → Φ (.inl none) μ') : Spec g i_Sta_copyFrom 0 [.ref 42, .ref 11] μ Φ := by
  obtain ⟨s1, s2, s3, s4, s5, s6⟩ := h
  refine spi o_Sta_copyFrom rfl (v_Sta_copyFrom_42_11_0 ⟨acp0 (n := 10) rfl, acp0 (n := 10) rfl, acp0 (n := 10) rfl, H _ ?_ ⟨s1, s2, s3, s4, fun p hp => ?_, s6⟩⟩)
  · exact (Lz_RI fun _ => rfl).trans ((Lz_RI fun _ => rfl).trans ((Lz_RI fun _ => rfl).trans ((Lz_I rfl).trans ((Lz_I rfl).trans ((Lz_I rfl).trans ((Lz_I rfl).trans (Lz_L rfl)))))))
  · obtain ⟨t1, t2, t3⟩ := s5 p hp
    exact ⟨(cpI (n := 10) (by decide) hp).trans t1, (cpI (n := 10) (by decide) hp).trans t2, (cpI (n := 10) (by decide) hp).trans t3⟩
theorem c_cpS_11_42 (h : RSta 42 μ w) (H : ∀ μ', Lz (zR 11 3) μ' = Lz (zR 11 3) μ → RSta 11 μ' w → Φ (.inl none) μ') : Spec g i_Sta_copyFrom 0 [.ref 11, .ref 42] μ Φ := by
  obtain ⟨s1, s2, s3, s4, s5, s6⟩ := h
  refine spi o_Sta_copyFrom rfl (v_Sta_copyFrom_11_42_0 ⟨acp0 (n := 10) rfl, acp0 (n := 10) rfl, acp0 (n := 10) rfl, H _ ?_ ⟨s1, s2, s3, s4, fun p hp => ?_, s6⟩⟩)
  · exact (Lz_RI fun _ => rfl).trans ((Lz_RI fun _ => rfl).trans ((Lz_RI fun _ => rfl).trans ((Lz_I rfl).trans ((Lz_I rfl).trans ((Lz_I rfl).trans ((Lz_I rfl).trans (Lz_L rfl)))))))
  · obtain ⟨t1, t2, t3⟩ := s5 p hp
    exact ⟨(cpI (n := 10) (by decide) hp).trans t1, (cpI (n := 10) (by decide) hp).trans t2, (cpI (n := 10) (by decide) hp).trans t3⟩
theorem c_cpS_78_11 (h : RSta 11 μ w) (H : ∀ μ', Lz (zR 78 3) μ' = Lz (zR 78 3) μ → RSta 78 μ' w → Φ (.inl none) μ') : Spec g i_Sta_copyFrom 0 [.ref 78, .ref 11] μ Φ := by
  obtain ⟨s1, s2, s3, s4, s5, s6⟩ := h
  refine spi o_Sta_copyFrom rfl (v_Sta_copyFrom_78_11_0 ⟨acp0 (n := 10) rfl, acp0 (n := 10) rfl, acp0 (n := 10) rfl, H _ ?_ ⟨s1, s2, s3, s4, fun p hp => ?_, s6⟩⟩)
  · exact (Lz_RI fun _ => rfl).trans ((Lz_RI fun _ => rfl).trans ((Lz_RI fun _ => rfl).trans ((Lz_I rfl).trans ((Lz_I rfl).trans ((Lz_I rfl).trans ((Lz_I rfl).trans (Lz_L rfl)))))))
  · obtain ⟨t1, t2, t3⟩ := s5 p hp
    exact ⟨(cpI (n := 10) (by decide) hp).trans t1, (cpI (n := 10) (by decide) hp).trans t2, (cpI (n := 10) (by decide) hp).trans t3⟩
theorem c_cpS_11_78 (h : RSta 78 μ w) (H : ∀ μ', Lz (zR 11 3) μ' = Lz (zR 11 3) μ → RSta 11 μ' w → Φ (.inl none) μ') : Spec g i_Sta_copyFrom 0 [.ref 11, .ref 78] μ Φ := by
  obtain ⟨s1, s2, s3, s4, s5, s6⟩ := h
  refine spi o_Sta_copyFrom rfl (v_Sta_copyFrom_11_78_0 ⟨acp0 (n := 10) rfl, acp0 (n := 10) rfl, acp0 (n := 10) rfl, H _ ?_ ⟨s1, s2, s3, s4, fun p hp => ?_, s6⟩⟩)
  · exact (Lz_RI fun _ => rfl).trans ((Lz_RI fun _ => rfl).trans ((Lz_RI fun _ => rfl).trans ((Lz_I rfl).trans ((Lz_I rfl).trans ((Lz_I rfl).trans ((Lz_I rfl).trans (Lz_L rfl)))))))
  · obtain ⟨t1, t2, t3⟩ := s5 p hp
    exact ⟨(cpI (n := 10) (by decide) hp).trans t1, (cpI (n := 10) (by decide) hp).trans t2, (cpI (n := 10) (by decide) hp).trans t3⟩
theorem c_cpS_92_11 (h : RSta 11 μ w) (H : ∀ μ', Lz (zR 92 3) μ' = Lz (zR 92 3) μ → RSta 92 μ' w → Φ (.inl none) μ') : Spec g i_Sta_copyFrom 0 [.ref 92, .ref 11] μ Φ := by
  obtain ⟨s1, s2, s3, s4, s5, s6⟩ := h
  refine spi o_Sta_copyFrom rfl (v_Sta_copyFrom_92_11_0 ⟨acp0 (n := 10) rfl, acp0 (n := 10) rfl, acp0 (n := 10) rfl, H _ ?_ ⟨s1, s2, s3, s4, fun p hp => ?_, s6⟩⟩)
  · exact (Lz_RI fun _ => rfl).trans ((Lz_RI fun _ => rfl).trans ((Lz_RI fun _ => rfl).trans ((Lz_I rfl).trans ((Lz_I rfl).trans ((Lz_I rfl).trans ((Lz_I rfl).trans (Lz_L rfl)))))))
  · obtain ⟨t1, t2, t3⟩ := s5 p hp
    exact ⟨(cpI (n := 10) (by decide) hp).trans t1, (cpI (n := 10) (by decide) hp).trans t2, (cpI (n := 10) (by decide) hp).trans t3⟩
theorem c_cpS_96_11 (h : RSta 11 μ w) (H : ∀ μ', Lz (zR 96 3) μ' = Lz (zR 96 3) μ → RSta 96 μ' w → Φ (.inl none) μ') : Spec g i_Sta_copyFrom 0 [.ref 96, .ref 11] μ Φ := by
  obtain ⟨s1, s2, s3, s4, s5, s6⟩ := h
  refine spi o_Sta_copyFrom rfl (v_Sta_copyFrom_96_11_0 ⟨acp0 (n := 10) rfl, acp0 (n := 10) rfl, acp0 (n := 10) rfl, H _ ?_ ⟨s1, s2, s3, s4, fun p hp => ?_, s6⟩⟩)
  · exact (Lz_RI fun _ => rfl).trans ((Lz_RI fun _ => rfl).trans ((Lz_RI fun _ => rfl).trans ((Lz_I rfl).trans ((Lz_I rfl).trans ((Lz_I rfl).trans ((Lz_I rfl).trans (Lz_L rfl)))))))
  · obtain ⟨t1, t2, t3⟩ := s5 p hp
    exact ⟨(cpI (n := 10) (by decide) hp).trans t1, (cpI (n := 10) (by decide) hp).trans t2, (cpI (n := 10) (by decide) hp).trans t3⟩
theorem c_cpS_100_11 (h : RSta 11 μ w) (H : ∀ μ', Lz (zR 100 3) μ' = Lz (zR 100 3) μ → RSta 100 μ' w → Φ (.inl none) μ') : Spec g i_Sta_copyFrom 0 [.ref 100, .ref 11] μ Φ := by
  obtain ⟨s1, s2, s3, s4, s5, s6⟩ := h
  refine spi o_Sta_copyFrom rfl (v_Sta_copyFrom_100_11_0 ⟨acp0 (n := 10) rfl, acp0 (n := 10) rfl, acp0 (n := 10) rfl, H _ ?_ ⟨s1, s2, s3, s4, fun p hp => ?_, s6⟩⟩)
  · exact (Lz_RI fun _ => rfl).trans ((Lz_RI fun _ => rfl).trans ((Lz_RI fun _ => rfl).trans ((Lz_I rfl).trans ((Lz_I rfl).trans ((Lz_I rfl).trans ((Lz_I rfl).trans (Lz_L rfl)))))))
  · obtain ⟨t1, t2, t3⟩ := s5 p hp
    exact ⟨(cpI (n := 10) (by decide) hp).trans t1, (cpI (n := 10) (by decide) hp).trans t2, (cpI (n := 10) (by decide) hp).trans t3⟩
theorem c_cpS_104_11 (h : RSta 11 μ w) (H : ∀ μ', Lz (zR 104 3) μ' = Lz (zR 104 3) μ → RSta 104 μ' w → Φ (.inl none) μ') : Spec g i_Sta_copyFrom 0 [.ref 104, .ref 11] μ Φ := by
  obtain ⟨s1, s2, s3, s4, s5, s6⟩ := h
  refine spi o_Sta_copyFrom rfl (v_Sta_copyFrom_104_11_0 ⟨acp0 (n := 10) rfl, acp0 (n := 10) rfl, acp0 (n := 10) rfl, H _ ?_ ⟨s1, s2, s3, s4, fun p hp => ?_, s6⟩⟩)
  · exact (Lz_RI fun _ => rfl).trans ((Lz_RI fun _ => rfl).trans ((Lz_RI fun _ => rfl).trans ((Lz_I rfl).trans ((Lz_I rfl).trans ((Lz_I rfl).trans ((Lz_I rfl).trans (Lz_L rfl)))))))
  · obtain ⟨t1, t2, t3⟩ := s5 p hp
    exact ⟨(cpI (n := 10) (by decide) hp).trans t1, (cpI (n := 10) (by decide) hp).trans t2, (cpI (n := 10) (by decide) hp).trans t3⟩
theorem c_cpS_108_11 (h : RSta 11 μ w) (H : ∀ μ', Lz (zR 108 3) μ' = Lz (zR 108 3) μ → RSta 108 μ' w → Φ (.inl none) μ') : Spec g i_Sta_copyFrom 0 [.ref 108, .ref 11] μ Φ := by
  obtain ⟨s1, s2, s3, s4, s5, s6⟩ := h
  refine spi o_Sta_copyFrom rfl (v_Sta_copyFrom_108_11_0 ⟨acp0 (n := 10) rfl, acp0 (n := 10) rfl, acp0 (n := 10) rfl, H _ ?_ ⟨s1, s2, s3, s4, fun p hp => ?_, s6⟩⟩)
  · exact (Lz_RI fun _ => rfl).trans ((Lz_RI fun _ => rfl).trans ((Lz_RI fun _ => rfl).trans ((Lz_I rfl).trans ((Lz_I rfl).trans ((Lz_I rfl).trans ((Lz_I rfl).trans (Lz_L rfl)))))))
  · obtain ⟨t1, t2, t3⟩ := s5 p hp
    exact ⟨(cpI (n := 10) (by decide) hp).trans t1, (cpI (n := 10) (by decide) hp).trans t2, (cpI (n := 10) (by decide) hp).trans t3⟩
theorem c_cpS_112_11 (h : RSta 11 μ w) (H : ∀ μ', Lz (zR 112 3) μ' = Lz (zR 112 3) μ → RSta 112 μ' w → Φ (.inl none) μ') : Spec g i_Sta_copyFrom 0 [.ref 112, .ref 11] μ Φ := by
  obtain ⟨s1, s2, s3, s4, s5, s6⟩ := h
  refine spi o_Sta_copyFrom rfl (v_Sta_copyFrom_112_11_0 ⟨acp0 (n := 10) rfl, acp0 (n := 10) rfl, acp0 (n := 10) rfl, H _ ?_ ⟨s1, s2, s3, s4, fun p hp => ?_, s6⟩⟩)
  · exact (Lz_RI fun _ => rfl).trans ((Lz_RI fun _ => rfl).trans ((Lz_RI fun _ => rfl).trans ((Lz_I rfl).trans ((Lz_I rfl).trans ((Lz_I rfl).trans ((Lz_I rfl).trans (Lz_L rfl)))))))
  · obtain ⟨t1, t2, t3⟩ := s5 p hp
    exact ⟨(cpI (n := 10) (by decide) hp).trans t1, (cpI (n := 10) (by decide) hp).trans t2, (cpI (n := 10) (by decide) hp).trans t3⟩
theorem c_cpS_116_11 (h : RSta 11 μ w) (H : ∀ μ', Lz (zR 116 3) μ' = Lz (zR 116 3) μ → RSta 116 μ' w → Φ (.inl none) μ') : Spec g i_Sta_copyFrom 0 [.ref 116, .ref 11] μ Φ := by
  obtain ⟨s1, s2, s3, s4, s5, s6⟩ := h
  refine spi o_Sta_copyFrom rfl (v_Sta_copyFrom_116_11_0 ⟨acp0 (n := 10) rfl, acp0 (n := 10) rfl, acp0 (n := 10) rfl, H _ ?_ ⟨s1, s2, s3, s4, fun p hp => ?_, s6⟩⟩)
  · exact (Lz_RI fun _ => rfl).trans ((Lz_RI fun _ => rfl).trans ((Lz_RI fun _ => rfl).trans ((Lz_I rfl).trans ((Lz_I rfl).trans ((Lz_I rfl).trans ((Lz_I rfl).trans (Lz_L rfl)))))))
  · obtain ⟨t1, t2, t3⟩ := s5 p hp
    exact ⟨(cpI (n := 10) (by decide) hp).trans t1, (cpI (n := 10) (by decide) hp).trans t2, (cpI (n := 10) (by decide) hp).trans t3⟩
theorem c_cpS_120_11 (h : RSta 11 μ w) (H : ∀ μ', Lz (zR 120 3) μ' = Lz (zR 120 3) μ → RSta 120 μ' w → Φ (.inl none) μ') : Spec g i_Sta_copyFrom 0 [.ref 120, .ref 11] μ Φ := by
  obtain ⟨s1, s2, s3, s4, s5, s6⟩ := h
  refine spi o_Sta_copyFrom rfl (v_Sta_copyFrom_120_11_0 ⟨acp0 (n := 10) rfl, acp0 (n := 10) rfl, acp0 (n := 10) rfl, H _ ?_ ⟨s1, s2, s3, s4, fun p hp => ?_, s6⟩⟩)
  · exact (Lz_RI fun _ => rfl).trans ((Lz_RI fun _ => rfl).trans ((Lz_RI fun _ => rfl).trans ((Lz_I rfl).trans ((Lz_I rfl).trans ((Lz_I rfl).trans ((Lz_I rfl).trans (Lz_L rfl)))))))
  · obtain ⟨t1, t2, t3⟩ := s5 p hp
    exact ⟨(cpI (n := 10) (by decide) hp).trans t1, (cpI (n := 10) (by decide) hp).trans t2, (cpI (n := 10) (by decide) hp).trans t3⟩
theorem c_cpS_124_11 (h : RSta 11 μ w) (H : ∀ μ', Lz (zR 124 3) μ' = Lz (zR 124 3) μ → RSta 124 μ' w → Φ (.inl none) μ') : Spec g i_Sta_copyFrom 0 [.ref 124, .ref 11] μ Φ := by
  obtain ⟨s1, s2, s3, s4, s5, s6⟩ := h
  refine spi o_Sta_copyFrom rfl (v_Sta_copyFrom_124_11_0 ⟨acp0 (n := 10) rfl, acp0 (n := 10) rfl, acp0 (n := 10) rfl, H _ ?_ ⟨s1, s2, s3, s4, fun p hp => ?_, s6⟩⟩)
  · exact (Lz_RI fun _ => rfl).trans ((Lz_RI fun _ => rfl).trans ((Lz_RI fun _ => rfl).trans ((Lz_I rfl).trans ((Lz_I rfl).trans ((Lz_I rfl).trans ((Lz_I rfl).trans (Lz_L rfl)))))))
  · obtain ⟨t1, t2, t3⟩ := s5 p hp
    exact ⟨(cpI (n := 10) (by decide) hp).trans t1, (cpI (n := 10) (by decide) hp).trans t2, (cpI (n := 10) (by decide) hp).trans t3⟩
theorem c_cpS_128_11 (h : RSta 11 μ w) (H : ∀ μ', Lz (zR 128 3) μ' = Lz (zR 128 3) μ → RSta 128 μ' w → Φ (.inl none) μ') : Spec g i_Sta_copyFrom 0 [.ref 128, .ref 11] μ Φ := by
  obtain ⟨s1, s2, s3, s4, s5, s6⟩ := h
  refine spi o_Sta_copyFrom rfl (v_Sta_copyFrom_128_11_0 ⟨acp0 (n := 10) rfl, acp0 (n := 10) rfl, acp0 (n := 10) rfl, H _ ?_ ⟨s1, s2, s3, s4, fun p hp => ?_, s6⟩⟩)
  · exact (Lz_RI fun _ => rfl).trans ((Lz_RI fun _ => rfl).trans ((Lz_RI fun _ => rfl).trans ((Lz_I rfl).trans ((Lz_I rfl).trans ((Lz_I rfl).trans ((Lz_I rfl).trans (Lz_L rfl)))))))
  · obtain ⟨t1, t2, t3⟩ := s5 p hp
    exact ⟨(cpI (n := 10) (by decide) hp).trans t1, (cpI (n := 10) (by decide) hp).trans t2, (cpI (n := 10) (by decide) hp).trans t3⟩
theorem c_cpS_132_11 (h : RSta 11 μ w) (H : ∀ μ', Lz (zR 132 3) μ' = Lz (zR 132 3) μ → RSta 132 μ' w → Φ (.inl none) μ') : Spec g i_Sta_copyFrom 0 [.ref 132, .ref 11] μ Φ := by
  obtain ⟨s1, s2, s3, s4, s5, s6⟩ := h
  refine spi o_Sta_copyFrom rfl (v_Sta_copyFrom_132_11_0 ⟨acp0 (n := 10) rfl, acp0 (n := 10) rfl, acp0 (n := 10) rfl, H _ ?_ ⟨s1, s2, s3, s4, fun p hp => ?_, s6⟩⟩)
  · exact (Lz_RI fun _ => rfl).trans ((Lz_RI fun _ => rfl).trans ((Lz_RI fun _ => rfl).trans ((Lz_I rfl).trans ((Lz_I rfl).trans ((Lz_I rfl).trans ((Lz_I rfl).trans (Lz_L rfl)))))))
  · obtain ⟨t1, t2, t3⟩ := s5 p hp
    exact ⟨(cpI (n := 10) (by decide) hp).trans t1, (cpI (n := 10) (by decide) hp).trans t2, (cpI (n := 10) (by decide) hp).trans t3⟩
theorem c_cpS_136_11 (h : RSta 11 μ w) (H : ∀ μ', Lz (zR 136 3) μ' = Lz (zR 136 3) μ → RSta 136 μ' w → Φ (.inl none) μ') : Spec g i_Sta_copyFrom 0 [.ref 136, .ref 11] μ Φ := by
  obtain ⟨s1, s2, s3, s4, s5, s6⟩ := h
  refine spi o_Sta_copyFrom rfl (v_Sta_copyFrom_136_11_0 ⟨acp0 (n := 10) rfl, acp0 (n := 10) rfl, acp0 (n := 10) rfl, H _ ?_ ⟨s1, s2, s3, s4, fun p hp => ?_, s6⟩⟩)
  · exact (Lz_RI fun _ => rfl).trans ((Lz_RI fun _ => rfl).trans ((Lz_RI fun _ => rfl).trans ((Lz_I rfl).trans ((Lz_I rfl).trans ((Lz_I rfl).trans ((Lz_I rfl).trans (Lz_L rfl)))))))
  · obtain ⟨t1, t2, t3⟩ := s5 p hp
    exact ⟨(cpI (n := 10) (by decide) hp).trans t1, (cpI (n := 10) (by decide) hp).trans t2, (cpI (n := 10) (by decide) hp).trans t3⟩
theorem c_cpS_11_92 (h : RSta 92 μ w) (H : ∀ μ', Lz (zR 11 3) μ' = Lz (zR 11 3) μ → RSta 11 μ' w → Φ (.inl none) μ') : Spec g i_Sta_copyFrom 0 [.ref 11, .ref 92] μ Φ := by
  obtain ⟨s1, s2, s3, s4, s5, s6⟩ := h
  refine spi o_Sta_copyFrom rfl (v_Sta_copyFrom_11_92_0 ⟨acp0 (n := 10) rfl, acp0 (n := 10) rfl, acp0 (n := 10) rfl, H _ ?_ ⟨s1, s2, s3, s4, fun p hp => ?_, s6⟩⟩)
  · exact (Lz_RI fun _ => rfl).trans ((Lz_RI fun _ => rfl).trans ((Lz_RI fun _ => rfl).trans ((Lz_I rfl).trans ((Lz_I rfl).trans ((Lz_I rfl).trans ((Lz_I rfl).trans (Lz_L rfl)))))))
  · obtain ⟨t1, t2, t3⟩ := s5 p hp
    exact ⟨(cpI (n := 10) (by decide) hp).trans t1, (cpI (n := 10) (by decide) hp).trans t2, (cpI (n := 10) (by decide) hp).trans t3⟩
theorem c_cpS_11_96 (h : RSta 96 μ w) (H : ∀ μ', Lz (zR 11 3) μ' = Lz (zR 11 3) μ → RSta 11 μ' w → Φ (.inl none) μ') : Spec g i_Sta_copyFrom 0 [.ref 11, .ref 96] μ Φ := by
  obtain ⟨s1, s2, s3, s4, s5, s6⟩ := h
  refine spi o_Sta_copyFrom rfl (v_Sta_copyFrom_11_96_0 ⟨acp0 (n := 10) rfl, acp0 (n := 10) rfl, acp0 (n := 10) rfl, H _ ?_ ⟨s1, s2, s3, s4, fun p hp => ?_, s6⟩⟩)
  · exact (Lz_RI fun _ => rfl).trans ((Lz_RI fun _ => rfl).trans ((Lz_RI fun _ => rfl).trans ((Lz_I rfl).trans ((Lz_I rfl).trans ((Lz_I rfl).trans ((Lz_I rfl).trans (Lz_L rfl)))))))
  · obtain ⟨t1, t2, t3⟩ := s5 p hp
    exact ⟨(cpI (n := 10) (by decide) hp).trans t1, (cpI (n := 10) (by decide) hp).trans t2, (cpI (n := 10) (by decide) hp).trans t3⟩
theorem c_cpS_11_100 (h : RSta 100 μ w) (H : ∀ μ', Lz (zR 11 3) μ' = Lz (zR 11 3) μ → RSta 11 μ' w → Φ (.inl none) μ') : Spec g i_Sta_copyFrom 0 [.ref 11, .ref 100] μ Φ := by
  obtain ⟨s1, s2, s3, s4, s5, s6⟩ := h
  refine spi o_Sta_copyFrom rfl (v_Sta_copyFrom_11_100_0 ⟨acp0 (n := 10) rfl, acp0 (n := 10) rfl, acp0 (n := 10) rfl, H _ ?_ ⟨s1, s2, s3, s4, fun p hp => ?_, s6⟩⟩)
  · exact (Lz_RI fun _ => rfl).trans ((Lz_RI fun _ => rfl).trans ((Lz_RI fun _ => rfl).trans ((Lz_I rfl).trans ((Lz_I rfl).trans ((Lz_I rfl).trans ((Lz_I rfl).trans (Lz_L rfl)))))))
  · obtain ⟨t1, t2, t3⟩ := s5 p hp
    exact ⟨(cpI (n := 10) (by decide) hp).trans t1, (cpI (n := 10) (by decide) hp).trans t2, (cpI (n := 10) (by decide) hp).trans t3⟩
theorem c_cpS_11_104 (h : RSta 104 μ w) (H : ∀ μ', Lz (zR 11 3) μ' = Lz (zR 11 3) μ → RSta 11 μ' w → Φ (.inl none) μ') : Spec g i_Sta_copyFrom 0 [.ref 11, .ref 104] μ Φ := by
  obtain ⟨s1, s2, s3, s4, s5, s6⟩ := h
  refine spi o_Sta_copyFrom rfl (v_Sta_copyFrom_11_104_0 ⟨acp0 (n := 10) rfl, acp0 (n := 10) rfl, acp0 (n := 10) rfl, H _ ?_ ⟨s1, s2, s3, s4, fun p hp => ?_, s6⟩⟩)
  · exact (Lz_RI fun _ => rfl).trans ((Lz_RI fun _ => rfl).trans ((Lz_RI fun _ => rfl).trans ((Lz_I rfl).trans ((Lz_I rfl).trans ((Lz_I rfl).trans ((Lz_I rfl).trans (Lz_L rfl)))))))
  · obtain ⟨t1, t2, t3⟩ := s5 p hp
    exact ⟨(cpI (n := 10) (by decide) hp).trans t1, (cpI (n := 10) (by decide) hp).trans t2, (cpI (n := 10) (by decide) hp).trans t3⟩
theorem c_cpS_11_108 (h : RSta 108 μ w) (H : ∀ μ', Lz (zR 11 3) μ' = Lz (zR 11 3) μ → RSta 11 μ' w → Φ (.inl none) μ') : Spec g i_Sta_copyFrom 0 [.ref 11, .ref 108] μ Φ := by
  obtain ⟨s1, s2, s3, s4, s5, s6⟩ := h
  refine spi o_Sta_copyFrom rfl (v_Sta_copyFrom_11_108_0 ⟨acp0 (n := 10) rfl, acp0 (n := 10) rfl, acp0 (n := 10) rfl, H _ ?_ ⟨s1, s2, s3, s4, fun p hp => ?_, s6⟩⟩)
  · exact (Lz_RI fun _ => rfl).trans ((Lz_RI fun _ => rfl).trans ((Lz_RI fun _ => rfl).trans ((Lz_I rfl).trans ((Lz_I rfl).trans ((Lz_I rfl).trans ((Lz_I rfl).trans (Lz_L rfl)))))))
  · obtain ⟨t1, t2, t3⟩ := s5 p hp
    exact ⟨(cpI (n := 10) (by decide) hp).trans t1, (cpI (n := 10) (by decide) hp).trans t2, (cpI (n := 10) (by decide) hp).trans t3⟩
theorem c_cpS_11_112 (h : RSta 112 μ w) (H : ∀ μ', Lz (zR 11 3) μ' = Lz (zR 11 3) μ → RSta 11 μ' w → Φ (.inl none) μ') : Spec g i_Sta_copyFrom 0 [.ref 11, .ref 112] μ Φ := by
  obtain ⟨s1, s2, s3, s4, s5, s6⟩ := h
  refine spi o_Sta_copyFrom rfl (v_Sta_copyFrom_11_112_0 ⟨acp0 (n := 10) rfl, acp0 (n := 10) rfl, acp0 (n := 10) rfl, H _ ?_ ⟨s1, s2, s3, s4, fun p hp => ?_, s6⟩⟩)
  · exact (Lz_RI fun _ => rfl).trans ((Lz_RI fun _ => rfl).trans ((Lz_RI fun _ => rfl).trans ((Lz_I rfl).trans ((Lz_I rfl).trans ((Lz_I rfl).trans ((Lz_I rfl).trans (Lz_L rfl)))))))
  · obtain ⟨t1, t2, t3⟩ := s5 p hp
    exact ⟨(cpI (n := 10) (by decide) hp).trans t1, (cpI (n := 10) (by decide) hp).trans t2, (cpI (n := 10) (by decide) hp).trans t3⟩
theorem c_cpS_11_116 (h : RSta 116 μ w) (H : ∀ μ', Lz (zR 11 3) μ' = Lz (zR 11 3) μ → RSta 11 μ' w → Φ (.inl none) μ') : Spec g i_Sta_copyFrom 0 [.ref 11, .ref 116] μ Φ := by
  obtain ⟨s1, s2, s3, s4, s5, s6⟩ := h
  refine spi o_Sta_copyFrom rfl (v_Sta_copyFrom_11_116_0 ⟨acp0 (n := 10) rfl, acp0 (n := 10) rfl, acp0 (n := 10) rfl, H _ ?_ ⟨s1, s2, s3, s4, fun p hp => ?_, s6⟩⟩)
  · exact (Lz_RI fun _ => rfl).trans ((Lz_RI fun _ => rfl).trans ((Lz_RI fun _ => rfl).trans ((Lz_I rfl).trans ((Lz_I rfl).trans ((Lz_I rfl).trans ((Lz_I rfl).trans (Lz_L rfl)))))))
  · obtain ⟨t1, t2, t3⟩ := s5 p hp
    exact ⟨(cpI (n := 10) (by decide) hp).trans t1, (cpI (n := 10) (by decide) hp).trans t2, (cpI (n := 10) (by decide) hp).trans t3⟩
theorem c_cpS_11_120 (h : RSta 120 μ w) (H : ∀ μ', Lz (zR 11 3) μ' = Lz (zR 11 3) μ → RSta 11 μ' w → Φ (.inl none) μ') : Spec g i_Sta_copyFrom 0 [.ref 11, .ref 120] μ Φ := by
  obtain ⟨s1, s2, s3, s4, s5, s6⟩ := h
  refine spi o_Sta_copyFrom rfl (v_Sta_copyFrom_11_120_0 ⟨acp0 (n := 10) rfl, acp0 (n := 10) rfl, acp0 (n := 10) rfl, H _ ?_ ⟨s1, s2, s3, s4, fun p hp => ?_, s6⟩⟩)
  · exact (Lz_RI fun _ => rfl).trans ((Lz_RI fun _ => rfl).trans ((Lz_RI fun _ => rfl).trans ((Lz_I rfl).trans ((Lz_I rfl).trans ((Lz_I rfl).trans ((Lz_I rfl).trans (Lz_L rfl)))))))
  · obtain ⟨t1, t2, t3⟩ := s5 p hp
    exact ⟨(cpI (n := 10) (by decide) hp).trans t1, (cpI (n := 10) (by decide) hp).trans t2, (cpI (n := 10) (by decide) hp).trans t3⟩
theorem c_cpS_11_124 (h : RSta 124 μ w) (H : ∀ μ', Lz (zR 11 3) μ' = Lz (zR 11 3) μ → RSta 11 μ' w → Φ (.inl none) μ') : Spec g i_Sta_copyFrom 0 [.ref 11, .ref 124] μ Φ := by
  obtain ⟨s1, s2, s3, s4, s5, s6⟩ := h
  refine spi o_Sta_copyFrom rfl (v_Sta_copyFrom_11_124_0 ⟨acp0 (n := 10) rfl, acp0 (n := 10) rfl, acp0 (n := 10) rfl, H _ ?_ ⟨s1, s2, s3, s4, fun p hp => ?_, s6⟩⟩)
  · exact (Lz_RI fun _ => rfl).trans ((Lz_RI fun _ => rfl).trans ((Lz_RI fun _ => rfl).trans ((Lz_I rfl).trans ((Lz_I rfl).trans ((Lz_I rfl).trans ((Lz_I rfl).trans (Lz_L rfl)))))))
  · obtain ⟨t1, t2, t3⟩ := s5 p hp
    exact ⟨(cpI (n := 10) (by decide) hp).trans t1, (cpI (n := 10) (by decide) hp).trans t2, (cpI (n := 10) (by decide) hp).trans t3⟩
theorem c_cpS_11_128 (h : RSta 128 μ w) (H : ∀ μ', Lz (zR 11 3) μ' = Lz (zR 11 3) μ → RSta 11 μ' w → Φ (.inl none) μ') : Spec g i_Sta_copyFrom 0 [.ref 11, .ref 128] μ Φ := by
  obtain ⟨s1, s2, s3, s4, s5, s6⟩ := h
  refine spi o_Sta_copyFrom rfl (v_Sta_copyFrom_11_128_0 ⟨acp0 (n := 10) rfl, acp0 (n := 10) rfl, acp0 (n := 10) rfl, H _ ?_ ⟨s1, s2, s3, s4, fun p hp => ?_, s6⟩⟩)
  · exact (Lz_RI fun _ => rfl).trans ((Lz_RI fun _ => rfl).trans ((Lz_RI fun _ => rfl).trans ((Lz_I rfl).trans ((Lz_I rfl).trans ((Lz_I rfl).trans ((Lz_I rfl).trans (Lz_L rfl)))))))
  · obtain ⟨t1, t2, t3⟩ := s5 p hp
    exact ⟨(cpI (n := 10) (by decide) hp).trans t1, (cpI (n := 10) (by decide) hp).trans t2, (cpI (n := 10) (by decide) hp).trans t3⟩
theorem c_cpS_11_132 (h : RSta 132 μ w) (H : ∀ μ', Lz (zR 11 3) μ' = Lz (zR 11 3) μ → RSta 11 μ' w → Φ (.inl none) μ') : Spec g i_Sta_copyFrom 0 [.ref 11, .ref 132] μ Φ := by
  obtain ⟨s1, s2, s3, s4, s5, s6⟩ := h
  refine spi o_Sta_copyFrom rfl (v_Sta_copyFrom_11_132_0 ⟨acp0 (n := 10) rfl, acp0 (n := 10) rfl, acp0 (n := 10) rfl, H _ ?_ ⟨s1, s2, s3, s4, fun p hp => ?_, s6⟩⟩)
  · exact (Lz_RI fun _ => rfl).trans ((Lz_RI fun _ => rfl).trans ((Lz_RI fun _ => rfl).trans ((Lz_I rfl).trans ((Lz_I rfl).trans ((Lz_I rfl).trans ((Lz_I rfl).trans (Lz_L rfl)))))))
  · obtain ⟨t1, t2, t3⟩ := s5 p hp
    exact ⟨(cpI (n := 10) (by decide) hp).trans t1, (cpI (n := 10) (by decide) hp).trans t2, (cpI (n := 10) (by decide) hp).trans t3⟩
theorem c_cpS_11_136 (h : RSta 136 μ w) (H : ∀ μ', Lz (zR 11 3) μ' = Lz (zR 11 3) μ → RSta 11 μ' w → Φ (.inl none) μ') : Spec g i_Sta_copyFrom 0 [.ref 11, .ref 136] μ Φ := by
  obtain ⟨s1, s2, s3, s4, s5, s6⟩ := h
  refine spi o_Sta_copyFrom rfl (v_Sta_copyFrom_11_136_0 ⟨acp0 (n := 10) rfl, acp0 (n := 10) rfl, acp0 (n := 10) rfl, H _ ?_ ⟨s1, s2, s3, s4, fun p hp => ?_, s6⟩⟩)
  · exact (Lz_RI fun _ => rfl).trans ((Lz_RI fun _ => rfl).trans ((Lz_RI fun _ => rfl).trans ((Lz_I rfl).trans ((Lz_I rfl).trans ((Lz_I rfl).trans ((Lz_I rfl).trans (Lz_L rfl)))))))
  · obtain ⟨t1, t2, t3⟩ := s5 p hp
    exact ⟨(cpI (n := 10) (by decide) hp).trans t1, (cpI (n := 10) (by decide) hp).trans t2, (cpI (n := 10) (by decide) hp).trans t3⟩
theorem c_cpT_35_4 (h : RSet 4 μ w) (H : ∀ μ', Lz (zR 35 6) μ' = Lz (zR 35 6) μ → RSet 35 μ' w → Φ (.inl none) μ') : Spec g i_Set_copyFrom 0 [.ref 35, .ref 4] μ Φ := by
  obtain ⟨s1, s2, s3, s4, s5, s6, s7, s8⟩ := h
  refine spi o_Set_copyFrom rfl (v_Set_copyFrom_35_4_0 ⟨acp0 (n := 10) rfl, acp0 (n := 10) rfl, acp0 (n := 10) rfl, acp0 (n := 12) rfl, acp0 (n := 12) rfl, acp0 (n := 12) rfl, H _ ?_ ⟨s1, s2, s3, s4, s5, fun t ht => ?_, fun p hp => ?_, fun k hk => ?_⟩⟩)
  · exact (Lz_RI fun _ => rfl).trans ((Lz_RI fun _ => rfl).trans ((Lz_RI fun _ => rfl).trans ((Lz_RI fun _ => rfl).trans ((Lz_RI fun _ => rfl).trans ((Lz_RI fun _ => rfl).trans ((Lz_I rfl).trans ((Lz_I rfl).trans ((Lz_I rfl).trans ((Lz_I rfl).trans (Lz_I rfl))))))))))
  · exact (cpI (n := 10) (by decide) ht).trans (s6 t ht)
  · obtain ⟨t1, t2⟩ := s7 p hp
    exact ⟨(cpI (n := 10) (by decide) hp).trans t1, (cpI (n := 10) (by decide) hp).trans t2⟩
  · obtain ⟨t1, t2, t3⟩ := s8 k hk
    exact ⟨(cpI (n := 12) (by decide) hk).trans t1, (cpI (n := 12) (by decide) hk).trans t2, (cpI (n := 12) (by decide) hk).trans t3⟩
theorem c_cpT_4_35 (h : RSet 35 μ w) (H : ∀ μ', Lz (zR 4 6) μ' = Lz (zR 4 6) μ → RSet 4 μ' w → Φ (.inl none) μ') : Spec g i_Set_copyFrom 0 [.ref 4, .ref 35] μ Φ := by
  obtain ⟨s1, s2, s3, s4, s5, s6, s7, s8⟩ := h
  refine spi o_Set_copyFrom rfl (v_Set_copyFrom_4_35_0 ⟨acp0 (n := 10) rfl, acp0 (n := 10) rfl, acp0 (n := 10) rfl, acp0 (n := 12) rfl, acp0 (n := 12) rfl, acp0 (n := 12) rfl, H _ ?_ ⟨s1, s2, s3, s4, s5, fun t ht => ?_, fun p hp => ?_, fun k hk => ?_⟩⟩)
  · exact (Lz_RI fun _ => rfl).trans ((Lz_RI fun _ => rfl).trans ((Lz_RI fun _ => rfl).trans ((Lz_RI fun _ => rfl).trans ((Lz_RI fun _ => rfl).trans ((Lz_RI fun _ => rfl).trans ((Lz_I rfl).trans ((Lz_I rfl).trans ((Lz_I rfl).trans ((Lz_I rfl).trans (Lz_I rfl))))))))))
  · exact (cpI (n := 10) (by decide) ht).trans (s6 t ht)
  · obtain ⟨t1, t2⟩ := s7 p hp
    exact ⟨(cpI (n := 10) (by decide) hp).trans t1, (cpI (n := 10) (by decide) hp).trans t2⟩
  · obtain ⟨t1, t2, t3⟩ := s8 k hk
    exact ⟨(cpI (n := 12) (by decide) hk).trans t1, (cpI (n := 12) (by decide) hk).trans t2, (cpI (n := 12) (by decide) hk).trans t3⟩
theorem c_cpT_71_4 (h : RSet 4 μ w) (H : ∀ μ', Lz (zR 71 6) μ' = Lz (zR 71 6) μ → RSet 71 μ' w → Φ (.inl none) μ') : Spec g i_Set_copyFrom 0 [.ref 71, .ref 4] μ Φ := by
  obtain ⟨s1, s2, s3, s4, s5, s6, s7, s8⟩ := h
  refine spi o_Set_copyFrom rfl (v_Set_copyFrom_71_4_0 ⟨acp0 (n := 10) rfl, acp0 (n := 10) rfl, acp0 (n := 10) rfl, acp0 (n := 12) rfl, acp0 (n := 12) rfl, acp0 (n := 12) rfl, H _ ?_ ⟨s1, s2, s3, s4, s5, fun t ht => ?_, fun p hp => ?_, fun k hk => ?_⟩⟩)
  · exact (Lz_RI fun _ => rfl).trans ((Lz_RI fun _ => rfl).trans ((Lz_RI fun _ => rfl).trans ((Lz_RI fun _ => rfl).trans ((Lz_RI fun _ => rfl).trans ((Lz_RI fun _ => rfl).trans ((Lz_I rfl).trans ((Lz_I rfl).trans ((Lz_I rfl).trans ((Lz_I rfl).trans (Lz_I rfl))))))))))
  · exact (cpI (n := 10) (by decide) ht).trans (s6 t ht)
  · obtain ⟨t1, t2⟩ := s7 p hp
    exact ⟨(cpI (n := 10) (by decide) hp).trans t1, (cpI (n := 10) (by decide) hp).trans t2⟩
  · obtain ⟨t1, t2, t3⟩ := s8 k hk
    exact ⟨(cpI (n := 12) (by decide) hk).trans t1, (cpI (n := 12) (by decide) hk).trans t2, (cpI (n := 12) (by decide) hk).trans t3⟩
theorem c_cpT_4_71 (h : RSet 71 μ w) (H : ∀ μ', Lz (zR 4 6) μ' = Lz (zR 4 6) μ → RSet 4 μ' w → Φ (.inl none) μ') : Spec g i_Set_copyFrom 0 [.ref 4, .ref 71] μ Φ := by
  obtain ⟨s1, s2, s3, s4, s5, s6, s7, s8⟩ := h
  refine spi o_Set_copyFrom rfl (v_Set_copyFrom_4_71_0 ⟨acp0 (n := 10) rfl, acp0 (n := 10) rfl, acp0 (n := 10) rfl, acp0 (n := 12) rfl, acp0 (n := 12) rfl, acp0 (n := 12) rfl, H _ ?_ ⟨s1, s2, s3, s4, s5, fun t ht => ?_, fun p hp => ?_, fun k hk => ?_⟩⟩)
  · exact (Lz_RI fun _ => rfl).trans ((Lz_RI fun _ => rfl).trans ((Lz_RI fun _ => rfl).trans ((Lz_RI fun _ => rfl).trans ((Lz_RI fun _ => rfl).trans ((Lz_RI fun _ => rfl).trans ((Lz_I rfl).trans ((Lz_I rfl).trans ((Lz_I rfl).trans ((Lz_I rfl).trans (Lz_I rfl))))))))))
  · exact (cpI (n := 10) (by decide) ht).trans (s6 t ht)
  · obtain ⟨t1, t2⟩ := s7 p hp
    exact ⟨(cpI (n := 10) (by decide) hp).trans t1, (cpI (n := 10) (by decide) hp).trans t2⟩
  · obtain ⟨t1, t2, t3⟩ := s8 k hk
    exact ⟨(cpI (n := 12) (by decide) hk).trans t1, (cpI (n := 12) (by decide) hk).trans t2, (cpI (n := 12) (by decide) hk).trans t3⟩
theorem c_cpL_46_15 (h : RLaw 15 μ w) (h12 : li w ≤ 12) (hc : cle w ≤ 400) (H : ∀ μ', Lz (zR 46 4) μ' = Lz (zR 46 4) μ → RLaw 46 μ' w → Φ (.inl none) μ') : Spec g i_Law_copyFrom 0 [.ref 46, .ref 15] μ Φ := by
  obtain ⟨s1, s2, s3, s4⟩ := h
  have a0 : acpOK 0 0 (mI μ 15 5) 19 50 := by
    rw [s2]
    refine ⟨by decide, by decide, nI_pos (by omega), ?_, ?_⟩
    · show 0 + nx (nI (cle w)) ≤ 400; rw [nx_nI (by omega)]; omega
    · show 0 + nx (nI (cle w)) ≤ 400; rw [nx_nI (by omega)]; omega
  refine spi o_Law_copyFrom rfl (v_Law_copyFrom_46_15_0 ⟨acp0 (n := 12) rfl, acp0 (n := 12) rfl, acp0 (n := 12) rfl, a0, H _ ?_ ⟨s1, s2, fun n hn => ?_, fun i hi => ?_⟩⟩)
  · exact (Lz_RI fun _ => rfl).trans ((Lz_RI fun _ => rfl).trans ((Lz_RI fun _ => rfl).trans ((Lz_RI fun _ => rfl).trans ((Lz_I rfl).trans (Lz_I rfl)))))
  · obtain ⟨t1, t2, t3⟩ := s3 n hn
    exact ⟨(cpI (n := 12) (by decide) (by omega)).trans t1, (cpI (n := 12) (by decide) (by omega)).trans t2, (cpI (n := 12) (by decide) (by omega)).trans t3⟩
  · show va_cpy (mI μ 19) (mI μ 50) (nx 0) (nx 0) (nx (mI μ 15 5)) i = _
    rw [s2, cpI (by omega) hi]; exact s4 i hi
theorem c_cpL_15_46 (h : RLaw 46 μ w) (h12 : li w ≤ 12) (hc : cle w ≤ 400) (H : ∀ μ', Lz (zR 15 4) μ' = Lz (zR 15 4) μ → RLaw 15 μ' w → Φ (.inl none) μ') : Spec g i_Law_copyFrom 0 [.ref 15, .ref 46] μ Φ := by
  obtain ⟨s1, s2, s3, s4⟩ := h
  have a0 : acpOK 0 0 (mI μ 46 5) 50 19 := by
    rw [s2]
    refine ⟨by decide, by decide, nI_pos (by omega), ?_, ?_⟩
    · show 0 + nx (nI (cle w)) ≤ 400; rw [nx_nI (by omega)]; omega
    · show 0 + nx (nI (cle w)) ≤ 400; rw [nx_nI (by omega)]; omega
  refine spi o_Law_copyFrom rfl (v_Law_copyFrom_15_46_0 ⟨acp0 (n := 12) rfl, acp0 (n := 12) rfl, acp0 (n := 12) rfl, a0, H _ ?_ ⟨s1, s2, fun n hn => ?_, fun i hi => ?_⟩⟩)
  · exact (Lz_RI fun _ => rfl).trans ((Lz_RI fun _ => rfl).trans ((Lz_RI fun _ => rfl).trans ((Lz_RI fun _ => rfl).trans ((Lz_I rfl).trans (Lz_I rfl)))))
  · obtain ⟨t1, t2, t3⟩ := s3 n hn
    exact ⟨(cpI (n := 12) (by decide) (by omega)).trans t1, (cpI (n := 12) (by decide) (by omega)).trans t2, (cpI (n := 12) (by decide) (by omega)).trans t3⟩
  · show va_cpy (mI μ 50) (mI μ 19) (nx 0) (nx 0) (nx (mI μ 46 5)) i = _
    rw [s2, cpI (by omega) hi]; exact s4 i hi
theorem c_cpL_15_83 (h : RLaw 83 μ w) (h12 : li w ≤ 12) (hc : cle w ≤ 400) (H : ∀ μ', Lz (zR 15 4) μ' = Lz (zR 15 4) μ → RLaw 15 μ' w → Φ (.inl none) μ') : Spec g i_Law_copyFrom 0 [.ref 15, .ref 83] μ Φ := by
  obtain ⟨s1, s2, s3, s4⟩ := h
  have a0 : acpOK 0 0 (mI μ 83 5) 87 19 := by
    rw [s2]
    refine ⟨by decide, by decide, nI_pos (by omega), ?_, ?_⟩
    · show 0 + nx (nI (cle w)) ≤ 400; rw [nx_nI (by omega)]; omega
    · show 0 + nx (nI (cle w)) ≤ 400; rw [nx_nI (by omega)]; omega
  refine spi o_Law_copyFrom rfl (v_Law_copyFrom_15_83_0 ⟨acp0 (n := 12) rfl, acp0 (n := 12) rfl, acp0 (n := 12) rfl, a0, H _ ?_ ⟨s1, s2, fun n hn => ?_, fun i hi => ?_⟩⟩)
  · exact (Lz_RI fun _ => rfl).trans ((Lz_RI fun _ => rfl).trans ((Lz_RI fun _ => rfl).trans ((Lz_RI fun _ => rfl).trans ((Lz_I rfl).trans (Lz_I rfl)))))
  · obtain ⟨t1, t2, t3⟩ := s3 n hn
    exact ⟨(cpI (n := 12) (by decide) (by omega)).trans t1, (cpI (n := 12) (by decide) (by omega)).trans t2, (cpI (n := 12) (by decide) (by omega)).trans t3⟩
  · show va_cpy (mI μ 87) (mI μ 19) (nx 0) (nx 0) (nx (mI μ 83 5)) i = _
    rw [s2, cpI (by omega) hi]; exact s4 i hi
theorem c_cpG_53_22 (h : RLog 22 μ w) (h60 : lg w ≤ 60) (H : ∀ μ', Lz (zR 53 6) μ' = Lz (zR 53 6) μ → RLog 53 μ' w → (∀ k, k < 60 → mI μ' 54 k = mI μ 23 k ∧ mI μ' 55 k = mI μ 24 k ∧ mI μ' 56 k = mI μ 25 k ∧ mI μ' 57 k = mI μ 26 k ∧ mL μ' 58 k = mL μ 27 k ∧ mI μ' 59 k = mI μ 28 k) → Φ (.inl none) μ') : Spec g i_Log_copyFrom 0 [.ref 53, .ref 22] μ Φ := by
  obtain ⟨d1, d2⟩ := h
  refine spi o_Log_copyFrom rfl (v_Log_copyFrom_53_22_0 ⟨acp0 (n := 60) rfl, acp0 (n := 60) rfl, acp0 (n := 60) rfl, acp0 (n := 60) rfl, acp0 (n := 60) rfl, acp0 (n := 60) rfl, fun i hi => ?_, H _ ?_ ⟨fun r hr => ?_, fun k hk => ?_⟩ fun k hk => ?_⟩)
  · have hi : i < 60 := hi
    rw [show nx 0 + i = i from Nat.zero_add i]; exact d2 i hi
  · exact (Lz_RI fun _ => rfl).trans ((Lz_RL fun _ => rfl).trans ((Lz_RI fun _ => rfl).trans ((Lz_RI fun _ => rfl).trans ((Lz_RI fun _ => rfl).trans (Lz_RI fun _ => rfl)))))
  · obtain ⟨t1, t2, t3, t4, t5, t6⟩ := d1 r hr
    have hl : lg w - 1 - r < 60 := by omega
    refine ⟨(cpI (n := 60) (by decide) hl).trans t1, (cpI (n := 60) (by decide) hl).trans t2, (cpI (n := 60) (by decide) hl).trans t3, (cpI (n := 60) (by decide) hl).trans t4, (cpI (n := 60) (by decide) hl).trans t5, fun p hp hb => ?_⟩
    show nib (va_cpy (mL μ 27) (mL μ 58) (nx 0) (nx 0) (nx (nI 60)) (lg w - 1 - r)) p = _
    rw [cpL (by decide) hl]; exact t6 p hp hb
  · rcases d2 k hk with e | e
    · exact Or.inl ((cpI (n := 60) (by decide) hk).trans e)
    · exact Or.inr ((cpI (n := 60) (by decide) hk).trans e)
  · exact ⟨cpI (n := 60) (by decide) hk, cpI (n := 60) (by decide) hk, cpI (n := 60) (by decide) hk, cpI (n := 60) (by decide) hk, cpL (n := 60) (by decide) hk, cpI (n := 60) (by decide) hk⟩
theorem c_cpG_22_53 (h : RLog 53 μ w) (h60 : lg w ≤ 60) (H : ∀ μ', Lz (zR 22 6) μ' = Lz (zR 22 6) μ → RLog 22 μ' w → (∀ k, k < 60 → mI μ' 23 k = mI μ 54 k ∧ mI μ' 24 k = mI μ 55 k ∧ mI μ' 25 k = mI μ 56 k ∧ mI μ' 26 k = mI μ 57 k ∧ mL μ' 27 k = mL μ 58 k ∧ mI μ' 28 k = mI μ 59 k) → Φ (.inl none) μ') : Spec g i_Log_copyFrom 0 [.ref 22, .ref 53] μ Φ := by
  obtain ⟨d1, d2⟩ := h
  refine spi o_Log_copyFrom rfl (v_Log_copyFrom_22_53_0 ⟨acp0 (n := 60) rfl, acp0 (n := 60) rfl, acp0 (n := 60) rfl, acp0 (n := 60) rfl, acp0 (n := 60) rfl, acp0 (n := 60) rfl, fun i hi => ?_, H _ ?_ ⟨fun r hr => ?_, fun k hk => ?_⟩ fun k hk => ?_⟩)
  · have hi : i < 60 := hi
    rw [show nx 0 + i = i from Nat.zero_add i]; exact d2 i hi
  · exact (Lz_RI fun _ => rfl).trans ((Lz_RL fun _ => rfl).trans ((Lz_RI fun _ => rfl).trans ((Lz_RI fun _ => rfl).trans ((Lz_RI fun _ => rfl).trans (Lz_RI fun _ => rfl)))))
  · obtain ⟨t1, t2, t3, t4, t5, t6⟩ := d1 r hr
    have hl : lg w - 1 - r < 60 := by omega
    refine ⟨(cpI (n := 60) (by decide) hl).trans t1, (cpI (n := 60) (by decide) hl).trans t2, (cpI (n := 60) (by decide) hl).trans t3, (cpI (n := 60) (by decide) hl).trans t4, (cpI (n := 60) (by decide) hl).trans t5, fun p hp hb => ?_⟩
    show nib (va_cpy (mL μ 58) (mL μ 27) (nx 0) (nx 0) (nx (nI 60)) (lg w - 1 - r)) p = _
    rw [cpL (by decide) hl]; exact t6 p hp hb
  · rcases d2 k hk with e | e
    · exact Or.inl ((cpI (n := 60) (by decide) hk).trans e)
    · exact Or.inr ((cpI (n := 60) (by decide) hk).trans e)
  · exact ⟨cpI (n := 60) (by decide) hk, cpI (n := 60) (by decide) hk, cpI (n := 60) (by decide) hk, cpI (n := 60) (by decide) hk, cpL (n := 60) (by decide) hk, cpI (n := 60) (by decide) hk⟩
end CP
