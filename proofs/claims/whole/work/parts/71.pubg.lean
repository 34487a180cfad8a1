section PUBG
variable {g : Gl} {Φ : Out → Mem → Prop} {μ : Mem} {w : WD}
def q_apart (w : WD) (a b : Int32) : Nat × Int32 := gdx (pe w) a 1 fun p => gdx (pe w) b 1 fun q => if p = q then (2, 0) else (0, apa w p q)
theorem M_apart (m : MW μ w) {a b : Int32} (H : RM Φ μ w (q_apart w a b)) : Spec g i_Mo_apart 0 [.ref 140, .int a, .int b] μ Φ := by
  have p10 := (wf_pe m.2.1).2
  have t10 := (wf_th m.2.1).2
  have m0 : MW (sI μ 140 0 0) w := MW_0 m
  unfold q_apart at H
  refine spi o_Mo_apart rfl (v_Mo_apart_0 ?_)
  rcases ix_cs (n := pe w) (by omega) a with ⟨ep, hp⟩ | ⟨p, hp, rfl, ep⟩
  · rw [gdx_n ep] at H
    refine m_nP1 m0 hp (oI ?_)
    first | (refine ⟨fun h => ?_, fun h => ?_⟩ <;> first | exact absurd h (by decide) | exact absurd rfl h | skip) | skip
    refine thr1 (oI ?_)
    first | (refine ⟨fun h => ?_, fun h => ?_⟩ <;> first | exact absurd h (by decide) | exact absurd rfl h | skip) | skip
    exact RM_er H (by decide) m
  rw [gdx_s ep] at H
  rcases ix_cs (n := pe w) (by omega) b with ⟨eq, hq⟩ | ⟨q, hq, rfl, eq⟩
  · rw [gdx_n eq] at H
    refine m_nP0 m0 hp (oI ?_)
    first | (refine ⟨fun h => ?_, fun h => ?_⟩ <;> first | exact absurd h (by decide) | exact absurd rfl h | skip) | skip
    refine m_nP1 m0 hq (oI ?_)
    first | (refine ⟨fun h => ?_, fun h => ?_⟩ <;> first | exact absurd h (by decide) | exact absurd rfl h | skip) | skip
    refine thr1 (oI ?_)
    first | (refine ⟨fun h => ?_, fun h => ?_⟩ <;> first | exact absurd h (by decide) | exact absurd rfl h | skip) | skip
    exact RM_er H (by decide) m
  rw [gdx_s eq] at H
  by_cases hne : p = q
  · rw [if_pos hne] at H
    subst hne
    refine m_nP0 m0 hp (oI ?_)
    first | (refine ⟨fun h => ?_, fun h => ?_⟩ <;> first | exact absurd h (by decide) | exact absurd rfl h | skip) | skip
    refine m_nP0 m0 hq (oI ?_)
    first | (refine ⟨fun h => ?_, fun h => ?_⟩ <;> first | exact absurd h (by decide) | exact absurd rfl h | skip) | skip
    refine thr0 (oI ?_)
    first | (refine ⟨fun h => ?_, fun h => ?_⟩ <;> first | exact absurd h (by decide) | exact absurd rfl h | skip) | skip
    first | (refine ⟨fun h => ?_, fun h => ?_⟩ <;> first | exact absurd h (fun e => e rfl) | exact absurd rfl h | skip) | skip
    refine thr1 (oI ?_)
    first | (refine ⟨fun h => ?_, fun h => ?_⟩ <;> first | exact absurd h (by decide) | exact absurd rfl h | skip) | skip
    exact RM_er H (by decide) m
  rw [if_neg hne] at H
  refine m_nP0 m0 hp (oI ?_)
  first | (refine ⟨fun h => ?_, fun h => ?_⟩ <;> first | exact absurd h (by decide) | exact absurd rfl h | skip) | skip
  refine m_nP0 m0 hq (oI ?_)
  first | (refine ⟨fun h => ?_, fun h => ?_⟩ <;> first | exact absurd h (by decide) | exact absurd rfl h | skip) | skip
  refine thr0 (oI ?_)
  first | (refine ⟨fun h => ?_, fun h => ?_⟩ <;> first | exact absurd h (by decide) | exact absurd rfl h | skip) | skip
  first | (refine ⟨fun h => ?_, fun h => ?_⟩ <;> first | exact absurd h (fun e => hne (nI_inj (by omega) (by omega) e)) | exact absurd rfl h | skip) | skip
  refine thr0 (oI ?_)
  first | (refine ⟨fun h => ?_, fun h => ?_⟩ <;> first | exact absurd h (by decide) | exact absurd rfl h | skip) | skip
  exact m_apa m0 (by omega) (by omega) (oI (RM_ok0 H m))
def q_alike (w : WD) (a b : Int32) : Nat × Int32 := gdx (pe w) a 1 fun p => gdx (pe w) b 1 fun q => if p = q then (2, 0) else (0, msk (th w) (fun _ => true) &&& ((pf w p 4 ^^^ pf w q 4) ^^^ (-1)))
theorem M_alike (m : MW μ w) {a b : Int32} (H : RM Φ μ w (q_alike w a b)) : Spec g i_Mo_alike 0 [.ref 140, .int a, .int b] μ Φ := by
  have p10 := (wf_pe m.2.1).2
  have t10 := (wf_th m.2.1).2
  have m0 : MW (sI μ 140 0 0) w := MW_0 m
  unfold q_alike at H
  refine spi o_Mo_alike rfl (v_Mo_alike_0 ?_)
  rcases ix_cs (n := pe w) (by omega) a with ⟨ep, hp⟩ | ⟨p, hp, rfl, ep⟩
  · rw [gdx_n ep] at H
    refine m_nP1 m0 hp (oI ?_)
    first | (refine ⟨fun h => ?_, fun h => ?_⟩ <;> first | exact absurd h (by decide) | exact absurd rfl h | skip) | skip
    refine thr1 (oI ?_)
    first | (refine ⟨fun h => ?_, fun h => ?_⟩ <;> first | exact absurd h (by decide) | exact absurd rfl h | skip) | skip
    exact RM_er H (by decide) m
  rw [gdx_s ep] at H
  rcases ix_cs (n := pe w) (by omega) b with ⟨eq, hq⟩ | ⟨q, hq, rfl, eq⟩
  · rw [gdx_n eq] at H
    refine m_nP0 m0 hp (oI ?_)
    first | (refine ⟨fun h => ?_, fun h => ?_⟩ <;> first | exact absurd h (by decide) | exact absurd rfl h | skip) | skip
    refine m_nP1 m0 hq (oI ?_)
    first | (refine ⟨fun h => ?_, fun h => ?_⟩ <;> first | exact absurd h (by decide) | exact absurd rfl h | skip) | skip
    refine thr1 (oI ?_)
    first | (refine ⟨fun h => ?_, fun h => ?_⟩ <;> first | exact absurd h (by decide) | exact absurd rfl h | skip) | skip
    exact RM_er H (by decide) m
  rw [gdx_s eq] at H
  by_cases hne : p = q
  · rw [if_pos hne] at H
    subst hne
    refine m_nP0 m0 hp (oI ?_)
    first | (refine ⟨fun h => ?_, fun h => ?_⟩ <;> first | exact absurd h (by decide) | exact absurd rfl h | skip) | skip
    refine m_nP0 m0 hq (oI ?_)
    first | (refine ⟨fun h => ?_, fun h => ?_⟩ <;> first | exact absurd h (by decide) | exact absurd rfl h | skip) | skip
    refine thr0 (oI ?_)
    first | (refine ⟨fun h => ?_, fun h => ?_⟩ <;> first | exact absurd h (by decide) | exact absurd rfl h | skip) | skip
    first | (refine ⟨fun h => ?_, fun h => ?_⟩ <;> first | exact absurd h (fun e => e rfl) | exact absurd rfl h | skip) | skip
    refine thr1 (oI ?_)
    first | (refine ⟨fun h => ?_, fun h => ?_⟩ <;> first | exact absurd h (by decide) | exact absurd rfl h | skip) | skip
    exact RM_er H (by decide) m
  rw [if_neg hne] at H
  refine m_nP0 m0 hp (oI ?_)
  first | (refine ⟨fun h => ?_, fun h => ?_⟩ <;> first | exact absurd h (by decide) | exact absurd rfl h | skip) | skip
  refine m_nP0 m0 hq (oI ?_)
  first | (refine ⟨fun h => ?_, fun h => ?_⟩ <;> first | exact absurd h (by decide) | exact absurd rfl h | skip) | skip
  refine thr0 (oI ?_)
  first | (refine ⟨fun h => ?_, fun h => ?_⟩ <;> first | exact absurd h (by decide) | exact absurd rfl h | skip) | skip
  first | (refine ⟨fun h => ?_, fun h => ?_⟩ <;> first | exact absurd h (fun e => hne (nI_inj (by omega) (by omega) e)) | exact absurd rfl h | skip) | skip
  refine thr0 (oI ?_)
  first | (refine ⟨fun h => ?_, fun h => ?_⟩ <;> first | exact absurd h (by decide) | exact absurd rfl h | skip) | skip
  exact m_alo m0 (by omega) (by omega) (oI (RM_ok0 H m))
def q_speakers (w : WD) (a : Int32) : Nat × Int32 := gdx (th w) a 1 fun t => (0, ov (spk w t))
theorem M_speakers (m : MW μ w) {a : Int32} (H : RM Φ μ w (q_speakers w a)) : Spec g i_Mo_speakers 0 [.ref 140, .int a] μ Φ := by
  have p10 := (wf_pe m.2.1).2
  have t10 := (wf_th m.2.1).2
  have m0 : MW (sI μ 140 0 0) w := MW_0 m
  unfold q_speakers at H
  refine spi o_Mo_speakers rfl (v_Mo_speakers_0 ?_)
  rcases ix_cs (n := th w) (by omega) a with ⟨et, ht⟩ | ⟨t, ht, rfl, et⟩
  · rw [gdx_n et] at H
    refine m_nT1 m0 ht (oI ?_)
    first | (refine ⟨fun h => ?_, fun h => ?_⟩ <;> first | exact absurd h (by decide) | exact absurd rfl h | skip) | skip
    refine thr1 (oI ?_)
    first | (refine ⟨fun h => ?_, fun h => ?_⟩ <;> first | exact absurd h (by decide) | exact absurd rfl h | skip) | skip
    exact RM_er H (by decide) m
  rw [gdx_s et] at H
  refine m_nT0 m0 ht (oI ?_)
  first | (refine ⟨fun h => ?_, fun h => ?_⟩ <;> first | exact absurd h (by decide) | exact absurd rfl h | skip) | skip
  refine thr0 (oI ?_)
  first | (refine ⟨fun h => ?_, fun h => ?_⟩ <;> first | exact absurd h (by decide) | exact absurd rfl h | skip) | skip
  refine m_knr m0 (by omega) (oI (m_here m0 (oI (m_spk33 m0 ht fun μ2 e2 => ?_))))
  exact RM_ok H (zM_W e2) (MW_m m0 e2)
def q_call (w : WD) (a b : Int32) : Nat × Int32 := gdx (th w) a 1 fun t => (0, if b = 0 then ov (clS w t (pe w)).1 else nI (clS w t (pe w)).2)
theorem M_call (m : MW μ w) {a b : Int32} (H : RM Φ μ w (q_call w a b)) : Spec g i_Mo_call 0 [.ref 140, .int a, .int b] μ Φ := by
  have p10 := (wf_pe m.2.1).2
  have t10 := (wf_th m.2.1).2
  have m0 : MW (sI μ 140 0 0) w := MW_0 m
  unfold q_call at H
  refine spi o_Mo_call rfl (v_Mo_call_0 ?_)
  rcases ix_cs (n := th w) (by omega) a with ⟨et, ht⟩ | ⟨t, ht, rfl, et⟩
  · rw [gdx_n et] at H
    refine m_nT1 m0 ht (oI ?_)
    first | (refine ⟨fun h => ?_, fun h => ?_⟩ <;> first | exact absurd h (by decide) | exact absurd rfl h | skip) | skip
    refine thr1 (oI ?_)
    first | (refine ⟨fun h => ?_, fun h => ?_⟩ <;> first | exact absurd h (by decide) | exact absurd rfl h | skip) | skip
    exact RM_er H (by decide) m
  rw [gdx_s et] at H
  refine m_nT0 m0 ht (oI ?_)
  first | (refine ⟨fun h => ?_, fun h => ?_⟩ <;> first | exact absurd h (by decide) | exact absurd rfl h | skip) | skip
  refine thr0 (oI ?_)
  first | (refine ⟨fun h => ?_, fun h => ?_⟩ <;> first | exact absurd h (by decide) | exact absurd rfl h | skip) | skip
  exact m_cal m0 ht fun f => RM_ok9 H m f
def q_seats (w : WD) (a b c d : Int32) : Nat × Int32 := gdx (pe w) a 1 fun p => gdx (th w) b 1 fun t => gdx (wo w t) c 1 fun q => (0, if d = 0 then ov (stP w p t q (pe w)).1 else nI (stP w p t q (pe w)).2)
theorem M_seats (m : MW μ w) {a b c d : Int32} (H : RM Φ μ w (q_seats w a b c d)) : Spec g i_Mo_seats 0 [.ref 140, .int a, .int b, .int c, .int d] μ Φ := by
  have p10 := (wf_pe m.2.1).2
  have t10 := (wf_th m.2.1).2
  have m0 : MW (sI μ 140 0 0) w := MW_0 m
  unfold q_seats at H
  refine spi o_Mo_seats rfl (v_Mo_seats_0 ?_)
  rcases ix_cs (n := pe w) (by omega) a with ⟨ep, hp⟩ | ⟨p, hp, rfl, ep⟩
  · rw [gdx_n ep] at H
    refine m_nP1 m0 hp (oI ?_)
    first | (refine ⟨fun h => ?_, fun h => ?_⟩ <;> first | exact absurd h (by decide) | exact absurd rfl h | skip) | skip
    refine thr1 (oI ?_)
    first | (refine ⟨fun h => ?_, fun h => ?_⟩ <;> first | exact absurd h (by decide) | exact absurd rfl h | skip) | skip
    exact RM_er H (by decide) m
  rw [gdx_s ep] at H
  rcases ix_cs (n := th w) (by omega) b with ⟨et, ht⟩ | ⟨t, ht, rfl, et⟩
  · rw [gdx_n et] at H
    refine m_nP0 m0 hp (oI ?_)
    first | (refine ⟨fun h => ?_, fun h => ?_⟩ <;> first | exact absurd h (by decide) | exact absurd rfl h | skip) | skip
    refine m_nW2 m0 ht (oI ?_)
    first | (refine ⟨fun h => ?_, fun h => ?_⟩ <;> first | exact absurd h (by decide) | exact absurd rfl h | skip) | skip
    refine thr1 (oI ?_)
    first | (refine ⟨fun h => ?_, fun h => ?_⟩ <;> first | exact absurd h (by decide) | exact absurd rfl h | skip) | skip
    exact RM_er H (by decide) m
  rw [gdx_s et] at H
  have w6 := (wf_wo m.2.1 (show t < 10 by omega)).2.1
  rcases ix_cs (n := wo w t) (by omega) c with ⟨eq, hq⟩ | ⟨q, hq, rfl, eq⟩
  · rw [gdx_n eq] at H
    refine m_nP0 m0 hp (oI ?_)
    first | (refine ⟨fun h => ?_, fun h => ?_⟩ <;> first | exact absurd h (by decide) | exact absurd rfl h | skip) | skip
    refine m_nW1 m0 ht hq (oI ?_)
    first | (refine ⟨fun h => ?_, fun h => ?_⟩ <;> first | exact absurd h (by decide) | exact absurd rfl h | skip) | skip
    refine thr1 (oI ?_)
    first | (refine ⟨fun h => ?_, fun h => ?_⟩ <;> first | exact absurd h (by decide) | exact absurd rfl h | skip) | skip
    exact RM_er H (by decide) m
  rw [gdx_s eq] at H
  refine m_nP0 m0 hp (oI ?_)
  first | (refine ⟨fun h => ?_, fun h => ?_⟩ <;> first | exact absurd h (by decide) | exact absurd rfl h | skip) | skip
  refine m_nW0 m0 ht hq (oI ?_)
  first | (refine ⟨fun h => ?_, fun h => ?_⟩ <;> first | exact absurd h (by decide) | exact absurd rfl h | skip) | skip
  refine thr0 (oI ?_)
  first | (refine ⟨fun h => ?_, fun h => ?_⟩ <;> first | exact absurd h (by decide) | exact absurd rfl h | skip) | skip
  refine m_so (oI (hrs_n t10 p10 m0 ht (by omega) (by omega) fun f => ?_))
  exact m_sts63 (MW_149 m0 f) hp ht hq fun μ2 e2 m2 => RM_ok H (e2.trans (Lz_RI fun _ => rfl)) m2
def q_echo (w : WD) (a b c d : Int32) : Nat × Int32 := gdx (pe w) a 1 fun p => gdx (th w) b 1 fun t => gdx (wo w t) c 1 fun q => (0, if d = 0 then nI (ecS w p t q (th w)).1 else ov (ecS w p t q (th w)).2.1)
theorem M_echo (m : MW μ w) {a b c d : Int32} (H : RM Φ μ w (q_echo w a b c d)) : Spec g i_Mo_echo 0 [.ref 140, .int a, .int b, .int c, .int d] μ Φ := by
  have p10 := (wf_pe m.2.1).2
  have t10 := (wf_th m.2.1).2
  have m0 : MW (sI μ 140 0 0) w := MW_0 m
  unfold q_echo at H
  refine spi o_Mo_echo rfl (v_Mo_echo_0 ?_)
  rcases ix_cs (n := pe w) (by omega) a with ⟨ep, hp⟩ | ⟨p, hp, rfl, ep⟩
  · rw [gdx_n ep] at H
    refine m_nP1 m0 hp (oI ?_)
    first | (refine ⟨fun h => ?_, fun h => ?_⟩ <;> first | exact absurd h (by decide) | exact absurd rfl h | skip) | skip
    refine thr1 (oI ?_)
    first | (refine ⟨fun h => ?_, fun h => ?_⟩ <;> first | exact absurd h (by decide) | exact absurd rfl h | skip) | skip
    exact RM_er H (by decide) m
  rw [gdx_s ep] at H
  rcases ix_cs (n := th w) (by omega) b with ⟨et, ht⟩ | ⟨t, ht, rfl, et⟩
  · rw [gdx_n et] at H
    refine m_nP0 m0 hp (oI ?_)
    first | (refine ⟨fun h => ?_, fun h => ?_⟩ <;> first | exact absurd h (by decide) | exact absurd rfl h | skip) | skip
    refine m_nW2 m0 ht (oI ?_)
    first | (refine ⟨fun h => ?_, fun h => ?_⟩ <;> first | exact absurd h (by decide) | exact absurd rfl h | skip) | skip
    refine thr1 (oI ?_)
    first | (refine ⟨fun h => ?_, fun h => ?_⟩ <;> first | exact absurd h (by decide) | exact absurd rfl h | skip) | skip
    exact RM_er H (by decide) m
  rw [gdx_s et] at H
  have w6 := (wf_wo m.2.1 (show t < 10 by omega)).2.1
  rcases ix_cs (n := wo w t) (by omega) c with ⟨eq, hq⟩ | ⟨q, hq, rfl, eq⟩
  · rw [gdx_n eq] at H
    refine m_nP0 m0 hp (oI ?_)
    first | (refine ⟨fun h => ?_, fun h => ?_⟩ <;> first | exact absurd h (by decide) | exact absurd rfl h | skip) | skip
    refine m_nW1 m0 ht hq (oI ?_)
    first | (refine ⟨fun h => ?_, fun h => ?_⟩ <;> first | exact absurd h (by decide) | exact absurd rfl h | skip) | skip
    refine thr1 (oI ?_)
    first | (refine ⟨fun h => ?_, fun h => ?_⟩ <;> first | exact absurd h (by decide) | exact absurd rfl h | skip) | skip
    exact RM_er H (by decide) m
  rw [gdx_s eq] at H
  refine m_nP0 m0 hp (oI ?_)
  first | (refine ⟨fun h => ?_, fun h => ?_⟩ <;> first | exact absurd h (by decide) | exact absurd rfl h | skip) | skip
  refine m_nW0 m0 ht hq (oI ?_)
  first | (refine ⟨fun h => ?_, fun h => ?_⟩ <;> first | exact absurd h (by decide) | exact absurd rfl h | skip) | skip
  refine thr0 (oI ?_)
  first | (refine ⟨fun h => ?_, fun h => ?_⟩ <;> first | exact absurd h (by decide) | exact absurd rfl h | skip) | skip
  exact m_ech m0 (by omega) ht (by omega) fun f => RM_ok9 H m f
def q_between (w : WD) (a b : Int32) : Nat × Int32 := gdx (pe w) a 1 fun p => gdx (pe w) b 1 fun q => if p = q then (2, 0) else (0, bwT w p q (th w))
theorem M_between (m : MW μ w) {a b : Int32} (H : RM Φ μ w (q_between w a b)) : Spec g i_Mo_between 0 [.ref 140, .int a, .int b] μ Φ := by
  have p10 := (wf_pe m.2.1).2
  have t10 := (wf_th m.2.1).2
  have m0 : MW (sI μ 140 0 0) w := MW_0 m
  unfold q_between at H
  refine spi o_Mo_between rfl (v_Mo_between_0 ?_)
  rcases ix_cs (n := pe w) (by omega) a with ⟨ep, hp⟩ | ⟨p, hp, rfl, ep⟩
  · rw [gdx_n ep] at H
    refine m_nP1 m0 hp (oI ?_)
    first | (refine ⟨fun h => ?_, fun h => ?_⟩ <;> first | exact absurd h (by decide) | exact absurd rfl h | skip) | skip
    refine thr1 (oI ?_)
    first | (refine ⟨fun h => ?_, fun h => ?_⟩ <;> first | exact absurd h (by decide) | exact absurd rfl h | skip) | skip
    exact RM_er H (by decide) m
  rw [gdx_s ep] at H
  rcases ix_cs (n := pe w) (by omega) b with ⟨eq, hq⟩ | ⟨q, hq, rfl, eq⟩
  · rw [gdx_n eq] at H
    refine m_nP0 m0 hp (oI ?_)
    first | (refine ⟨fun h => ?_, fun h => ?_⟩ <;> first | exact absurd h (by decide) | exact absurd rfl h | skip) | skip
    refine m_nP1 m0 hq (oI ?_)
    first | (refine ⟨fun h => ?_, fun h => ?_⟩ <;> first | exact absurd h (by decide) | exact absurd rfl h | skip) | skip
    refine thr1 (oI ?_)
    first | (refine ⟨fun h => ?_, fun h => ?_⟩ <;> first | exact absurd h (by decide) | exact absurd rfl h | skip) | skip
    exact RM_er H (by decide) m
  rw [gdx_s eq] at H
  by_cases hne : p = q
  · rw [if_pos hne] at H
    subst hne
    refine m_nP0 m0 hp (oI ?_)
    first | (refine ⟨fun h => ?_, fun h => ?_⟩ <;> first | exact absurd h (by decide) | exact absurd rfl h | skip) | skip
    refine m_nP0 m0 hq (oI ?_)
    first | (refine ⟨fun h => ?_, fun h => ?_⟩ <;> first | exact absurd h (by decide) | exact absurd rfl h | skip) | skip
    refine thr0 (oI ?_)
    first | (refine ⟨fun h => ?_, fun h => ?_⟩ <;> first | exact absurd h (by decide) | exact absurd rfl h | skip) | skip
    first | (refine ⟨fun h => ?_, fun h => ?_⟩ <;> first | exact absurd h (fun e => e rfl) | exact absurd rfl h | skip) | skip
    refine thr1 (oI ?_)
    first | (refine ⟨fun h => ?_, fun h => ?_⟩ <;> first | exact absurd h (by decide) | exact absurd rfl h | skip) | skip
    exact RM_er H (by decide) m
  rw [if_neg hne] at H
  refine m_nP0 m0 hp (oI ?_)
  first | (refine ⟨fun h => ?_, fun h => ?_⟩ <;> first | exact absurd h (by decide) | exact absurd rfl h | skip) | skip
  refine m_nP0 m0 hq (oI ?_)
  first | (refine ⟨fun h => ?_, fun h => ?_⟩ <;> first | exact absurd h (by decide) | exact absurd rfl h | skip) | skip
  refine thr0 (oI ?_)
  first | (refine ⟨fun h => ?_, fun h => ?_⟩ <;> first | exact absurd h (by decide) | exact absurd rfl h | skip) | skip
  first | (refine ⟨fun h => ?_, fun h => ?_⟩ <;> first | exact absurd h (fun e => hne (nI_inj (by omega) (by omega) e)) | exact absurd rfl h | skip) | skip
  refine thr0 (oI ?_)
  first | (refine ⟨fun h => ?_, fun h => ?_⟩ <;> first | exact absurd h (by decide) | exact absurd rfl h | skip) | skip
  exact m_btw m0 hp hq (fun e => hne e.symm) fun f => RM_ok9 H m f
def q_how (w : WD) (a b : Int32) : Nat × Int32 := gdx (pe w) a 1 fun p => gdx (th w) b 1 fun t => (0, ov (row w p t 0))
theorem M_how (m : MW μ w) {a b : Int32} (H : RM Φ μ w (q_how w a b)) : Spec g i_Mo_how 0 [.ref 140, .int a, .int b] μ Φ := by
  have p10 := (wf_pe m.2.1).2
  have t10 := (wf_th m.2.1).2
  have m0 : MW (sI μ 140 0 0) w := MW_0 m
  unfold q_how at H
  refine spi o_Mo_how rfl (v_Mo_how_0 ?_)
  rcases ix_cs (n := pe w) (by omega) a with ⟨ep, hp⟩ | ⟨p, hp, rfl, ep⟩
  · rw [gdx_n ep] at H
    refine m_nP1 m0 hp (oI ?_)
    first | (refine ⟨fun h => ?_, fun h => ?_⟩ <;> first | exact absurd h (by decide) | exact absurd rfl h | skip) | skip
    refine thr1 (oI ?_)
    first | (refine ⟨fun h => ?_, fun h => ?_⟩ <;> first | exact absurd h (by decide) | exact absurd rfl h | skip) | skip
    exact RM_er H (by decide) m
  rw [gdx_s ep] at H
  rcases ix_cs (n := th w) (by omega) b with ⟨et, ht⟩ | ⟨t, ht, rfl, et⟩
  · rw [gdx_n et] at H
    refine m_nP0 m0 hp (oI ?_)
    first | (refine ⟨fun h => ?_, fun h => ?_⟩ <;> first | exact absurd h (by decide) | exact absurd rfl h | skip) | skip
    refine m_nT1 m0 ht (oI ?_)
    first | (refine ⟨fun h => ?_, fun h => ?_⟩ <;> first | exact absurd h (by decide) | exact absurd rfl h | skip) | skip
    refine thr1 (oI ?_)
    first | (refine ⟨fun h => ?_, fun h => ?_⟩ <;> first | exact absurd h (by decide) | exact absurd rfl h | skip) | skip
    exact RM_er H (by decide) m
  rw [gdx_s et] at H
  refine m_nP0 m0 hp (oI ?_)
  first | (refine ⟨fun h => ?_, fun h => ?_⟩ <;> first | exact absurd h (by decide) | exact absurd rfl h | skip) | skip
  refine m_nT0 m0 ht (oI ?_)
  first | (refine ⟨fun h => ?_, fun h => ?_⟩ <;> first | exact absurd h (by decide) | exact absurd rfl h | skip) | skip
  refine thr0 (oI ?_)
  first | (refine ⟨fun h => ?_, fun h => ?_⟩ <;> first | exact absurd h (by decide) | exact absurd rfl h | skip) | skip
  exact m_row (f := 0) m0 (by omega) (by omega) (by omega) (oI (RM_ok0 H m))
end PUBG
