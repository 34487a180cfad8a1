section PUBH
variable {g : Gl} {Φ : Out → Mem → Prop} {μ : Mem} {w : WD}
theorem m_inN {n : Nat} (hn : n < 2 ^ 30) {a : Int32} (ha : a < 0 ∨ nI n ≤ a) (H : Φ (.inl (some (.int 0))) μ) : Spec g i_Mo_in 0 [.int a, .int 0, .int (nI n - 1)] μ Φ := by
  refine m_in ?_
  rw [decide_eq_false]; exact H
  rintro ⟨h1, h2⟩
  rcases ha with h | h
  · exact Int32.not_lt.mpr h1 h
  · cases n with
    | zero => exact absurd (Int32.le_trans h1 h2) (by decide)
    | succ k => rw [nI_pred] at h2; exact nI_ge (Nat.lt_succ_self k) (by omega) (Int32.le_trans h h2)
theorem m_inS {n j : Nat} (hn : n < 2 ^ 30) (hj : j < n) (H : Φ (.inl (some (.int 1))) μ) : Spec g i_Mo_in 0 [.int (nI j), .int 0, .int (nI n - 1)] μ Φ := by
  refine m_in ?_
  rw [decide_eq_true]; exact H
  refine ⟨nI_pos' (by omega), ?_⟩
  obtain ⟨k, rfl⟩ : ∃ k, n = k + 1 := ⟨n - 1, by omega⟩
  rw [nI_pred]; exact nI_le (by omega) (by omega)
def q_audience (w : WD) (a b c : Int32) (d : Bool) : Nat × Int32 := gdx (pe w) a 1 fun p => gdx (th w) b 1 fun t => gdx (wo w t) c 1 fun q => (0, msk (pe w) (hrf w p t q d))
theorem M_audience (m : MW μ w) {a b c : Int32} {d : Bool} (H : RM Φ μ w (q_audience w a b c d)) : Spec g i_Mo_audience 0 [.ref 140, .int a, .int b, .int c, .int (b2i d)] μ Φ := by
  have p10 := (wf_pe m.2.1).2
  have t10 := (wf_th m.2.1).2
  have m0 : MW (sI μ 140 0 0) w := MW_0 m
  unfold q_audience at H
  refine spi o_Mo_audience rfl (v_Mo_audience_0 ?_)
  rcases ix_cs (n := pe w) (by omega) a with ⟨ep, hp⟩ | ⟨p, hp, rfl, ep⟩
  · rw [gdx_n ep] at H
    refine m_nP1 m0 hp (oI ?_)
    first | (refine ⟨fun h => ?_, fun h => ?_⟩ <;> first | exact absurd h (by decide) | exact absurd rfl h | skip) | skip
    refine thr1 (oI ?_)
    first | (refine ⟨fun h => ?_, fun h => ?_⟩ <;> first | exact absurd h (by decide) | exact absurd rfl h | skip) | skip
    exact RM_er H (by decide) m
  rw [gdx_s ep] at H
  rcases ix_cs (n := th w) (by omega) b with ⟨et, ht⟩ | ⟨t, ht, rfl, et⟩
  · rw [gdx_n et] at H
    refine m_nP0 m0 hp (oI ?_)
    first | (refine ⟨fun h => ?_, fun h => ?_⟩ <;> first | exact absurd h (by decide) | exact absurd rfl h | skip) | skip
    refine m_nW2 m0 ht (oI ?_)
    first | (refine ⟨fun h => ?_, fun h => ?_⟩ <;> first | exact absurd h (by decide) | exact absurd rfl h | skip) | skip
    refine thr1 (oI ?_)
    first | (refine ⟨fun h => ?_, fun h => ?_⟩ <;> first | exact absurd h (by decide) | exact absurd rfl h | skip) | skip
    exact RM_er H (by decide) m
  rw [gdx_s et] at H
  have w6 := (wf_wo m.2.1 (show t < 10 by omega)).2.1
  rcases ix_cs (n := wo w t) (by omega) c with ⟨eq, hq⟩ | ⟨q, hq, rfl, eq⟩
  · rw [gdx_n eq] at H
    refine m_nP0 m0 hp (oI ?_)
    first | (refine ⟨fun h => ?_, fun h => ?_⟩ <;> first | exact absurd h (by decide) | exact absurd rfl h | skip) | skip
    refine m_nW1 m0 ht hq (oI ?_)
    first | (refine ⟨fun h => ?_, fun h => ?_⟩ <;> first | exact absurd h (by decide) | exact absurd rfl h | skip) | skip
    refine thr1 (oI ?_)
    first | (refine ⟨fun h => ?_, fun h => ?_⟩ <;> first | exact absurd h (by decide) | exact absurd rfl h | skip) | skip
    exact RM_er H (by decide) m
  rw [gdx_s eq] at H
  refine m_nP0 m0 hp (oI ?_)
  first | (refine ⟨fun h => ?_, fun h => ?_⟩ <;> first | exact absurd h (by decide) | exact absurd rfl h | skip) | skip
  refine m_nW0 m0 ht hq (oI ?_)
  first | (refine ⟨fun h => ?_, fun h => ?_⟩ <;> first | exact absurd h (by decide) | exact absurd rfl h | skip) | skip
  refine thr0 (oI ?_)
  first | (refine ⟨fun h => ?_, fun h => ?_⟩ <;> first | exact absurd h (by decide) | exact absurd rfl h | skip) | skip
  exact m_so (oI (m_hrs (right := d) m0 ht (by omega) (by omega) fun f => oI (RM_ok9 H m f)))
def q_hears (w : WD) (a b c d : Int32) : Nat × Int32 := gdx (pe w) a 1 fun p => gdx (th w) b 1 fun t => gdx (wo w t) c 1 fun q => gdx (pe w) d 1 fun r => if p = r then (2, 0) else (0, ov (tk0 w p t q r))
theorem M_hears (m : MW μ w) {a b c d : Int32} (H : RM Φ μ w (q_hears w a b c d)) : Spec g i_Mo_hears 0 [.ref 140, .int a, .int b, .int c, .int d] μ Φ := by
  have p10 := (wf_pe m.2.1).2
  have t10 := (wf_th m.2.1).2
  have m0 : MW (sI μ 140 0 0) w := MW_0 m
  unfold q_hears at H
  refine spi o_Mo_hears rfl (v_Mo_hears_0 ?_)
  rcases ix_cs (n := pe w) (by omega) a with ⟨ep, hp⟩ | ⟨p, hp, rfl, ep⟩
  · rw [gdx_n ep] at H
    refine m_nP1 m0 hp (oI ?_)
    first | (refine ⟨fun h => ?_, fun h => ?_⟩ <;> first | exact absurd h (by decide) | exact absurd rfl h | skip) | skip
    refine thr1 (oI ?_)
    first | (refine ⟨fun h => ?_, fun h => ?_⟩ <;> first | exact absurd h (by decide) | exact absurd rfl h | skip) | skip
    exact RM_er H (by decide) m
  rw [gdx_s ep] at H
  rcases ix_cs (n := th w) (by omega) b with ⟨et, ht⟩ | ⟨t, ht, rfl, et⟩
  · rw [gdx_n et] at H
    refine m_nP0 m0 hp (oI ?_)
    first | (refine ⟨fun h => ?_, fun h => ?_⟩ <;> first | exact absurd h (by decide) | exact absurd rfl h | skip) | skip
    refine m_nW2 m0 ht (oI ?_)
    first | (refine ⟨fun h => ?_, fun h => ?_⟩ <;> first | exact absurd h (by decide) | exact absurd rfl h | skip) | skip
    refine thr1 (oI ?_)
    first | (refine ⟨fun h => ?_, fun h => ?_⟩ <;> first | exact absurd h (by decide) | exact absurd rfl h | skip) | skip
    exact RM_er H (by decide) m
  rw [gdx_s et] at H
  have w6 := (wf_wo m.2.1 (show t < 10 by omega)).2.1
  rcases ix_cs (n := wo w t) (by omega) c with ⟨eq, hq⟩ | ⟨q, hq, rfl, eq⟩
  · rw [gdx_n eq] at H
    refine m_nP0 m0 hp (oI ?_)
    first | (refine ⟨fun h => ?_, fun h => ?_⟩ <;> first | exact absurd h (by decide) | exact absurd rfl h | skip) | skip
    refine m_nW1 m0 ht hq (oI ?_)
    first | (refine ⟨fun h => ?_, fun h => ?_⟩ <;> first | exact absurd h (by decide) | exact absurd rfl h | skip) | skip
    refine thr1 (oI ?_)
    first | (refine ⟨fun h => ?_, fun h => ?_⟩ <;> first | exact absurd h (by decide) | exact absurd rfl h | skip) | skip
    exact RM_er H (by decide) m
  rw [gdx_s eq] at H
  rcases ix_cs (n := pe w) (by omega) d with ⟨er, hr⟩ | ⟨r, hr, rfl, er⟩
  · rw [gdx_n er] at H
    refine m_nP0 m0 hp (oI ?_)
    first | (refine ⟨fun h => ?_, fun h => ?_⟩ <;> first | exact absurd h (by decide) | exact absurd rfl h | skip) | skip
    refine m_nW0 m0 ht hq (oI ?_)
    first | (refine ⟨fun h => ?_, fun h => ?_⟩ <;> first | exact absurd h (by decide) | exact absurd rfl h | skip) | skip
    refine m_nP1 m0 hr (oI ?_)
    first | (refine ⟨fun h => ?_, fun h => ?_⟩ <;> first | exact absurd h (by decide) | exact absurd rfl h | skip) | skip
    refine thr1 (oI ?_)
    first | (refine ⟨fun h => ?_, fun h => ?_⟩ <;> first | exact absurd h (by decide) | exact absurd rfl h | skip) | skip
    exact RM_er H (by decide) m
  rw [gdx_s er] at H
  by_cases hne : p = r
  · rw [if_pos hne] at H
    subst hne
    refine m_nP0 m0 hp (oI ?_)
    first | (refine ⟨fun h => ?_, fun h => ?_⟩ <;> first | exact absurd h (by decide) | exact absurd rfl h | skip) | skip
    refine m_nW0 m0 ht hq (oI ?_)
    first | (refine ⟨fun h => ?_, fun h => ?_⟩ <;> first | exact absurd h (by decide) | exact absurd rfl h | skip) | skip
    refine m_nP0 m0 hr (oI ?_)
    first | (refine ⟨fun h => ?_, fun h => ?_⟩ <;> first | exact absurd h (by decide) | exact absurd rfl h | skip) | skip
    refine thr0 (oI ?_)
    first | (refine ⟨fun h => ?_, fun h => ?_⟩ <;> first | exact absurd h (by decide) | exact absurd rfl h | skip) | skip
    first | (refine ⟨fun h => ?_, fun h => ?_⟩ <;> first | exact absurd h (fun e => e rfl) | exact absurd rfl h | skip) | skip
    refine thr1 (oI ?_)
    first | (refine ⟨fun h => ?_, fun h => ?_⟩ <;> first | exact absurd h (by decide) | exact absurd rfl h | skip) | skip
    exact RM_er H (by decide) m
  rw [if_neg hne] at H
  refine m_nP0 m0 hp (oI ?_)
  first | (refine ⟨fun h => ?_, fun h => ?_⟩ <;> first | exact absurd h (by decide) | exact absurd rfl h | skip) | skip
  refine m_nW0 m0 ht hq (oI ?_)
  first | (refine ⟨fun h => ?_, fun h => ?_⟩ <;> first | exact absurd h (by decide) | exact absurd rfl h | skip) | skip
  refine m_nP0 m0 hr (oI ?_)
  first | (refine ⟨fun h => ?_, fun h => ?_⟩ <;> first | exact absurd h (by decide) | exact absurd rfl h | skip) | skip
  refine thr0 (oI ?_)
  first | (refine ⟨fun h => ?_, fun h => ?_⟩ <;> first | exact absurd h (by decide) | exact absurd rfl h | skip) | skip
  first | (refine ⟨fun h => ?_, fun h => ?_⟩ <;> first | exact absurd h (fun e => hne (nI_inj (by omega) (by omega) e)) | exact absurd rfl h | skip) | skip
  refine thr0 (oI ?_)
  first | (refine ⟨fun h => ?_, fun h => ?_⟩ <;> first | exact absurd h (by decide) | exact absurd rfl h | skip) | skip
  refine m_so (oI (m_tk m0 ht (by omega) (by omega) (by omega) fun f => oI ?_))
  rw [show tk w p t q r (kno w r t) = tk0 w p t q r by unfold tk0; rw [if_neg (fun e => hne e.symm)]]
  exact RM_ok9 H m f
def q_thing (w : WD) (a b : Int32) : Nat × Int32 := gdx (th w) a 1 fun t => gdx 4 b 2 fun j => (0, if j = 0 then nI (wo w t) else if j = 1 then nI (lf w t) else if j = 2 then msk (pe w) (fun r => kno w r t) else ov (src w t))
theorem M_thing (m : MW μ w) {a b : Int32} (H : RM Φ μ w (q_thing w a b)) : Spec g i_Mo_thing 0 [.ref 140, .int a, .int b] μ Φ := by
  have p10 := (wf_pe m.2.1).2
  have t10 := (wf_th m.2.1).2
  have m0 : MW (sI μ 140 0 0) w := MW_0 m
  unfold q_thing at H
  refine spi o_Mo_thing rfl (v_Mo_thing_0 ?_)
  rcases ix_cs (n := th w) (by omega) a with ⟨et, ht⟩ | ⟨t, ht, rfl, et⟩
  · rw [gdx_n et] at H
    refine m_nT1 m0 ht (oI ?_)
    first | (refine ⟨fun h => ?_, fun h => ?_⟩ <;> first | exact absurd h (by decide) | exact absurd rfl h | skip) | skip
    refine thr1 (oI ?_)
    first | (refine ⟨fun h => ?_, fun h => ?_⟩ <;> first | exact absurd h (by decide) | exact absurd rfl h | skip) | skip
    exact RM_er H (by decide) m
  rw [gdx_s et] at H
  rcases ix_cs (n := 4) (by omega) b with ⟨ej, hj⟩ | ⟨j, hj, rfl, ej⟩
  · rw [gdx_n ej] at H
    refine m_nT0 m0 ht (oI ?_)
    first | (refine ⟨fun h => ?_, fun h => ?_⟩ <;> first | exact absurd h (by decide) | exact absurd rfl h | skip) | skip
    refine thr0 (oI ?_)
    first | (refine ⟨fun h => ?_, fun h => ?_⟩ <;> first | exact absurd h (by decide) | exact absurd rfl h | skip) | skip
    refine m_in0 (n := 3) (by decide) hj (oI ?_)
    first | (refine ⟨fun h => ?_, fun h => ?_⟩ <;> first | exact absurd h (by decide) | exact absurd rfl h | skip) | skip
    refine thr1 (oI ?_)
    first | (refine ⟨fun h => ?_, fun h => ?_⟩ <;> first | exact absurd h (by decide) | exact absurd rfl h | skip) | skip
    exact RM_er H (by decide) m
  rw [gdx_s ej] at H
  refine m_nT0 m0 ht (oI ?_)
  first | (refine ⟨fun h => ?_, fun h => ?_⟩ <;> first | exact absurd h (by decide) | exact absurd rfl h | skip) | skip
  refine thr0 (oI ?_)
  first | (refine ⟨fun h => ?_, fun h => ?_⟩ <;> first | exact absurd h (by decide) | exact absurd rfl h | skip) | skip
  refine m_in1 (n := 3) (by decide) (by omega) (oI ?_)
  first | (refine ⟨fun h => ?_, fun h => ?_⟩ <;> first | exact absurd h (by decide) | exact absurd rfl h | skip) | skip
  refine thr0 (oI ?_)
  first | (refine ⟨fun h => ?_, fun h => ?_⟩ <;> first | exact absurd h (by decide) | exact absurd rfl h | skip) | skip
  rcases (by omega : j = 0 ∨ j = 1 ∨ j = 2 ∨ j = 3) with rfl | rfl | rfl | rfl
  · first | (refine ⟨fun h => ?_, fun h => ?_⟩ <;> first | exact absurd h (by decide) | exact absurd rfl h | skip) | skip
    exact m_wo m0 (by omega) (oI (RM_ok0 H m))
  · first | (refine ⟨fun h => ?_, fun h => ?_⟩ <;> first | exact absurd h (by decide) | exact absurd rfl h | skip) | skip
    first | (refine ⟨fun h => ?_, fun h => ?_⟩ <;> first | exact absurd h (by decide) | exact absurd rfl h | skip) | skip
    exact m_lf m0 (by omega) (oI (RM_ok0 H m))
  · first | (refine ⟨fun h => ?_, fun h => ?_⟩ <;> first | exact absurd h (by decide) | exact absurd rfl h | skip) | skip
    first | (refine ⟨fun h => ?_, fun h => ?_⟩ <;> first | exact absurd h (by decide) | exact absurd rfl h | skip) | skip
    first | (refine ⟨fun h => ?_, fun h => ?_⟩ <;> first | exact absurd h (by decide) | exact absurd rfl h | skip) | skip
    exact m_knr m0 (by omega) (oI (RM_ok0 H m))
  · first | (refine ⟨fun h => ?_, fun h => ?_⟩ <;> first | exact absurd h (by decide) | exact absurd rfl h | skip) | skip
    first | (refine ⟨fun h => ?_, fun h => ?_⟩ <;> first | exact absurd h (by decide) | exact absurd rfl h | skip) | skip
    first | (refine ⟨fun h => ?_, fun h => ?_⟩ <;> first | exact absurd h (by decide) | exact absurd rfl h | skip) | skip
    exact m_src m0 ht (oI (RM_ok0 H m))
def q_person (w : WD) (a b : Int32) : Nat × Int32 := gdx (pe w) a 1 fun p => gdx 8 b 2 fun j => (0, if j = 6 then clo w 10 (pf w p 4) else if j = 7 then pf w p 4 &&& (orf (fun o => if (!decide (o = p) && her w o) then pf w o 4 else 0) (pe w) ^^^ (-1)) else pf w p j)
theorem M_person (m : MW μ w) {a b : Int32} (H : RM Φ μ w (q_person w a b)) : Spec g i_Mo_person 0 [.ref 140, .int a, .int b] μ Φ := by
  have p10 := (wf_pe m.2.1).2
  have t10 := (wf_th m.2.1).2
  have m0 : MW (sI μ 140 0 0) w := MW_0 m
  unfold q_person at H
  refine spi o_Mo_person rfl (v_Mo_person_0 ?_)
  rcases ix_cs (n := pe w) (by omega) a with ⟨ep, hp⟩ | ⟨p, hp, rfl, ep⟩
  · rw [gdx_n ep] at H
    refine m_nP1 m0 hp (oI ?_)
    first | (refine ⟨fun h => ?_, fun h => ?_⟩ <;> first | exact absurd h (by decide) | exact absurd rfl h | skip) | skip
    refine thr1 (oI ?_)
    first | (refine ⟨fun h => ?_, fun h => ?_⟩ <;> first | exact absurd h (by decide) | exact absurd rfl h | skip) | skip
    exact RM_er H (by decide) m
  rw [gdx_s ep] at H
  rcases ix_cs (n := 8) (by omega) b with ⟨ej, hj⟩ | ⟨j, hj, rfl, ej⟩
  · rw [gdx_n ej] at H
    refine m_nP0 m0 hp (oI ?_)
    first | (refine ⟨fun h => ?_, fun h => ?_⟩ <;> first | exact absurd h (by decide) | exact absurd rfl h | skip) | skip
    refine thr0 (oI ?_)
    first | (refine ⟨fun h => ?_, fun h => ?_⟩ <;> first | exact absurd h (by decide) | exact absurd rfl h | skip) | skip
    refine m_in0 (n := 7) (by decide) hj (oI ?_)
    first | (refine ⟨fun h => ?_, fun h => ?_⟩ <;> first | exact absurd h (by decide) | exact absurd rfl h | skip) | skip
    refine thr1 (oI ?_)
    first | (refine ⟨fun h => ?_, fun h => ?_⟩ <;> first | exact absurd h (by decide) | exact absurd rfl h | skip) | skip
    exact RM_er H (by decide) m
  rw [gdx_s ej] at H
  refine m_nP0 m0 hp (oI ?_)
  first | (refine ⟨fun h => ?_, fun h => ?_⟩ <;> first | exact absurd h (by decide) | exact absurd rfl h | skip) | skip
  refine thr0 (oI ?_)
  first | (refine ⟨fun h => ?_, fun h => ?_⟩ <;> first | exact absurd h (by decide) | exact absurd rfl h | skip) | skip
  refine m_in1 (n := 7) (by decide) (by omega) (oI ?_)
  first | (refine ⟨fun h => ?_, fun h => ?_⟩ <;> first | exact absurd h (by decide) | exact absurd rfl h | skip) | skip
  refine thr0 (oI ?_)
  first | (refine ⟨fun h => ?_, fun h => ?_⟩ <;> first | exact absurd h (by decide) | exact absurd rfl h | skip) | skip
  by_cases h6 : j = 6
  · subst h6
    first | (refine ⟨fun h => ?_, fun h => ?_⟩ <;> first | exact absurd h (by decide) | exact absurd rfl h | skip) | skip
    exact m_of (k := 4) m0 (by omega) (by decide) (oI (m_clo m0 (wf_k10 m.2.1 (by omega)) (oI (RM_ok0 H m))))
  by_cases h7 : j = 7
  · subst h7
    first | (refine ⟨fun h => ?_, fun h => ?_⟩ <;> first | exact absurd h (by decide) | exact absurd rfl h | skip) | skip
    first | (refine ⟨fun h => ?_, fun h => ?_⟩ <;> first | exact absurd h (by decide) | exact absurd rfl h | skip) | skip
    exact m_los m0 hp (oI (RM_ok0 H m))
  rw [if_neg h6, if_neg h7] at H
  refine ⟨fun h => ?_, fun h => absurd (nI_inj (by omega) (by omega) (show nI j = nI 6 from h)) h6⟩
  refine ⟨fun h => ?_, fun h => absurd (nI_inj (by omega) (by omega) (show nI j = nI 7 from h)) h7⟩
  exact m_of m0 (by omega) (by omega) (oI (RM_ok0 H m))
def q_kept (w : WD) (a b : Int32) : Nat × Int32 := gdx (pe w) a 1 fun p => gdx (th w) b 1 fun t => (0, if kno w p t then -2 else ov (kep w p t))
theorem M_kept (m : MW μ w) {a b : Int32} (H : RM Φ μ w (q_kept w a b)) : Spec g i_Mo_kept 0 [.ref 140, .int a, .int b] μ Φ := by
  have p10 := (wf_pe m.2.1).2
  have t10 := (wf_th m.2.1).2
  have m0 : MW (sI μ 140 0 0) w := MW_0 m
  unfold q_kept at H
  refine spi o_Mo_kept rfl (v_Mo_kept_0 ?_)
  rcases ix_cs (n := pe w) (by omega) a with ⟨ep, hp⟩ | ⟨p, hp, rfl, ep⟩
  · rw [gdx_n ep] at H
    refine m_nP1 m0 hp (oI ?_)
    first | (refine ⟨fun h => ?_, fun h => ?_⟩ <;> first | exact absurd h (by decide) | exact absurd rfl h | skip) | skip
    refine thr1 (oI ?_)
    first | (refine ⟨fun h => ?_, fun h => ?_⟩ <;> first | exact absurd h (by decide) | exact absurd rfl h | skip) | skip
    exact RM_er H (by decide) m
  rw [gdx_s ep] at H
  rcases ix_cs (n := th w) (by omega) b with ⟨et, ht⟩ | ⟨t, ht, rfl, et⟩
  · rw [gdx_n et] at H
    refine m_nP0 m0 hp (oI ?_)
    first | (refine ⟨fun h => ?_, fun h => ?_⟩ <;> first | exact absurd h (by decide) | exact absurd rfl h | skip) | skip
    refine m_nT1 m0 ht (oI ?_)
    first | (refine ⟨fun h => ?_, fun h => ?_⟩ <;> first | exact absurd h (by decide) | exact absurd rfl h | skip) | skip
    refine thr1 (oI ?_)
    first | (refine ⟨fun h => ?_, fun h => ?_⟩ <;> first | exact absurd h (by decide) | exact absurd rfl h | skip) | skip
    exact RM_er H (by decide) m
  rw [gdx_s et] at H
  refine m_nP0 m0 hp (oI ?_)
  first | (refine ⟨fun h => ?_, fun h => ?_⟩ <;> first | exact absurd h (by decide) | exact absurd rfl h | skip) | skip
  refine m_nT0 m0 ht (oI ?_)
  first | (refine ⟨fun h => ?_, fun h => ?_⟩ <;> first | exact absurd h (by decide) | exact absurd rfl h | skip) | skip
  refine thr0 (oI ?_)
  first | (refine ⟨fun h => ?_, fun h => ?_⟩ <;> first | exact absurd h (by decide) | exact absurd rfl h | skip) | skip
  refine m_kn m0 (by omega) (by omega) (oI ?_)
  cases hk : kno w p t with
  | true =>
    rw [hk] at H
    first | (refine ⟨fun h => ?_, fun h => ?_⟩ <;> first | exact absurd h (by decide) | exact absurd rfl h | skip) | skip
    exact RM_ok0 H m
  | false =>
    rw [hk] at H
    first | (refine ⟨fun h => ?_, fun h => ?_⟩ <;> first | exact absurd h (by decide) | exact absurd rfl h | skip) | skip
    exact m_tea m0 ht fun μ2 e2 hT => oV (m_here (MW_m m0 e2) (oI (m_kep70 (MW_m m0 e2) hp ht hk hT (RM_ok H (zM_W e2) (MW_m m0 e2)))))
def q_chain (w : WD) (a b c : Int32) : Nat × Int32 := gdx (pe w) a 1 fun p => gdx (th w) b 1 fun t => (0, if kno w p t then (if c = 0 then nI (chN w p t) else nI (chS w p t (chN w p t)).1) else (if c = 0 then 0 else -1))
theorem M_chain (m : MW μ w) {a b c : Int32} (H : RM Φ μ w (q_chain w a b c)) : Spec g i_Mo_chain 0 [.ref 140, .int a, .int b, .int c] μ Φ := by
  have p10 := (wf_pe m.2.1).2
  have t10 := (wf_th m.2.1).2
  have m0 : MW (sI μ 140 0 0) w := MW_0 m
  unfold q_chain at H
  refine spi o_Mo_chain rfl (v_Mo_chain_0 ?_)
  rcases ix_cs (n := pe w) (by omega) a with ⟨ep, hp⟩ | ⟨p, hp, rfl, ep⟩
  · rw [gdx_n ep] at H
    refine m_nP1 m0 hp (oI ?_)
    first | (refine ⟨fun h => ?_, fun h => ?_⟩ <;> first | exact absurd h (by decide) | exact absurd rfl h | skip) | skip
    refine thr1 (oI ?_)
    first | (refine ⟨fun h => ?_, fun h => ?_⟩ <;> first | exact absurd h (by decide) | exact absurd rfl h | skip) | skip
    exact RM_er H (by decide) m
  rw [gdx_s ep] at H
  rcases ix_cs (n := th w) (by omega) b with ⟨et, ht⟩ | ⟨t, ht, rfl, et⟩
  · rw [gdx_n et] at H
    refine m_nP0 m0 hp (oI ?_)
    first | (refine ⟨fun h => ?_, fun h => ?_⟩ <;> first | exact absurd h (by decide) | exact absurd rfl h | skip) | skip
    refine m_nT1 m0 ht (oI ?_)
    first | (refine ⟨fun h => ?_, fun h => ?_⟩ <;> first | exact absurd h (by decide) | exact absurd rfl h | skip) | skip
    refine thr1 (oI ?_)
    first | (refine ⟨fun h => ?_, fun h => ?_⟩ <;> first | exact absurd h (by decide) | exact absurd rfl h | skip) | skip
    exact RM_er H (by decide) m
  rw [gdx_s et] at H
  refine m_nP0 m0 hp (oI ?_)
  first | (refine ⟨fun h => ?_, fun h => ?_⟩ <;> first | exact absurd h (by decide) | exact absurd rfl h | skip) | skip
  refine m_nT0 m0 ht (oI ?_)
  first | (refine ⟨fun h => ?_, fun h => ?_⟩ <;> first | exact absurd h (by decide) | exact absurd rfl h | skip) | skip
  refine thr0 (oI ?_)
  first | (refine ⟨fun h => ?_, fun h => ?_⟩ <;> first | exact absurd h (by decide) | exact absurd rfl h | skip) | skip
  refine m_kn m0 (by omega) (by omega) (oI ?_)
  cases hk : kno w p t with
  | true =>
    rw [hk] at H
    first | (refine ⟨fun h => ?_, fun h => ?_⟩ <;> first | exact absurd h (by decide) | exact absurd rfl h | skip) | skip
    exact m_row (f := 0) m0 (by omega) (by omega) (by omega) (oI (m_chn70 m0 hp ht (RM_ok0 H m)))
  | false =>
    rw [hk] at H
    first | (refine ⟨fun h => ?_, fun h => ?_⟩ <;> first | exact absurd h (by decide) | exact absurd rfl h | skip) | skip
    refine ⟨fun h => ?_, fun h => ?_⟩
    · subst h; exact RM_ok0 H m
    · rw [if_neg (by decide), if_neg h] at H; exact RM_ok0 H m
def q_spot (w : WD) (a b c d : Int32) : Nat × Int32 := gdx (pe w) a 1 fun p => gdx (pe w) b 1 fun r => gdx (th w) c 1 fun t => gdx (wo w t) d 1 fun q => if p = r then (2, 0) else (0, ov (spo w p r t q))
theorem M_spot (m : MW μ w) (hd : DS w) {a b c d : Int32} (H : RM Φ μ w (q_spot w a b c d)) : Spec g i_Mo_spot 0 [.ref 140, .int a, .int b, .int c, .int d] μ Φ := by
  have p10 := (wf_pe m.2.1).2
  have t10 := (wf_th m.2.1).2
  have m0 : MW (sI μ 140 0 0) w := MW_0 m
  unfold q_spot at H
  refine spi o_Mo_spot rfl (v_Mo_spot_0 ?_)
  rcases ix_cs (n := pe w) (by omega) a with ⟨ep, hp⟩ | ⟨p, hp, rfl, ep⟩
  · rw [gdx_n ep] at H
    refine m_nP1 m0 hp (oI ?_)
    first | (refine ⟨fun h => ?_, fun h => ?_⟩ <;> first | exact absurd h (by decide) | exact absurd rfl h | skip) | skip
    refine thr1 (oI ?_)
    first | (refine ⟨fun h => ?_, fun h => ?_⟩ <;> first | exact absurd h (by decide) | exact absurd rfl h | skip) | skip
    exact RM_er H (by decide) m
  rw [gdx_s ep] at H
  rcases ix_cs (n := pe w) (by omega) b with ⟨er, hr⟩ | ⟨r, hr, rfl, er⟩
  · rw [gdx_n er] at H
    refine m_nP0 m0 hp (oI ?_)
    first | (refine ⟨fun h => ?_, fun h => ?_⟩ <;> first | exact absurd h (by decide) | exact absurd rfl h | skip) | skip
    refine m_nP1 m0 hr (oI ?_)
    first | (refine ⟨fun h => ?_, fun h => ?_⟩ <;> first | exact absurd h (by decide) | exact absurd rfl h | skip) | skip
    refine thr1 (oI ?_)
    first | (refine ⟨fun h => ?_, fun h => ?_⟩ <;> first | exact absurd h (by decide) | exact absurd rfl h | skip) | skip
    exact RM_er H (by decide) m
  rw [gdx_s er] at H
  rcases ix_cs (n := th w) (by omega) c with ⟨et, ht⟩ | ⟨t, ht, rfl, et⟩
  · rw [gdx_n et] at H
    refine m_nP0 m0 hp (oI ?_)
    first | (refine ⟨fun h => ?_, fun h => ?_⟩ <;> first | exact absurd h (by decide) | exact absurd rfl h | skip) | skip
    refine m_nP0 m0 hr (oI ?_)
    first | (refine ⟨fun h => ?_, fun h => ?_⟩ <;> first | exact absurd h (by decide) | exact absurd rfl h | skip) | skip
    refine m_nW2 m0 ht (oI ?_)
    first | (refine ⟨fun h => ?_, fun h => ?_⟩ <;> first | exact absurd h (by decide) | exact absurd rfl h | skip) | skip
    refine thr1 (oI ?_)
    first | (refine ⟨fun h => ?_, fun h => ?_⟩ <;> first | exact absurd h (by decide) | exact absurd rfl h | skip) | skip
    exact RM_er H (by decide) m
  rw [gdx_s et] at H
  have w6 := (wf_wo m.2.1 (show t < 10 by omega)).2.1
  rcases ix_cs (n := wo w t) (by omega) d with ⟨eq, hq⟩ | ⟨q, hq, rfl, eq⟩
  · rw [gdx_n eq] at H
    refine m_nP0 m0 hp (oI ?_)
    first | (refine ⟨fun h => ?_, fun h => ?_⟩ <;> first | exact absurd h (by decide) | exact absurd rfl h | skip) | skip
    refine m_nP0 m0 hr (oI ?_)
    first | (refine ⟨fun h => ?_, fun h => ?_⟩ <;> first | exact absurd h (by decide) | exact absurd rfl h | skip) | skip
    refine m_nW1 m0 ht hq (oI ?_)
    first | (refine ⟨fun h => ?_, fun h => ?_⟩ <;> first | exact absurd h (by decide) | exact absurd rfl h | skip) | skip
    refine thr1 (oI ?_)
    first | (refine ⟨fun h => ?_, fun h => ?_⟩ <;> first | exact absurd h (by decide) | exact absurd rfl h | skip) | skip
    exact RM_er H (by decide) m
  rw [gdx_s eq] at H
  by_cases hne : p = r
  · rw [if_pos hne] at H
    subst hne
    refine m_nP0 m0 hp (oI ?_)
    first | (refine ⟨fun h => ?_, fun h => ?_⟩ <;> first | exact absurd h (by decide) | exact absurd rfl h | skip) | skip
    refine m_nP0 m0 hr (oI ?_)
    first | (refine ⟨fun h => ?_, fun h => ?_⟩ <;> first | exact absurd h (by decide) | exact absurd rfl h | skip) | skip
    refine m_nW0 m0 ht hq (oI ?_)
    first | (refine ⟨fun h => ?_, fun h => ?_⟩ <;> first | exact absurd h (by decide) | exact absurd rfl h | skip) | skip
    refine thr0 (oI ?_)
    first | (refine ⟨fun h => ?_, fun h => ?_⟩ <;> first | exact absurd h (by decide) | exact absurd rfl h | skip) | skip
    first | (refine ⟨fun h => ?_, fun h => ?_⟩ <;> first | exact absurd h (fun e => e rfl) | exact absurd rfl h | skip) | skip
    refine thr1 (oI ?_)
    first | (refine ⟨fun h => ?_, fun h => ?_⟩ <;> first | exact absurd h (by decide) | exact absurd rfl h | skip) | skip
    exact RM_er H (by decide) m
  rw [if_neg hne] at H
  refine m_nP0 m0 hp (oI ?_)
  first | (refine ⟨fun h => ?_, fun h => ?_⟩ <;> first | exact absurd h (by decide) | exact absurd rfl h | skip) | skip
  refine m_nP0 m0 hr (oI ?_)
  first | (refine ⟨fun h => ?_, fun h => ?_⟩ <;> first | exact absurd h (by decide) | exact absurd rfl h | skip) | skip
  refine m_nW0 m0 ht hq (oI ?_)
  first | (refine ⟨fun h => ?_, fun h => ?_⟩ <;> first | exact absurd h (by decide) | exact absurd rfl h | skip) | skip
  refine thr0 (oI ?_)
  first | (refine ⟨fun h => ?_, fun h => ?_⟩ <;> first | exact absurd h (by decide) | exact absurd rfl h | skip) | skip
  first | (refine ⟨fun h => ?_, fun h => ?_⟩ <;> first | exact absurd h (fun e => hne (nI_inj (by omega) (by omega) e)) | exact absurd rfl h | skip) | skip
  refine thr0 (oI ?_)
  first | (refine ⟨fun h => ?_, fun h => ?_⟩ <;> first | exact absurd h (by decide) | exact absurd rfl h | skip) | skip
  exact m_spo67 m0 hd hp hr hne ht (by omega) fun μ2 e2 m2 => RM_ok H e2 m2
def mrg (w : WD) (p q : Nat) : Int32 := (((nI (sm (fun t => if bt (pf w p 4 &&& (pf w q 4 ^^^ (-1))) t then lf w t else 0) (th w)) + ((nI (sm (fun t => if bt (pf w p 4 &&& pf w q 4) t then lf w t else 0) (th w)) + 1) / 2)) - nI (sm (fun t => if bt (pf w q 4 &&& (pf w p 4 ^^^ (-1))) t then lf w t else 0) (th w))) - (nI (sm (fun t => if bt (pf w p 4 &&& pf w q 4) t then lf w t else 0) (th w)) / 2))
def q_margin (w : WD) (a b : Int32) : Nat × Int32 := gdx (pe w) a 1 fun p => gdx (pe w) b 1 fun q => if p = q then (2, 0) else (0, mrg w p q)
theorem M_margin (m : MW μ w) {a b : Int32} (H : RM Φ μ w (q_margin w a b)) : Spec g i_Mo_margin 0 [.ref 140, .int a, .int b] μ Φ := by
  have p10 := (wf_pe m.2.1).2
  have t10 := (wf_th m.2.1).2
  have m0 : MW (sI μ 140 0 0) w := MW_0 m
  unfold q_margin at H
  refine spi o_Mo_margin rfl (v_Mo_margin_0 ?_)
  rcases ix_cs (n := pe w) (by omega) a with ⟨ep, hp⟩ | ⟨p, hp, rfl, ep⟩
  · rw [gdx_n ep] at H
    refine m_nP1 m0 hp (oI ?_)
    first | (refine ⟨fun h => ?_, fun h => ?_⟩ <;> first | exact absurd h (by decide) | exact absurd rfl h | skip) | skip
    refine thr1 (oI ?_)
    first | (refine ⟨fun h => ?_, fun h => ?_⟩ <;> first | exact absurd h (by decide) | exact absurd rfl h | skip) | skip
    exact RM_er H (by decide) m
  rw [gdx_s ep] at H
  rcases ix_cs (n := pe w) (by omega) b with ⟨eq, hq⟩ | ⟨q, hq, rfl, eq⟩
  · rw [gdx_n eq] at H
    refine m_nP0 m0 hp (oI ?_)
    first | (refine ⟨fun h => ?_, fun h => ?_⟩ <;> first | exact absurd h (by decide) | exact absurd rfl h | skip) | skip
    refine m_nP1 m0 hq (oI ?_)
    first | (refine ⟨fun h => ?_, fun h => ?_⟩ <;> first | exact absurd h (by decide) | exact absurd rfl h | skip) | skip
    refine thr1 (oI ?_)
    first | (refine ⟨fun h => ?_, fun h => ?_⟩ <;> first | exact absurd h (by decide) | exact absurd rfl h | skip) | skip
    exact RM_er H (by decide) m
  rw [gdx_s eq] at H
  by_cases hne : p = q
  · rw [if_pos hne] at H
    subst hne
    refine m_nP0 m0 hp (oI ?_)
    first | (refine ⟨fun h => ?_, fun h => ?_⟩ <;> first | exact absurd h (by decide) | exact absurd rfl h | skip) | skip
    refine m_nP0 m0 hq (oI ?_)
    first | (refine ⟨fun h => ?_, fun h => ?_⟩ <;> first | exact absurd h (by decide) | exact absurd rfl h | skip) | skip
    refine thr0 (oI ?_)
    first | (refine ⟨fun h => ?_, fun h => ?_⟩ <;> first | exact absurd h (by decide) | exact absurd rfl h | skip) | skip
    first | (refine ⟨fun h => ?_, fun h => ?_⟩ <;> first | exact absurd h (fun e => e rfl) | exact absurd rfl h | skip) | skip
    refine thr1 (oI ?_)
    first | (refine ⟨fun h => ?_, fun h => ?_⟩ <;> first | exact absurd h (by decide) | exact absurd rfl h | skip) | skip
    exact RM_er H (by decide) m
  rw [if_neg hne] at H
  refine m_nP0 m0 hp (oI ?_)
  first | (refine ⟨fun h => ?_, fun h => ?_⟩ <;> first | exact absurd h (by decide) | exact absurd rfl h | skip) | skip
  refine m_nP0 m0 hq (oI ?_)
  first | (refine ⟨fun h => ?_, fun h => ?_⟩ <;> first | exact absurd h (by decide) | exact absurd rfl h | skip) | skip
  refine thr0 (oI ?_)
  first | (refine ⟨fun h => ?_, fun h => ?_⟩ <;> first | exact absurd h (by decide) | exact absurd rfl h | skip) | skip
  first | (refine ⟨fun h => ?_, fun h => ?_⟩ <;> first | exact absurd h (fun e => hne (nI_inj (by omega) (by omega) e)) | exact absurd rfl h | skip) | skip
  refine thr0 (oI ?_)
  first | (refine ⟨fun h => ?_, fun h => ?_⟩ <;> first | exact absurd h (by decide) | exact absurd rfl h | skip) | skip
  exact m_mar m0 (by omega) (by omega) (oI (RM_ok0 H m))
def q_keeps (w : WD) (a b : Int32) : Nat × Int32 := gdx (pe w) a 1 fun p => gdx (pe w) b 1 fun q => if p = q then (2, 0) else (0, if mrg w p q ≤ 0 then 0 else 1)
theorem M_keeps (m : MW μ w) {a b : Int32} (H : RM Φ μ w (q_keeps w a b)) : Spec g i_Mo_keeps 0 [.ref 140, .int a, .int b] μ Φ := by
  have p10 := (wf_pe m.2.1).2
  have t10 := (wf_th m.2.1).2
  have m0 : MW (sI μ 140 0 0) w := MW_0 m
  unfold q_keeps at H
  refine spi o_Mo_keeps rfl (v_Mo_keeps_0 ?_)
  rcases ix_cs (n := pe w) (by omega) a with ⟨ep, hp⟩ | ⟨p, hp, rfl, ep⟩
  · rw [gdx_n ep] at H
    refine m_nP1 m0 hp (oI ?_)
    first | (refine ⟨fun h => ?_, fun h => ?_⟩ <;> first | exact absurd h (by decide) | exact absurd rfl h | skip) | skip
    refine thr1 (oI ?_)
    first | (refine ⟨fun h => ?_, fun h => ?_⟩ <;> first | exact absurd h (by decide) | exact absurd rfl h | skip) | skip
    exact ⟨Or.inl rfl, RM_er H (by decide) m⟩
  rw [gdx_s ep] at H
  rcases ix_cs (n := pe w) (by omega) b with ⟨eq, hq⟩ | ⟨q, hq, rfl, eq⟩
  · rw [gdx_n eq] at H
    refine m_nP0 m0 hp (oI ?_)
    first | (refine ⟨fun h => ?_, fun h => ?_⟩ <;> first | exact absurd h (by decide) | exact absurd rfl h | skip) | skip
    refine m_nP1 m0 hq (oI ?_)
    first | (refine ⟨fun h => ?_, fun h => ?_⟩ <;> first | exact absurd h (by decide) | exact absurd rfl h | skip) | skip
    refine thr1 (oI ?_)
    first | (refine ⟨fun h => ?_, fun h => ?_⟩ <;> first | exact absurd h (by decide) | exact absurd rfl h | skip) | skip
    exact ⟨Or.inl rfl, RM_er H (by decide) m⟩
  rw [gdx_s eq] at H
  by_cases hne : p = q
  · rw [if_pos hne] at H
    subst hne
    refine m_nP0 m0 hp (oI ?_)
    first | (refine ⟨fun h => ?_, fun h => ?_⟩ <;> first | exact absurd h (by decide) | exact absurd rfl h | skip) | skip
    refine m_nP0 m0 hq (oI ?_)
    first | (refine ⟨fun h => ?_, fun h => ?_⟩ <;> first | exact absurd h (by decide) | exact absurd rfl h | skip) | skip
    refine thr0 (oI ?_)
    first | (refine ⟨fun h => ?_, fun h => ?_⟩ <;> first | exact absurd h (by decide) | exact absurd rfl h | skip) | skip
    first | (refine ⟨fun h => ?_, fun h => ?_⟩ <;> first | exact absurd h (fun e => e rfl) | exact absurd rfl h | skip) | skip
    refine thr1 (oI ?_)
    first | (refine ⟨fun h => ?_, fun h => ?_⟩ <;> first | exact absurd h (by decide) | exact absurd rfl h | skip) | skip
    exact ⟨Or.inl rfl, RM_er H (by decide) m⟩
  rw [if_neg hne] at H
  refine m_nP0 m0 hp (oI ?_)
  first | (refine ⟨fun h => ?_, fun h => ?_⟩ <;> first | exact absurd h (by decide) | exact absurd rfl h | skip) | skip
  refine m_nP0 m0 hq (oI ?_)
  first | (refine ⟨fun h => ?_, fun h => ?_⟩ <;> first | exact absurd h (by decide) | exact absurd rfl h | skip) | skip
  refine thr0 (oI ?_)
  first | (refine ⟨fun h => ?_, fun h => ?_⟩ <;> first | exact absurd h (by decide) | exact absurd rfl h | skip) | skip
  first | (refine ⟨fun h => ?_, fun h => ?_⟩ <;> first | exact absurd h (fun e => hne (nI_inj (by omega) (by omega) e)) | exact absurd rfl h | skip) | skip
  refine thr0 (oI ?_)
  first | (refine ⟨fun h => ?_, fun h => ?_⟩ <;> first | exact absurd h (by decide) | exact absurd rfl h | skip) | skip
  refine m_mar m0 (by omega) (by omega) (oI ⟨fun h => ?_, fun h => ?_⟩)
  · rw [if_pos (show mrg w p q ≤ 0 from h)] at H; exact ⟨Or.inl rfl, RM_ok0 H m⟩
  · rw [if_neg (show ¬ mrg w p q ≤ 0 from h)] at H; exact ⟨Or.inr rfl, RM_ok0 H m⟩
def q_ask (w : WD) (a b : Int32) : Nat × Int32 := gdx (pe w) a 1 fun p => gdx (pe w) b 1 fun q => if p = q then (2, 0) else (0, if pf w p 4 ^^^ pf w q 4 = 0 then -1 else tzF (pf w p 4 ^^^ pf w q 4))
theorem M_ask (m : MW μ w) {a b : Int32} (H : RM Φ μ w (q_ask w a b)) : Spec g i_Mo_ask 0 [.ref 140, .int a, .int b] μ Φ := by
  have p10 := (wf_pe m.2.1).2
  have t10 := (wf_th m.2.1).2
  have m0 : MW (sI μ 140 0 0) w := MW_0 m
  unfold q_ask at H
  refine spi o_Mo_ask rfl (v_Mo_ask_0 ?_)
  rcases ix_cs (n := pe w) (by omega) a with ⟨ep, hp⟩ | ⟨p, hp, rfl, ep⟩
  · rw [gdx_n ep] at H
    refine m_nP1 m0 hp (oI ?_)
    first | (refine ⟨fun h => ?_, fun h => ?_⟩ <;> first | exact absurd h (by decide) | exact absurd rfl h | skip) | skip
    refine thr1 (oI ?_)
    first | (refine ⟨fun h => ?_, fun h => ?_⟩ <;> first | exact absurd h (by decide) | exact absurd rfl h | skip) | skip
    exact RM_er H (by decide) m
  rw [gdx_s ep] at H
  rcases ix_cs (n := pe w) (by omega) b with ⟨eq, hq⟩ | ⟨q, hq, rfl, eq⟩
  · rw [gdx_n eq] at H
    refine m_nP0 m0 hp (oI ?_)
    first | (refine ⟨fun h => ?_, fun h => ?_⟩ <;> first | exact absurd h (by decide) | exact absurd rfl h | skip) | skip
    refine m_nP1 m0 hq (oI ?_)
    first | (refine ⟨fun h => ?_, fun h => ?_⟩ <;> first | exact absurd h (by decide) | exact absurd rfl h | skip) | skip
    refine thr1 (oI ?_)
    first | (refine ⟨fun h => ?_, fun h => ?_⟩ <;> first | exact absurd h (by decide) | exact absurd rfl h | skip) | skip
    exact RM_er H (by decide) m
  rw [gdx_s eq] at H
  by_cases hne : p = q
  · rw [if_pos hne] at H
    subst hne
    refine m_nP0 m0 hp (oI ?_)
    first | (refine ⟨fun h => ?_, fun h => ?_⟩ <;> first | exact absurd h (by decide) | exact absurd rfl h | skip) | skip
    refine m_nP0 m0 hq (oI ?_)
    first | (refine ⟨fun h => ?_, fun h => ?_⟩ <;> first | exact absurd h (by decide) | exact absurd rfl h | skip) | skip
    refine thr0 (oI ?_)
    first | (refine ⟨fun h => ?_, fun h => ?_⟩ <;> first | exact absurd h (by decide) | exact absurd rfl h | skip) | skip
    first | (refine ⟨fun h => ?_, fun h => ?_⟩ <;> first | exact absurd h (fun e => e rfl) | exact absurd rfl h | skip) | skip
    refine thr1 (oI ?_)
    first | (refine ⟨fun h => ?_, fun h => ?_⟩ <;> first | exact absurd h (by decide) | exact absurd rfl h | skip) | skip
    exact RM_er H (by decide) m
  rw [if_neg hne] at H
  refine m_nP0 m0 hp (oI ?_)
  first | (refine ⟨fun h => ?_, fun h => ?_⟩ <;> first | exact absurd h (by decide) | exact absurd rfl h | skip) | skip
  refine m_nP0 m0 hq (oI ?_)
  first | (refine ⟨fun h => ?_, fun h => ?_⟩ <;> first | exact absurd h (by decide) | exact absurd rfl h | skip) | skip
  refine thr0 (oI ?_)
  first | (refine ⟨fun h => ?_, fun h => ?_⟩ <;> first | exact absurd h (by decide) | exact absurd rfl h | skip) | skip
  first | (refine ⟨fun h => ?_, fun h => ?_⟩ <;> first | exact absurd h (fun e => hne (nI_inj (by omega) (by omega) e)) | exact absurd rfl h | skip) | skip
  refine thr0 (oI ?_)
  first | (refine ⟨fun h => ?_, fun h => ?_⟩ <;> first | exact absurd h (by decide) | exact absurd rfl h | skip) | skip
  refine m_of (k := 4) m0 (by omega) (by decide) (oI (m_of (k := 4) m0 (by omega) (by decide) (oI ⟨fun h => c_tz (oI ?_), fun h => ?_⟩)))
  · rw [if_neg h] at H; exact RM_ok0 H m
  · rw [if_pos h] at H; exact RM_ok0 H m
def q_learnt (w : WD) (a b : Int32) : Nat × Int32 := gdx (pe w) b 1 fun p => (0, match ix (lg w) a with | none => -1 | some k => lw w k (5 + p))
theorem M_learnt (m : MW μ w) {a b : Int32} (H : RM Φ μ w (q_learnt w a b)) : Spec g i_Mo_learnt 0 [.ref 140, .int a, .int b] μ Φ := by
  have p10 := (wf_pe m.2.1).2
  have t10 := (wf_th m.2.1).2
  have m0 : MW (sI μ 140 0 0) w := MW_0 m
  unfold q_learnt at H
  refine spi o_Mo_learnt rfl (v_Mo_learnt_0 ?_)
  rcases ix_cs (n := pe w) (by omega) b with ⟨ep, hp⟩ | ⟨p, hp, rfl, ep⟩
  · rw [gdx_n ep] at H
    refine m_nP1 m0 hp (oI ?_)
    first | (refine ⟨fun h => ?_, fun h => ?_⟩ <;> first | exact absurd h (by decide) | exact absurd rfl h | skip) | skip
    refine thr1 (oI ?_)
    first | (refine ⟨fun h => ?_, fun h => ?_⟩ <;> first | exact absurd h (by decide) | exact absurd rfl h | skip) | skip
    exact RM_er H (by decide) m
  rw [gdx_s ep] at H
  refine m_nP0 m0 hp (oI ?_)
  first | (refine ⟨fun h => ?_, fun h => ?_⟩ <;> first | exact absurd h (by decide) | exact absurd rfl h | skip) | skip
  refine thr0 (oI ?_)
  first | (refine ⟨fun h => ?_, fun h => ?_⟩ <;> first | exact absurd h (by decide) | exact absurd rfl h | skip) | skip
  refine ⟨vin 7 rfl, ?_⟩
  have l60 := wf_l60 m.2.1
  rw [show mI (sI μ 140 0 0) 141 (nx 7) = nI (lg w) by rw [mw_i m0]; exact (wf_lg m.2.1).1]
  rcases ix_cs (n := lg w) (by omega) a with ⟨ea, ha⟩ | ⟨k, hk, rfl, ea⟩
  · rw [ea] at H
    refine m_inN (by omega) ha (oI ?_)
    first | (refine ⟨fun h => ?_, fun h => ?_⟩ <;> first | exact absurd h (by decide) | exact absurd rfl h | skip) | skip
    exact RM_ok0 H m
  · rw [ea] at H
    refine m_inS (by omega) hk (oI ?_)
    first | (refine ⟨fun h => ?_, fun h => ?_⟩ <;> first | exact absurd h (by decide) | exact absurd rfl h | skip) | skip
    rw [show (5 : Int32) = nI 5 from rfl, nI_add]
    exact m_olg m0 (by omega) (by omega) (oI (RM_ok0 H m))
def q_log (w : WD) (a b : Int32) : Nat × Int32 := gdx 5 b 1 fun j => (0, match ix (lg w) a with | none => -1 | some k => lw w k j)
theorem M_log (m : MW μ w) {a b : Int32} (H : RM Φ μ w (q_log w a b)) : Spec g i_Mo_log 0 [.ref 140, .int a, .int b] μ Φ := by
  have p10 := (wf_pe m.2.1).2
  have t10 := (wf_th m.2.1).2
  have m0 : MW (sI μ 140 0 0) w := MW_0 m
  unfold q_log at H
  refine spi o_Mo_log rfl (v_Mo_log_0 ?_)
  rcases ix_cs (n := 5) (by omega) b with ⟨ej, hj⟩ | ⟨j, hj, rfl, ej⟩
  · rw [gdx_n ej] at H
    refine m_in0 (n := 4) (by decide) hj (oI ?_)
    first | (refine ⟨fun h => ?_, fun h => ?_⟩ <;> first | exact absurd h (by decide) | exact absurd rfl h | skip) | skip
    refine thr1 (oI ?_)
    first | (refine ⟨fun h => ?_, fun h => ?_⟩ <;> first | exact absurd h (by decide) | exact absurd rfl h | skip) | skip
    exact RM_er H (by decide) m
  rw [gdx_s ej] at H
  refine m_in1 (n := 4) (by decide) (by omega) (oI ?_)
  first | (refine ⟨fun h => ?_, fun h => ?_⟩ <;> first | exact absurd h (by decide) | exact absurd rfl h | skip) | skip
  refine thr0 (oI ?_)
  first | (refine ⟨fun h => ?_, fun h => ?_⟩ <;> first | exact absurd h (by decide) | exact absurd rfl h | skip) | skip
  refine ⟨vin 7 rfl, ?_⟩
  have l60 := wf_l60 m.2.1
  rw [show mI (sI μ 140 0 0) 141 (nx 7) = nI (lg w) by rw [mw_i m0]; exact (wf_lg m.2.1).1]
  rcases ix_cs (n := lg w) (by omega) a with ⟨ea, ha⟩ | ⟨k, hk, rfl, ea⟩
  · rw [ea] at H
    refine m_inN (by omega) ha (oI ?_)
    first | (refine ⟨fun h => ?_, fun h => ?_⟩ <;> first | exact absurd h (by decide) | exact absurd rfl h | skip) | skip
    exact RM_ok0 H m
  · rw [ea] at H
    refine m_inS (by omega) hk (oI ?_)
    first | (refine ⟨fun h => ?_, fun h => ?_⟩ <;> first | exact absurd h (by decide) | exact absurd rfl h | skip) | skip
    exact m_olg m0 (by omega) (by omega) (oI (RM_ok0 H m))
def q_rule (w : WD) (a b : Int32) : Nat × Int32 := gdx 3 b 1 fun j => (0, match ix (ru w) a with | none => -1 | some k => w.1 (79 + 3 * k + j))
theorem M_rule (m : MW μ w) {a b : Int32} (H : RM Φ μ w (q_rule w a b)) : Spec g i_Mo_rule 0 [.ref 140, .int a, .int b] μ Φ := by
  have p10 := (wf_pe m.2.1).2
  have t10 := (wf_th m.2.1).2
  have m0 : MW (sI μ 140 0 0) w := MW_0 m
  unfold q_rule at H
  refine spi o_Mo_rule rfl (v_Mo_rule_0 ?_)
  rcases ix_cs (n := 3) (by omega) b with ⟨ej, hj⟩ | ⟨j, hj, rfl, ej⟩
  · rw [gdx_n ej] at H
    refine m_in0 (n := 2) (by decide) hj (oI ?_)
    first | (refine ⟨fun h => ?_, fun h => ?_⟩ <;> first | exact absurd h (by decide) | exact absurd rfl h | skip) | skip
    refine thr1 (oI ?_)
    first | (refine ⟨fun h => ?_, fun h => ?_⟩ <;> first | exact absurd h (by decide) | exact absurd rfl h | skip) | skip
    exact RM_er H (by decide) m
  rw [gdx_s ej] at H
  refine m_in1 (n := 2) (by decide) (by omega) (oI ?_)
  first | (refine ⟨fun h => ?_, fun h => ?_⟩ <;> first | exact absurd h (by decide) | exact absurd rfl h | skip) | skip
  refine thr0 (oI ?_)
  first | (refine ⟨fun h => ?_, fun h => ?_⟩ <;> first | exact absurd h (by decide) | exact absurd rfl h | skip) | skip
  have r12 := (wf_ru m.2.1).2
  refine m_ru m0 (oI ?_)
  rcases ix_cs (n := ru w) (by omega) a with ⟨ea, ha⟩ | ⟨k, hk, rfl, ea⟩
  · rw [ea] at H
    refine m_inN (by omega) ha (oI ?_)
    first | (refine ⟨fun h => ?_, fun h => ?_⟩ <;> first | exact absurd h (by decide) | exact absurd rfl h | skip) | skip
    exact RM_ok0 H m
  · rw [ea] at H
    refine m_inS (by omega) hk (oI ?_)
    first | (refine ⟨fun h => ?_, fun h => ?_⟩ <;> first | exact absurd h (by decide) | exact absurd rfl h | skip) | skip
    exact m_rul m0 (by omega) (by omega) (oI (RM_ok0 H m))
theorem M_exam (m : MW μ w) (H : RM Φ μ w (0, exW w)) : Spec g i_Mo_exam 0 [.ref 140] μ Φ := spi o_Mo_exam rfl (v_Mo_exam_0 (m_exm (MW_0 m) (RM_ok0 H m)))
theorem M_groups {a : Int32} (m : MW μ w) (H : RM Φ μ w (0, if a = 0 then nI (gct w (pe w)) else nI (gmx w (pe w)))) : Spec g i_Mo_groups 0 [.ref 140, .int a] μ Φ := spi o_Mo_groups rfl (v_Mo_groups_0 (m_gps (MW_0 m) (RM_ok0 H m)))
theorem M_teacher (m : MW μ w) (H : RM Φ μ w (0, ov (tcS w (pe w)))) : Spec g i_Mo_teacher 0 [.ref 140] μ Φ := spi o_Mo_teacher rfl (v_Mo_teacher_0 (m_tch (MW_0 m) (RM_ok0 H m)))
theorem M_silent (m : MW μ w) (H : RM Φ μ w (0, msk (th w) (fun t => decide (lf w t = 0)))) : Spec g i_Mo_silent 0 [.ref 140] μ Φ := spi o_Mo_silent rfl (v_Mo_silent_0 (m_sil (MW_0 m) (oI (RM_ok0 H m))))
theorem M_sayable (m : MW μ w) (H : RM Φ μ w (0, orf (fun p => if her w p then pf w p 4 else 0) (pe w) &&& (msk (th w) (fun t => decide (lf w t = 0)) ^^^ (-1)))) : Spec g i_Mo_sayable 0 [.ref 140] μ Φ := spi o_Mo_sayable rfl (v_Mo_sayable_0 (m_kh (MW_0 m) (oI (m_sil (MW_0 m) (oI (RM_ok0 H m))))))
def dmb (w : WD) (p : Nat) : Bool := !her w p || decide (pf w p 4 &&& (msk (th w) (fun t => decide (lf w t = 0)) ^^^ (-1)) = 0)
theorem M_dumb (m : MW μ w) (H : RM Φ μ w (0, msk (pe w) (dmb w))) : Spec g i_Mo_dumb 0 [.ref 140] μ Φ := by
  have p10 := (wf_pe m.2.1).2
  have m0 : MW (sI μ 140 0 0) w := MW_0 m
  refine spi o_Mo_dumb rfl (v_Mo_dumb_0 (m_sil m0 (oI ?_)))
  refine zup (P := fun k => WW g i_Mo_dumb 0 Φ 0 0 14 [(0, .ref 140), (1, .int (msk (th w) (fun t => decide (lf w t = 0)))), (2, .int (msk k (dmb w))), (3, .int (nI k))] [] (sI μ 140 0 0)) (pe w) ?_ ?_
  · exact v_Mo_dumb_14 (m_pe m0 (oI ⟨fun _ => RM_ok0 H m, fun h => absurd (nI_le (Nat.le_refl _) (by omega)) h⟩))
  · intro k hk ih
    rw [nI_succ] at ih
    refine v_Mo_dumb_14 (m_pe m0 (oI ⟨fun h => absurd h (nI_ge hk (by omega)), fun _ => m_her m0 (by omega) (oI ⟨fun h => ?_, fun h => m_of (k := 4) m0 (by omega) (by decide) (oI ⟨fun h2 => ?_, fun h2 => ?_⟩)⟩)⟩))
    · rw [msk_t (by unfold dmb; rw [b2i_0.mp h]; rfl)] at ih; exact ih
    · rw [msk_f (by unfold dmb; rw [b2i_n0.mp h, decide_eq_false h2]; rfl)] at ih; exact ih
    · rw [msk_t (by unfold dmb; rw [decide_eq_true h2]; simp)] at ih; exact ih
theorem M_last (m : MW μ w) (H : RM Φ μ w (0, nI (las w))) : Spec g i_Mo_last 0 [.ref 140] μ Φ := m_las m fun μ' e t0 m' => H μ' e t0 m'

end PUBH
