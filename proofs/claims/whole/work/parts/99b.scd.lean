/-! a school's text: the class's reader, persons and lines -/
section SCD
variable {g : Gl} {Φ : Out → Mem → Prop} {μ : Mem} {f : Nat → Int32} {n a : Nat} {w : WD}
theorem c_sat78 {x y : Int32} (S : SC f n a w μ) (H : ∀ r, (r = -1 ↔ sat w x y = false) → Φ (.inl (some (.int r))) μ) : Spec g i_Sta_seatedAt 0 [.ref 78, .int x, .int y, .int (nI (pe w))] μ Φ := by
  have p10 := (wf_pe S.2.2.2.1.1).2
  obtain ⟨-, -, -, -, s5, -⟩ := S.2.2.1
  refine spi o_Sta_seatedAt rfl (v_Sta_seatedAt_78_0 (zup (P := fun k => (∀ i, i < k → ¬ (pf w i 0 = x ∧ pf w i 1 = y)) → WW g i_Sta_seatedAt 0 Φ 0 0 3 [(0, .ref 78), (1, .int x), (2, .int y), (3, .int (nI (pe w))), (4, .int (nI k))] [] μ) (pe w) ?_ ?_ (fun i h => absurd h (Nat.not_lt_zero _))))
  · intro hno
    refine v_Sta_seatedAt_78_3 ⟨fun _ => H _ ⟨fun _ => decide_eq_false fun ⟨p, h1, h2⟩ => hno p h1 h2, fun _ => rfl⟩, fun h => absurd (nI_le (Nat.le_refl _) (by omega)) h⟩
  · intro k hk ih hno
    obtain ⟨-, t2, t3⟩ := s5 k (by omega)
    have e0 : mI μ 80 (nx (nI k)) = pf w k 0 := by rw [nx_nI (by omega)]; exact t2
    have e1 : mI μ 81 (nx (nI k)) = pf w k 1 := by rw [nx_nI (by omega)]; exact t3
    have v := vp_in_nI (N := 10) (show k < 10 by omega) (by decide)
    have skip : ¬ (pf w k 0 = x ∧ pf w k 1 = y) → WW g i_Sta_seatedAt 0 Φ 0 0 3 [(0, .ref 78), (1, .int x), (2, .int y), (3, .int (nI (pe w))), (4, .int (nI k + 1))] [] μ := fun hn => by
      rw [← nI_succ]
      refine ih fun i hi => ?_
      by_cases e : i = k
      · rw [e]; exact hn
      · exact hno i (by omega)
    refine v_Sta_seatedAt_78_3 ⟨fun h => absurd h (nI_ge hk (by omega)), fun _ => ?_⟩
    rw [e0, e1]
    refine ⟨v, fun h => skip fun q => h q.1, fun h => ⟨v, fun h2 => skip fun q => h2 q.2, fun h2 => H _ ⟨fun q => ?_, fun q => ?_⟩⟩⟩
    · exact absurd (show nI k < 0 by rw [q]; decide) (nI_pos (by omega))
    · exact absurd ⟨k, hk, h, h2⟩ (of_decide_eq_false q)
def bits (w : WD) (x : Int32) : Prop := ∀ i, th w ≤ i → i < 32 → bt x i = false
theorem bits_or {x : Int32} {k : Nat} (h : bits w x) (hk : k < th w) (ht : th w ≤ 10) : bits w (x ||| ((1 : Int32) <<< (nI k &&& 31))) := fun i h1 h2 => by
  rw [b_or, h i h1 h2, b_1s (by omega) h2, decide_eq_false (by omega)]; rfl
theorem bits_n {x : Int32} (h : bits w x) (ht : th w ≤ 10) : ¬ x = -1 := fun q => by
  have := h 31 (by omega) (by omega)
  rw [q, b_m1 31 (by omega)] at this; cases this
theorem kd_nok {lo hi : Int32} (h : nok f n a lo hi = true) : kd f n a = 2 := by
  unfold nok at h
  rw [Bool.and_eq_true, decide_eq_true_eq] at h; exact h.1
theorem thL_bits (ht : th w ≤ 10) : ∀ d a acc x, bits w acc → thL f n w d a acc = .inl x → bits w x.1 := by
  intro d
  induction d with
  | zero => intro a acc x _ h; cases h
  | succ d ih =>
    intro a acc x hb h
    unfold thL at h
    by_cases hn : nok f n a 0 (nI (th w) - 1) = true
    · rw [if_pos hn] at h
      obtain ⟨k, k1, k2⟩ := nok_p (by omega) hn
      have hb2 := bits_or hb k1 ht
      rw [k2] at h
      by_cases h2 : kd f n (nxt f n a) = 2
      · rw [if_pos h2] at h; exact ih _ _ x hb2 h
      · rw [if_neg h2] at h
        have := Sum.inl.inj h
        rw [← this]; exact hb2
    · rw [if_neg hn] at h; cases h
def ET (Φ : Out → Mem → Prop) (μ : Mem) (f : Nat → Int32) (n : Nat) (w : WD) (r : PRt Int32) : Prop := ∀ μ', Lz zTk μ' = Lz zTk μ → (match r with
  | .inl x => SC f n x.2 w μ' → Φ (.inl (some (.int x.1))) μ'
  | .inr b => mI μ' 1 4 = nI b → Φ (.inl (some (.int (-1)))) μ')
theorem c_rTs (S : SC f n a w μ) (H : ET Φ μ f n w (thL f n w (n + 1) a 0)) : Spec g i_SchR_readThings 0 [.ref 70] μ Φ := by
  have t10 := (wf_th S.2.2.2.1.1).2
  have n4 := S.1.1
  have key : ∀ d a acc k μ', SC f n a w μ' → n + 1 ≤ a + d → k + (n - a) ≤ 400 → (k = 0 ∨ kd f n a = 2) → ET Φ μ' f n w (thL f n w d a acc) → WW g i_SchR_readThings 0 Φ 0 0 4 [(0, .ref 70), (1, .int acc), (2, .int (nI k))] [] μ' := by
    intro d
    induction d with
    | zero => intro a acc k μ' S' h1; have := S'.1.2.1; omega
    | succ d ih =>
      intro a acc k μ' S' h1 h2 h3 H
      have hk : k < 400 := by
        rcases h3 with h3 | h3
        · omega
        · have := kd_n0 (f := f) (n := n) (a := a) (by omega); omega
      refine v_SchR_readThings_4 ⟨fun h => absurd h (nI_ge (b := 400) hk (by decide)), fun _ => ?_⟩
      rw [sc_th S']
      unfold thL at H
      refine c_tnS S' (fun h => oI ⟨fun q => absurd rfl q, fun _ => ?_⟩) (fun h μ2 e2 S2 => oI ⟨fun _ => ?_, fun q => absurd q ?_⟩)
      · rw [if_neg (by rw [h]; decide)] at H
        exact H μ' rfl (TK_st S'.1)
      · rw [if_pos h] at H
        have hkd := kd_nok h
        have hgt := nxt_gt (f := f) (n := n) (a := a) (by omega)
        have h23 := kd_3 (f := f) (n := n) (a := nxt f n a)
        have han := S'.1.2.1
        rw [S2.1.2.2.2.2.2.1]
        refine ⟨fun q => ?_, fun q => ?_⟩
        · have q : kd f n (nxt f n a) = 2 := nI_inj (b := 2) (by omega) (by omega) q
          rw [if_pos q] at H
          rw [← nI_succ]
          exact ih (nxt f n a) _ (k + 1) μ2 S2 (by omega) (by omega) (Or.inr q) fun μ3 e3 => H μ3 (e3.trans e2)
        · rw [if_neg (fun e => q (by rw [e]; rfl))] at H
          exact H μ2 e2 S2
      · obtain ⟨x, x2, x3⟩ := nok_p (by omega) h
        exact nbn (m := 9) x3 (by omega) (by omega)
  exact spi o_SchR_readThings rfl (v_SchR_readThings_0 (key (n + 1) a 0 0 μ S (by omega) (by omega) (Or.inl rfl) H))
/-- a person is seated and counted -/
theorem c_pEnd {a' : Nat} {x y e s kn : Int32} (S : SC f n a' w μ) (hp : pe w < 10) (ho : pOK w x y e s kn) (hs : sat w x y = false) {ψ : Mem} (H : ES Φ ψ f n (.inl (adP w x y e s kn, a'))) (e0 : Lz zSR μ = Lz zSR ψ) {X : Nat → Mem → Prop} :
    Spec g i_Sta_seat 0 [.ref 78, .int (mI μ 71 2), .int x, .int y] μ (onV (fun μ16 => vp_in (mI μ 71 2) 10 ∧ vp_in (mI μ 71 2) 10 ∧ vp_in (mI μ 71 2) 10 ∧ ((1 : Int32) = 0 ∨ (1 : Int32) = 1) ∧ Φ (.inl (some (.int 1))) (sI (sI (sI (sI μ16 79 (nx (mI μ 71 2)) kn) 73 (nx (mI μ 71 2)) e) 74 (nx (mI μ 71 2)) s) 71 2 (mI μ16 71 2 + 1))) X) := by
  have v := vp_in_nI (N := 10) hp (by decide)
  rw [sc_pe S]
  refine spi o_Sta_seat rfl (v_Sta_seat_78_0 ⟨v, v, oV ⟨v, v, v, z11 ?_⟩⟩)
  rw [nx_nI (by omega)]
  have e2 : mI (sI (sI μ 80 (pe w) x) 81 (pe w) y) 71 2 = nI (pe w) := (sc_pe S : mI μ 71 2 = nI (pe w))
  rw [e2, ← nI_succ]
  have lo : ∀ j, j ≠ 1 → ¬ (19 + 6 * pe w ≤ j ∧ j ≤ 24 + 6 * pe w) → (adP w x y e s kn).1 j = w.1 j := fun j => adP_o
  refine ES_ok H ((Lz_I rfl).trans ((Lz_I rfl).trans ((Lz_I rfl).trans ((Lz_I rfl).trans ((Lz_I rfl).trans ((Lz_I rfl).trans e0)))))) ⟨S.1, ?_, ?_, adP_WF S.2.2.2.1 hp ho, adP_DS S.2.2.2.2 hp hs⟩
  · obtain ⟨a1, a2, a3, a4, a5, a6, a7, a8⟩ := S.2.1
    have m71 : ∀ j, j ≠ 2 → mI (sI (sI (sI (sI (sI (sI μ 80 (pe w) x) 81 (pe w) y) 79 (pe w) kn) 73 (pe w) e) 74 (pe w) s) 71 2 (nI (pe w + 1))) 71 j = mI μ 71 j := fun j hj => by
      rw [rI_I, if_pos rfl, upd_n hj, rI_I, if_neg (by decide), rI_I, if_neg (by decide), rI_I, if_neg (by decide), rI_I, if_neg (by decide), rI_I, if_neg (by decide)]
    have m7 : ∀ b, b ≠ 71 → b ≠ 73 → b ≠ 74 → b < 79 → mI (sI (sI (sI (sI (sI (sI μ 80 (pe w) x) 81 (pe w) y) 79 (pe w) kn) 73 (pe w) e) 74 (pe w) s) 71 2 (nI (pe w + 1))) b = mI μ b := fun b h1 h2 h3 h4 => by
      rw [rI_I, if_neg h1, rI_I, if_neg h3, rI_I, if_neg h2, rI_I, if_neg (by omega), rI_I, if_neg (by omega), rI_I, if_neg (by omega)]
    refine ⟨?_, ?_, ?_, ?_, ?_, fun t ht' => ?_, fun o ho2 => ?_, fun r hr2 => ?_⟩
    · rw [m71 0 (by omega), lo 0 (by omega) (by omega)]; exact a1
    · rw [rI_I, if_pos rfl, upd_s, adP_1]
    · rw [m71 5 (by omega), lo 2 (by omega) (by omega)]; exact a3
    · rw [m71 9 (by omega), lo 6 (by omega) (by omega)]; exact a4
    · rw [m71 10 (by omega), lo 3 (by omega) (by omega)]; exact a5
    · rw [m7 72 (by decide) (by decide) (by decide) (by decide), lo _ (by omega) (by omega)]; exact a6 t ht'
    · have m73 : mI (sI (sI (sI (sI (sI (sI μ 80 (pe w) x) 81 (pe w) y) 79 (pe w) kn) 73 (pe w) e) 74 (pe w) s) 71 2 (nI (pe w + 1))) 73 = upd (mI μ 73) (pe w) e := by
        rw [rI_I, if_neg (by decide), rI_I, if_neg (by decide), rI_I, if_pos rfl, rI_I, if_neg (by decide), rI_I, if_neg (by decide), rI_I, if_neg (by decide)]
      have m74 : mI (sI (sI (sI (sI (sI (sI μ 80 (pe w) x) 81 (pe w) y) 79 (pe w) kn) 73 (pe w) e) 74 (pe w) s) 71 2 (nI (pe w + 1))) 74 = upd (mI μ 74) (pe w) s := by
        rw [rI_I, if_neg (by decide), rI_I, if_pos rfl, rI_I, if_neg (by decide), rI_I, if_neg (by decide), rI_I, if_neg (by decide), rI_I, if_neg (by decide)]
      rw [m73, m74, adP_pf (by omega), adP_pf (by omega)]
      by_cases q : o = pe w
      · rw [if_pos q, if_pos q, q, upd_s, upd_s]; exact ⟨rfl, rfl⟩
      · rw [if_neg q, if_neg q, upd_n q, upd_n q]; exact a7 o ho2
    · rw [m7 75 (by decide) (by decide) (by decide) (by decide), m7 76 (by decide) (by decide) (by decide) (by decide), m7 77 (by decide) (by decide) (by decide) (by decide), lo _ (by omega) (by omega), lo (79 + 3 * r + 1) (by omega) (by omega), lo (79 + 3 * r + 2) (by omega) (by omega)]; exact a8 r hr2
  · obtain ⟨s1, s2, s3, s4, s5, s6⟩ := S.2.2.1
    have m78 : mI (sI (sI (sI (sI (sI (sI μ 80 (pe w) x) 81 (pe w) y) 79 (pe w) kn) 73 (pe w) e) 74 (pe w) s) 71 2 (nI (pe w + 1))) 78 = mI μ 78 := by
      rw [rI_I, if_neg (by decide), rI_I, if_neg (by decide), rI_I, if_neg (by decide), rI_I, if_neg (by decide), rI_I, if_neg (by decide), rI_I, if_neg (by decide)]
    have m79 : mI (sI (sI (sI (sI (sI (sI μ 80 (pe w) x) 81 (pe w) y) 79 (pe w) kn) 73 (pe w) e) 74 (pe w) s) 71 2 (nI (pe w + 1))) 79 = upd (mI μ 79) (pe w) kn := by
      rw [rI_I, if_neg (by decide), rI_I, if_neg (by decide), rI_I, if_neg (by decide), rI_I, if_pos rfl, rI_I, if_neg (by decide), rI_I, if_neg (by decide)]
    have m80 : mI (sI (sI (sI (sI (sI (sI μ 80 (pe w) x) 81 (pe w) y) 79 (pe w) kn) 73 (pe w) e) 74 (pe w) s) 71 2 (nI (pe w + 1))) 80 = upd (mI μ 80) (pe w) x := by
      rw [rI_I, if_neg (by decide), rI_I, if_neg (by decide), rI_I, if_neg (by decide), rI_I, if_neg (by decide), rI_I, if_neg (by decide), rI_I, if_pos rfl]
    have m81 : mI (sI (sI (sI (sI (sI (sI μ 80 (pe w) x) 81 (pe w) y) 79 (pe w) kn) 73 (pe w) e) 74 (pe w) s) 71 2 (nI (pe w + 1))) 81 = upd (mI μ 81) (pe w) y := by
      rw [rI_I, if_neg (by decide), rI_I, if_neg (by decide), rI_I, if_neg (by decide), rI_I, if_neg (by decide), rI_I, if_pos rfl, rI_I, if_neg (by decide)]
    refine ⟨s1, by rw [m78, lo 5 (by omega) (by omega)]; exact s2, by rw [m78, lo 8 (by omega) (by omega)]; exact s3, by rw [m78, lo 7 (by omega) (by omega)]; exact s4, fun o ho2 => ?_, ?_⟩
    · rw [m79, m80, m81, adP_pf (by omega), adP_pf (by omega), adP_pf (by omega)]
      by_cases q : o = pe w
      · rw [if_pos q, if_pos q, if_pos q, q, upd_s, upd_s, upd_s]; exact ⟨rfl, rfl, rfl⟩
      · rw [if_neg q, if_neg q, if_neg q, upd_n q, upd_n q, upd_n q]; exact s5 o ho2
    · rw [m78, s6]
      apply msk_cong; intro o ho2
      unfold her
      rw [adP_pf (by omega)]
      by_cases q : o = pe w
      · have := (S.2.2.2.1.1.2.2.2.2.2.2.2.1 o ho2).2.2.2.2.2.2 (by omega)
        rw [if_pos q, this]; rfl
      · rw [if_neg q]
theorem c_rPe (S : SC f n a w μ) (hp : pe w < 10) (H : ES Φ μ f n (lnPe f n w a)) : Spec g i_SchR_readPerson 0 [.ref 70] μ Φ := by
  have t10 := (wf_th S.2.2.2.1.1).2
  unfold lnPe tnP at H
  rw [if_pos hp] at H
  refine spi o_SchR_readPerson rfl (v_SchR_readPerson_0 (c_nx S.1 fun μ1 e1 t1 => oV ?_))
  have S1 := SC_tk S e1 t1
  have H := ES_tr H (zTk_SR e1)
  refine c_tnS S1 (fun h => oI ⟨fun _ => z01 ?_, fun q => absurd rfl q⟩) (fun h μ2 e2 S2 => oI ⟨fun q => absurd q ?_, fun _ => ?_⟩)
  · rw [if_neg (by rw [h]; decide)] at H
    exact ES_no H rfl (TK_st t1)
  · obtain ⟨k, -, k2, k3⟩ := nok_b (lo := 0) (m := 9) (by omega) (by omega) h
    exact nbn (m := 9) k3 k2 (by omega)
  obtain ⟨x, -, x2, x3⟩ := nok_b (lo := 0) (m := 9) (by omega) (by omega) h
  rw [if_pos h] at H
  simp only [bdP] at H
  rw [x3] at H ⊢
  have H := ES_tr H (zTk_SR e2)
  generalize nxt f n (nxt f n a) = a1 at *
  refine c_aN S2.1 (oI ⟨fun q => z01 ?_, fun q => ?_⟩)
  · rw [if_neg (fun e => by rw [e.1] at q; cases q)] at H
    exact ES_no H rfl (TK_st S2.1)
  have hy := b2i_n0.mp q
  rw [S2.1.2.2.2.2.2.2.2.2, sc_pe S2]
  refine c_sat78 S2 fun r hr => oI ⟨fun q2 => ?_, fun q2 => z01 ?_⟩
  · have hs := hr.mp q2
    rw [if_pos ⟨hy, hs⟩] at H
    refine c_tnS S2 (fun h2 => by rw [hy] at h2; cases h2) (fun _ μ3 e3 S3 => oI ?_)
    obtain ⟨y, -, y2, y3⟩ := nok_b (lo := 0) (m := 9) (by omega) (by omega) hy
    rw [y3] at H hs ⊢
    have H := ES_tr H (zTk_SR e3)
    generalize nxt f n a1 = a2 at *
    unfold lnP2 twP tnP at H
    refine c_tW S3.1 (bs := bEa) wk_1017 rfl (by decide) (fun h4 => oI ⟨fun _ => ⟨fun q => absurd rfl q, fun _ => z01 ?_⟩, fun q => absurd rfl q⟩) (fun h4 μ4 e4 t4 => oI ⟨fun q => absurd q (by decide), fun _ => ?_⟩)
    · rw [if_neg (by rw [h4]; decide)] at H
      exact ES_no H rfl (TK_st S3.1)
    have S4 := SC_tk S3 e4 t4
    rw [if_pos h4] at H
    simp only [bdP] at H
    have H := ES_tr H (zTk_SR e4)
    refine c_tnS S4 (fun h5 => oI ⟨fun q => absurd rfl q, fun _ => z01 ?_⟩) (fun h5 μ5 e5 S5 => oI ⟨fun _ => ?_, fun q => absurd q ?_⟩)
    · rw [if_neg (by rw [h5]; decide)] at H
      exact ES_no H rfl (TK_st S4.1)
    · obtain ⟨e, -, e2', e3'⟩ := nok_b (lo := 0) (m := 9) (by omega) (by omega) h5
      rw [if_pos h5] at H
      dsimp only at H
      rw [e3'] at H ⊢
      have H := ES_tr H (zTk_SR e5)
      generalize nxt f n (nxt f n a2) = a3 at *
      refine c_tW S5.1 (bs := bSt) wk_1018 rfl (by decide) (fun h6 => oI ⟨fun _ => ⟨fun q => absurd rfl q, fun _ => z01 ?_⟩, fun q => absurd rfl q⟩) (fun h6 μ6 e6 t6 => oI ⟨fun q => absurd q (by decide), fun _ => ?_⟩)
      · rw [if_neg (by rw [h6]; decide)] at H
        exact ES_no H rfl (TK_st S5.1)
      have S6 := SC_tk S5 e6 t6
      rw [if_pos h6] at H
      dsimp only at H
      have H := ES_tr H (zTk_SR e6)
      refine c_tnS S6 (fun h7 => oI ⟨fun q => absurd rfl q, fun _ => z01 ?_⟩) (fun h7 μ7 e7 S7 => oI ⟨fun _ => ?_, fun q => absurd q ?_⟩)
      · rw [if_neg (by rw [h7]; decide)] at H
        exact ES_no H rfl (TK_st S6.1)
      · obtain ⟨s, -, s2, s3⟩ := nok_b (lo := 0) (m := 100) (by omega) (by omega) h7
        rw [if_pos h7] at H
        dsimp only at H
        rw [s3] at H ⊢
        have H := ES_tr H (zTk_SR e7)
        generalize nxt f n (nxt f n a3) = a4 at *
        refine c_tW S7.1 (bs := bKn) wk_1019 rfl (by decide) (fun h8 => oI ⟨fun _ => ⟨fun _ => ?_, fun q => absurd q (by decide)⟩, fun q => absurd rfl q⟩) (fun h8 μ8 e8 t8 => oI ⟨fun q => absurd q (by decide), fun _ => ?_⟩)
        · rw [if_neg (by rw [h8]; decide)] at H
          exact c_pEnd S7 hp ⟨⟨x, x2, rfl⟩, ⟨y, y2, rfl⟩, ⟨e, e2', rfl⟩, ⟨s, s2, rfl⟩, fun i _ _ => b_0 i⟩ hs H rfl
        · have S8 := SC_tk S7 e8 t8
          rw [if_pos h8] at H
          have H := ES_tr H (zTk_SR e8)
          refine c_rTs S8 fun μ9 e9 => ?_
          have hb := thL_bits (f := f) (n := n) (w := w) t10 (n + 1) (nxt f n a4) 0
          cases hr2 : thL f n w (n + 1) (nxt f n a4) 0 with
          | inl z =>
            intro S9
            rw [hr2] at H hb
            dsimp only at H
            have hz := hb z (fun i _ _ => b_0 i) rfl
            refine oI ⟨fun _ => ?_, fun q => absurd q (bits_n hz t10)⟩
            exact c_pEnd S9 hp ⟨⟨x, x2, rfl⟩, ⟨y, y2, rfl⟩, ⟨e, e2', rfl⟩, ⟨s, s2, rfl⟩, hz⟩ hs H (zTk_SR e9)
          | inr b =>
            intro h9
            rw [hr2] at H
            dsimp only at H
            exact oI ⟨fun q => absurd rfl q, fun _ => z01 (ES_no H (zTk_SR e9) h9)⟩
      · obtain ⟨s, -, s2, s3⟩ := nok_b (lo := 0) (m := 100) (by omega) (by omega) h7
        exact nbn (m := 100) s3 s2 (by omega)
    · obtain ⟨e, -, e2', e3'⟩ := nok_b (lo := 0) (m := 9) (by omega) (by omega) h5
      exact nbn (m := 9) e3' e2' (by omega)
  · rw [if_neg (fun e => q2 (hr.mpr e.2))] at H
    exact ES_no H rfl (TK_st S2.1)
theorem ES_b {r : PRt WD} {X : Nat → Mem → Prop} (H : ES Φ μ f n r) : ES (onI (fun r μ => (r = 0 → ((0 : Int32) = 0 ∨ (0 : Int32) = 1) ∧ Φ (.inl (some (.int 0))) μ) ∧ (¬ r = 0 → ((1 : Int32) = 0 ∨ (1 : Int32) = 1) ∧ Φ (.inl (some (.int 1))) μ)) X) μ f n r := fun μ' e => by
  have := H μ' e
  cases r with
  | inl x => exact fun h => oI ⟨fun q => absurd q (by decide), fun _ => z11 (this h)⟩
  | inr b => exact fun h => oI ⟨fun _ => z01 (this h), fun q => absurd rfl q⟩
theorem ES_r {r : PRt WD} {X : Nat → Mem → Prop} (H : ES Φ μ f n r) : ES (onI (fun r μ => (r = 0 ∨ r = 1) ∧ Φ (.inl (some (.int r))) μ) X) μ f n r := fun μ' e => by
  have := H μ' e
  cases r with
  | inl x => exact fun h => oI ⟨Or.inr rfl, this h⟩
  | inr b => exact fun h => oI ⟨Or.inl rfl, this h⟩
theorem wdm_n0 {bs : List Int32} (h : wdm f n a bs = true) : ¬ kd f n a = 0 := by rw [wdm_1 h]; decide
theorem c_rLn (S : SC f n a w μ) (H : ES Φ μ f n (lnS f n w a)) : Spec g i_SchR_readLine 0 [.ref 70] μ Φ := by
  have t10 := (wf_th S.2.2.2.1.1).2
  have p10 := (wf_pe S.2.2.2.1.1).2
  have r12 := (wf_ru S.2.2.2.1.1).2
  unfold lnS at H
  refine spi o_SchR_readLine rfl (v_SchR_readLine_0 (c_aW S.1 (bs := bTh) wk_1015 rfl (by decide) (oI ⟨fun h1 => ?_, fun h1 => ?_⟩)))
  · rw [if_neg (by rw [b2i_0.mp h1]; decide)] at H
    refine c_aW S.1 (bs := bPe) wk_1016 rfl (by decide) (oI ⟨fun h2 => ?_, fun h2 => ?_⟩)
    · rw [if_neg (by rw [b2i_0.mp h2]; decide)] at H
      refine c_aW S.1 (bs := bFo) wk_1020 rfl (by decide) (oI ⟨fun h3 => ?_, fun h3 => ?_⟩)
      · rw [if_neg (by rw [b2i_0.mp h3]; decide)] at H
        refine c_tW S.1 (bs := bSa) wk_1021 rfl (by decide) (fun h4 => oI ⟨fun _ => ?_, fun q => absurd rfl q⟩) (fun h4 μ4 e4 t4 => oI ⟨fun q => absurd q (by decide), fun _ => ?_⟩)
        · rw [if_neg (by rw [h4]; decide)] at H
          refine c_tW S.1 (bs := bAb) wk_1022 rfl (by decide) (fun h5 => oI ⟨fun _ => ?_, fun q => absurd rfl q⟩) (fun h5 μ5 e5 t5 => oI ⟨fun q => absurd q (by decide), fun _ => ?_⟩)
          · rw [if_neg (by rw [h5]; decide)] at H
            refine c_tW S.1 (bs := bLo) wk_1023 rfl (by decide) (fun h6 => oI ⟨fun _ => z01 ?_, fun q => absurd rfl q⟩) (fun h6 μ6 e6 t6 => oI ⟨fun q => absurd q (by decide), fun _ => ?_⟩)
            · rw [if_neg (by rw [h6]; decide)] at H
              exact ES_no H rfl (TK_st S.1)
            · rw [if_pos h6] at H
              exact c_rLo (SC_tk S e6 t6) (ES_b (ES_tr H (zTk_SR e6)))
          · rw [if_pos h5] at H
            exact c_rAb (SC_tk S e5 t5) (ES_r (ES_tr H (zTk_SR e5)))
        · rw [if_pos h4] at H
          exact c_rSa (SC_tk S e4 t4) (ES_r (ES_tr H (zTk_SR e4)))
      · rw [if_pos (b2i_n0.mp h3)] at H
        rw [sc_ru S]
        refine ⟨fun q => z01 ?_, fun q => ?_⟩
        · rw [show (12 : Int32) = nI 12 from rfl, nI_leI (by omega) (by omega)] at q
          unfold lnFo at H
          rw [if_neg (by omega)] at H
          exact ES_no H rfl (TK_st S.1)
        · rw [show (12 : Int32) = nI 12 from rfl, nI_leI (by omega) (by omega)] at q
          exact c_rFo S (by omega) (ES_b H)
    · rw [if_pos (b2i_n0.mp h2)] at H
      rw [sc_pe S]
      refine ⟨fun q => z01 ?_, fun q => ?_⟩
      · rw [show (10 : Int32) = nI 10 from rfl, nI_leI (by omega) (by omega)] at q
        unfold lnPe at H
        rw [if_neg (by omega)] at H
        exact ES_no H rfl (TK_st S.1)
      · rw [show (10 : Int32) = nI 10 from rfl, nI_leI (by omega) (by omega)] at q
        exact c_rPe S (by omega) (ES_b H)
  · rw [if_pos (b2i_n0.mp h1)] at H
    rw [sc_th S]
    refine ⟨fun q => z01 ?_, fun q => ?_⟩
    · rw [show (10 : Int32) = nI 10 from rfl, nI_leI (by omega) (by omega)] at q
      unfold lnTh at H
      rw [if_neg (by omega)] at H
      exact ES_no H rfl (TK_st S.1)
    · rw [show (10 : Int32) = nI 10 from rfl, nI_leI (by omega) (by omega)] at q
      exact c_rTh S (by omega) (wdm_n0 (b2i_n0.mp h1)) (ES_b H)
def zSRf (k j : Nat) : Bool := zSR k j || (Nat.beq k 1 && Nat.beq j 2)
def ER (Φ : Out → Mem → Prop) (μ : Mem) (f : Nat → Int32) (n : Nat) (r : PRt WD) : Prop := ∀ μ', Lz zSRf μ' = Lz zSRf μ → (match r with
  | .inl x => SC f n x.2 x.1 μ' → mI μ' 1 2 = -1 → ∀ k, ¬ k = -1 → Φ (.inl (some (.int k))) μ'
  | .inr b => mI μ' 1 2 = nI b → Φ (.inl (some (.int (-1)))) μ')
theorem zSR_f {μ μ' : Mem} (e : Lz zSR μ' = Lz zSR μ) : Lz zSRf μ' = Lz zSRf μ := Lz_up (fun k j h => by unfold zSRf; rw [h]; rfl) e
theorem c_rLs (S : SC f n a w μ) (h2 : mI μ 1 2 = -1) (ha : a < n) (H : ER Φ μ f n (lnsS f n 14 w a)) : WW g i_LineR_readLines 0 Φ 0 0 21 [(0, .ref 70), (1, .int 14), (2, .int 1)] [] μ := by
  have key : ∀ d L a w μ', L + d = 15 → SC f n a w μ' → mI μ' 1 2 = -1 → ER Φ μ' f n (lnsS f n d w a) → WW g i_LineR_readLines 0 Φ 0 0 21 [(0, .ref 70), (1, .int 14), (2, .int (nI L))] [] μ' := by
    intro d
    induction d with
    | zero =>
      intro L a w μ' hL S' h2' H
      refine v_LineR_readLines_S_21 ⟨fun _ => ?_, fun q => absurd ?_ q⟩
      · rw [TK_st S'.1]
        exact H _ (Lz_I rfl) (by rw [rI_I, if_pos rfl, upd_s])
      · rw [show L = 15 by omega]; decide
    | succ d ih =>
      intro L a w μ' hL S' h2' H
      refine v_LineR_readLines_S_21 ⟨fun q => absurd q (nI_nlt (a := 14) (b := L) (by omega) (by omega)), fun _ => c_rLn S' fun μ2 e2 => ?_⟩
      unfold lnsS at H
      cases hr : lnS f n w a with
      | inr b =>
        intro hb
        rw [hr] at H
        simp only [bdP] at H
        refine oI ⟨fun q => absurd rfl q, fun _ => ?_⟩
        rw [hb]
        exact H _ ((Lz_I rfl).trans (zSR_f e2)) (by rw [rI_I, if_pos rfl, upd_s])
      | inl x =>
        intro S2
        rw [hr] at H
        simp only [bdP] at H
        have h22 : mI μ2 1 2 = -1 := (rdI1 e2 rfl).trans h2'
        refine oI ⟨fun _ => c_aE S2.1 (oI ⟨fun q => ?_, fun q => ?_⟩), fun q => absurd q (by decide)⟩
        · have hk := of_decide_eq_false (b2i_0.mp q)
          have := kd_n0 hk
          rw [if_neg (by omega)] at H
          refine c_tS S2.1 (fun h3 => oI ⟨fun q => absurd rfl q, fun _ => ?_⟩) (fun h3 μ3 e3 t3 => oI ⟨fun _ => ?_, fun q => absurd q (by decide)⟩)
          · rw [if_neg (by rw [h3]; decide)] at H
            rw [TK_st S2.1]
            exact H _ ((Lz_I rfl).trans (zSR_f e2)) (by rw [rI_I, if_pos rfl, upd_s])
          · rw [if_pos h3] at H
            rw [← nI_succ]
            refine ih (L + 1) (nxt f n x.2) x.1 μ3 (by omega) (SC_tk S2 e3 t3) ((rdI1 e3 rfl).trans h22) fun μ4 e4 => H μ4 (e4.trans ((zSR_f (zTk_SR e3)).trans (zSR_f e2)))
        · have hk := of_decide_eq_true (b2i_n0.mp q)
          rw [if_pos (kd_0 hk)] at H
          exact H μ2 (zSR_f e2) S2 h22 _ fun q => absurd (show nI L < 0 by rw [q]; decide) (nI_pos (by omega))
  exact key 14 1 a w μ (by omega) S h2 H
end SCD
